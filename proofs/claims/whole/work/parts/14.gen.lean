/-! ZoneCapacity.back(I)Z -/
def tbX6_back : Tb := [(0, .iload_n 1, 1, 1), (1, .ifCond .ne 26, 3, 4), (4, .aload_n 0, 1, 5), (5, .getfield 155, 3, 8), (8, .ifCond .eq 19, 3, 11), (11, .aload_n 0, 1, 12), (12, .getfield 10, 3, 15), (15, .getfield 57, 3, 18), (18, .aload_n 0, 1, 19), (19, .getfield 29, 3, 22), (22, .invokevirtual 60, 3, 25), (25, .iconst 1, 1, 26), (26, .ireturn, 1, 27), (27, .iload_n 1, 1, 28), (28, .iconst 1, 1, 29), (29, .if_icmp .ne 26, 3, 32), (32, .aload_n 0, 1, 33), (33, .getfield 159, 3, 36), (36, .ifCond .eq 19, 3, 39), (39, .aload_n 0, 1, 40), (40, .getfield 10, 3, 43), (43, .getfield 57, 3, 46), (46, .aload_n 0, 1, 47), (47, .getfield 33, 3, 50), (50, .invokevirtual 60, 3, 53), (53, .iconst 1, 1, 54), (54, .ireturn, 1, 55), (55, .iconst 0, 1, 56), (56, .ireturn, 1, 57)]
theorem dtX6_back : ∀ q ∈ tbX6_back, decode cX6_back q.1 = .ok (q.2.1, q.2.2.1) ∧ q.1 + q.2.2.1 = q.2.2.2 := by decide +kernel
theorem miX6_back : MI yX6_back cX6_back 2 (some .boolean) 1 := ⟨tw_mem (List.mem_of_getElem? (i := 620) (by decide +kernel)) rfl, by decide, by decide +kernel, tw_mem (List.mem_of_getElem? (i := 71) (by decide +kernel)) rfl⟩
abbrev rmX6_back : Room := { frames := 3, cells := 0, slots := 0, locals := 64 }
def wX6_back : List Cond := [.fieldLink "ZoneCapacity" 159 "ZoneCapacity" "secondIsKept" "Z", .fieldLink "ZoneCapacity" 10 "ZoneCapacity" "now" "LZoneCapacity$Auction;", .fieldLink "ZoneCapacity" 57 "ZoneCapacity$Auction" "market" "LZoneCapacity$Market;", .fieldLink "ZoneCapacity" 33 "ZoneCapacity" "secondKept" "LZoneCapacity$Market;", .methodLink "ZoneCapacity" 60 yX1_copyFrom, .instanceMethod yX1_copyFrom, .selects "ZoneCapacity$Market" yX1_copyFrom yX1_copyFrom, .fieldLink "ZoneCapacity" 155 "ZoneCapacity" "firstIsKept" "Z", .fieldLink "ZoneCapacity" 29 "ZoneCapacity" "firstKept" "LZoneCapacity$Market;"]
theorem iX6_back : ∀ w ∈ wX6_back, w ∈ TW := tw_of (ids := [323, 317, 222, 321, 361, 362, 363, 322, 320]) (by decide +kernel)
def f6_back_j27 (x1 : Int32) (mm : Mem) : Option (Int32 × Mem) := if x1 = (1 : Int32) then if (mm 14 6) = 0 then some ((0 : Int32), mm) else bd (f1_copyFrom mm 16 114) (fun r1 => some ((1 : Int32), r1)) else some ((0 : Int32), mm)
theorem f6_back_j27_ok {E : Ev} {l : Launch} {C : Cfg} {x : (Int32 × Mem)} (hj : Dj C) (X : Ec E l C rmX6_back) (B : Bx E RX6 tbX6_back 2 (some .boolean)) (hQ : Rt E) (hr : Rs E (some (.int x.1)) x.2) (x1 : Int32) (mm : Mem) (hf : f6_back_j27 x1 mm = some x) : G E 2 27 [(0, .ref 14), (1, .int x1)] [] mm := by
  unfold f6_back_j27 at hf
  refine z_iload_n B 13 rfl 1 1 rfl rfl ?_
  refine z_iconst 1 B 14 rfl (by decide) ?_
  by_cases hc : x1 = (1 : Int32)
  · replace hf := (if_pos hc).symm.trans hf
    refine z_icmp_ne_f B 15 rfl 55 (by decide) hc ?_
    refine z_aload_n B 16 rfl 0 0 rfl rfl ?_
    refine z_geti 6 6 14 B 17 rfl ob_14 rfl (iX6_back _ (List.mem_of_getElem? (i := 0) rfl)) rfl ?_
    by_cases hc : (mm 14 6) = 0
    · replace hf := (if_pos hc).symm.trans hf
      refine z_if_eq_t B 18 rfl 55 (by decide) hc ?_
      refine z_iconst 0 B 27 rfl (by decide) ?_
      cases hf
      exact z_iret B 28 rfl (by decide) hQ hr
    · replace hf := (if_neg hc).symm.trans hf
      refine z_if_eq_f B 18 rfl 55 (by decide) hc ?_
      refine z_aload_n B 19 rfl 0 0 rfl rfl ?_
      refine z_getr 6 0 14 B 20 rfl ob_14 rfl (iX6_back _ (List.mem_of_getElem? (i := 1) rfl)) rfl ?_
      refine z_getr 0 0 15 B 21 rfl ob_15 rfl (iX6_back _ (List.mem_of_getElem? (i := 2) rfl)) rfl ?_
      refine z_aload_n B 22 rfl 0 0 rfl rfl ?_
      refine z_getr 6 4 14 B 23 rfl ob_14 rfl (iX6_back _ (List.mem_of_getElem? (i := 3) rfl)) rfl ?_
      obtain ⟨r1, ec, hf⟩ := bd_e hf
      refine z_callV 16 1 [.ref 114] [] [] X B 24 rfl ob_16 rfl rfl miX1_copyFrom ⟨(iX6_back _ (List.mem_of_getElem? (i := 4) rfl)), (iX6_back _ (List.mem_of_getElem? (i := 5) rfl)), (iX6_back _ (List.mem_of_getElem? (i := 6) rfl))⟩ (ctX1_copyFrom hj ob_16 ob_114 ec) ⟨Nat.le_of_ble_eq_true rfl, Nat.le_of_ble_eq_true rfl⟩ rfl rfl (Nat.le_of_ble_eq_true rfl) rfl ?_
      refine z_iconst 1 B 25 rfl (by decide) ?_
      cases hf
      exact z_iret B 26 rfl (by decide) hQ hr
  · replace hf := (if_neg hc).symm.trans hf
    refine z_icmp_ne_t B 15 rfl 55 (by decide) hc ?_
    refine z_iconst 0 B 27 rfl (by decide) ?_
    cases hf
    exact z_iret B 28 rfl (by decide) hQ hr
def f6_back (mm : Mem) (a1 : Int32) : Option (Int32 × Mem) := if a1 = 0 then if (mm 14 5) = 0 then f6_back_j27 a1 mm else bd (f1_copyFrom mm 16 95) (fun r2 => some ((1 : Int32), r2)) else f6_back_j27 a1 mm
theorem ctX6_back {l : Launch} {C : Cfg} (hj : Dj C) {mm : Mem} {a1 : Int32} {x : (Int32 × Mem)} (hf : f6_back mm a1 = some x) : Ct l C yX6_back cX6_back 2 (some .boolean) 3 64 [.ref 14, .int a1] mm (some (.int x.1)) x.2 := by
  refine Ct.of (tb := tbX6_back) hj miX6_back.2.1 miX6_back.1 dtX6_back (Nat.le_of_ble_eq_true rfl) ?_
  intro E B hQ hr X
  unfold f6_back at hf
  show G E 2 0 [(0, .ref 14), (1, .int a1)] [] mm
  refine z_iload_n B 0 rfl 1 1 rfl rfl ?_
  by_cases hc : a1 = 0
  · replace hf := (if_pos hc).symm.trans hf
    refine z_if_ne_f B 1 rfl 27 (by decide) hc ?_
    refine z_aload_n B 2 rfl 0 0 rfl rfl ?_
    refine z_geti 6 5 14 B 3 rfl ob_14 rfl (iX6_back _ (List.mem_of_getElem? (i := 7) rfl)) rfl ?_
    by_cases hc : (mm 14 5) = 0
    · replace hf := (if_pos hc).symm.trans hf
      refine z_if_eq_t B 4 rfl 27 (by decide) hc ?_
      exact f6_back_j27_ok hj X B hQ hr _ _ hf
    · replace hf := (if_neg hc).symm.trans hf
      refine z_if_eq_f B 4 rfl 27 (by decide) hc ?_
      refine z_aload_n B 5 rfl 0 0 rfl rfl ?_
      refine z_getr 6 0 14 B 6 rfl ob_14 rfl (iX6_back _ (List.mem_of_getElem? (i := 1) rfl)) rfl ?_
      refine z_getr 0 0 15 B 7 rfl ob_15 rfl (iX6_back _ (List.mem_of_getElem? (i := 2) rfl)) rfl ?_
      refine z_aload_n B 8 rfl 0 0 rfl rfl ?_
      refine z_getr 6 3 14 B 9 rfl ob_14 rfl (iX6_back _ (List.mem_of_getElem? (i := 8) rfl)) rfl ?_
      obtain ⟨r2, ec, hf⟩ := bd_e hf
      refine z_callV 16 1 [.ref 95] [] [] X B 10 rfl ob_16 rfl rfl miX1_copyFrom ⟨(iX6_back _ (List.mem_of_getElem? (i := 4) rfl)), (iX6_back _ (List.mem_of_getElem? (i := 5) rfl)), (iX6_back _ (List.mem_of_getElem? (i := 6) rfl))⟩ (ctX1_copyFrom hj ob_16 ob_95 ec) ⟨Nat.le_of_ble_eq_true rfl, Nat.le_of_ble_eq_true rfl⟩ rfl rfl (Nat.le_of_ble_eq_true rfl) rfl ?_
      refine z_iconst 1 B 11 rfl (by decide) ?_
      cases hf
      exact z_iret B 12 rfl (by decide) hQ hr
  · replace hf := (if_neg hc).symm.trans hf
    refine z_if_ne_t B 1 rfl 27 (by decide) hc ?_
    exact f6_back_j27_ok hj X B hQ hr _ _ hf
/-! ZoneCapacity.count(I)I -/
def tbX6_count : Tb := [(0, .iload_n 1, 1, 1), (1, .tableswitch 84 0 3 #[31, 45, 59, 73], 31, 32), (32, .aload_n 0, 1, 33), (33, .getfield 10, 3, 36), (36, .getfield 57, 3, 39), (39, .getfield 71, 3, 42), (42, .getfield 75, 3, 45), (45, .ireturn, 1, 46), (46, .aload_n 0, 1, 47), (47, .getfield 10, 3, 50), (50, .getfield 57, 3, 53), (53, .getfield 106, 3, 56), (56, .getfield 110, 3, 59), (59, .ireturn, 1, 60), (60, .aload_n 0, 1, 61), (61, .getfield 10, 3, 64), (64, .getfield 57, 3, 67), (67, .getfield 106, 3, 70), (70, .getfield 162, 3, 73), (73, .ireturn, 1, 74), (74, .aload_n 0, 1, 75), (75, .getfield 22, 3, 78), (78, .getfield 36, 3, 81), (81, .getfield 40, 3, 84), (84, .ireturn, 1, 85), (85, .iload_n 1, 1, 86), (86, .bipush 10, 2, 88), (88, .bipush 13, 2, 90), (90, .invokestatic 50, 3, 93), (93, .ifCond .eq 26, 3, 96), (96, .aload_n 0, 1, 97), (97, .getfield 10, 3, 100), (100, .getfield 57, 3, 103), (103, .getfield 106, 3, 106), (106, .getfield 133, 3, 109), (109, .iload_n 1, 1, 110), (110, .bipush 10, 2, 112), (112, .isub, 1, 113), (113, .invokestatic 92, 3, 116), (116, .goto 4, 3, 119), (119, .iconst (-1), 1, 120), (120, .ireturn, 1, 121)]
theorem dtX6_count : ∀ q ∈ tbX6_count, decode cX6_count q.1 = .ok (q.2.1, q.2.2.1) ∧ q.1 + q.2.2.1 = q.2.2.2 := by decide +kernel
theorem miX6_count : MI yX6_count cX6_count 2 (some .int) 1 := ⟨tw_mem (List.mem_of_getElem? (i := 624) (by decide +kernel)) rfl, by decide, by decide +kernel, tw_mem (List.mem_of_getElem? (i := 71) (by decide +kernel)) rfl⟩
abbrev rmX6_count : Room := { frames := 1, cells := 0, slots := 0, locals := 22 }
def wX6_count : List Cond := [.fieldLink "ZoneCapacity" 10 "ZoneCapacity" "now" "LZoneCapacity$Auction;", .fieldLink "ZoneCapacity" 57 "ZoneCapacity$Auction" "market" "LZoneCapacity$Market;", .fieldLink "ZoneCapacity" 71 "ZoneCapacity$Market" "zones" "LZoneCapacity$Zones;", .fieldLink "ZoneCapacity" 75 "ZoneCapacity$Zones" "many" "I", .fieldLink "ZoneCapacity" 106 "ZoneCapacity$Market" "offers" "LZoneCapacity$Offers;", .fieldLink "ZoneCapacity" 110 "ZoneCapacity$Offers" "many" "I", .fieldLink "ZoneCapacity" 162 "ZoneCapacity$Offers" "ceiling" "I", .fieldLink "ZoneCapacity" 22 "ZoneCapacity" "teller" "LZoneCapacity$Teller;", .fieldLink "ZoneCapacity" 36 "ZoneCapacity$Teller" "tape" "LZoneCapacity$Tape;", .fieldLink "ZoneCapacity" 40 "ZoneCapacity$Tape" "length" "I", .methodLink "ZoneCapacity" 50 yX6_within, .static yX6_within, .fieldLink "ZoneCapacity" 133 "ZoneCapacity$Offers" "floors" "[I", .methodLink "ZoneCapacity" 92 yX6_at, .static yX6_at]
theorem iX6_count : ∀ w ∈ wX6_count, w ∈ TW := tw_of (ids := [317, 222, 211, 117, 215, 158, 161, 319, 288, 277, 354, 355, 164, 570, 386]) (by decide +kernel)
def f6_count (mm : Mem) (a1 : Int32) : Option Int32 := if a1 = 0 then some (mm 17 0) else if a1 = 1 then some (mm 24 0) else if a1 = 2 then some (mm 24 1) else if a1 = 3 then some (mm 74 1) else bd (f6_within mm a1 (10 : Int32) (13 : Int32)) (fun r1 => if r1 = 0 then some ((-1 : Int32)) else bd (f6_at mm 25 (a1 - (10 : Int32))) (fun r2 => some (r2)))
theorem ctX6_count {l : Launch} {C : Cfg} (hj : Dj C) {mm : Mem} {a1 : Int32} {x : Int32} (hf : f6_count mm a1 = some x) : Ct l C yX6_count cX6_count 2 (some .int) 1 22 [.ref 14, .int a1] mm (some (.int x)) mm := by
  refine Ct.of (tb := tbX6_count) hj miX6_count.2.1 miX6_count.1 dtX6_count (Nat.le_of_ble_eq_true rfl) ?_
  intro E B hQ hr X
  unfold f6_count at hf
  show G E 2 0 [(0, .ref 14), (1, .int a1)] [] mm
  refine z_iload_n B 0 rfl 1 1 rfl rfl ?_
  by_cases hc : a1 = 0
  · replace hf := (if_pos hc).symm.trans hf
    refine z_tswi B 1 rfl 0 (31) 32 (by rw [hc]; decide) (by decide) rfl (by decide) ?_
    refine z_aload_n B 2 rfl 0 0 rfl rfl ?_
    refine z_getr 6 0 14 B 3 rfl ob_14 rfl (iX6_count _ (List.mem_of_getElem? (i := 0) rfl)) rfl ?_
    refine z_getr 0 0 15 B 4 rfl ob_15 rfl (iX6_count _ (List.mem_of_getElem? (i := 1) rfl)) rfl ?_
    refine z_getr 1 0 16 B 5 rfl ob_16 rfl (iX6_count _ (List.mem_of_getElem? (i := 2) rfl)) rfl ?_
    refine z_geti 5 0 17 B 6 rfl ob_17 rfl (iX6_count _ (List.mem_of_getElem? (i := 3) rfl)) rfl ?_
    cases hf
    exact z_iret B 7 rfl rfl hQ hr
  · replace hf := (if_neg hc).symm.trans hf
    have hc0 := hc
    by_cases hc : a1 = 1
    · replace hf := (if_pos hc).symm.trans hf
      refine z_tswi B 1 rfl 1 (45) 46 (by rw [hc]; decide) (by decide) rfl (by decide) ?_
      refine z_aload_n B 8 rfl 0 0 rfl rfl ?_
      refine z_getr 6 0 14 B 9 rfl ob_14 rfl (iX6_count _ (List.mem_of_getElem? (i := 0) rfl)) rfl ?_
      refine z_getr 0 0 15 B 10 rfl ob_15 rfl (iX6_count _ (List.mem_of_getElem? (i := 1) rfl)) rfl ?_
      refine z_getr 1 1 16 B 11 rfl ob_16 rfl (iX6_count _ (List.mem_of_getElem? (i := 4) rfl)) rfl ?_
      refine z_geti 2 0 24 B 12 rfl ob_24 rfl (iX6_count _ (List.mem_of_getElem? (i := 5) rfl)) rfl ?_
      cases hf
      exact z_iret B 13 rfl rfl hQ hr
    · replace hf := (if_neg hc).symm.trans hf
      have hc1 := hc
      by_cases hc : a1 = 2
      · replace hf := (if_pos hc).symm.trans hf
        refine z_tswi B 1 rfl 2 (59) 60 (by rw [hc]; decide) (by decide) rfl (by decide) ?_
        refine z_aload_n B 14 rfl 0 0 rfl rfl ?_
        refine z_getr 6 0 14 B 15 rfl ob_14 rfl (iX6_count _ (List.mem_of_getElem? (i := 0) rfl)) rfl ?_
        refine z_getr 0 0 15 B 16 rfl ob_15 rfl (iX6_count _ (List.mem_of_getElem? (i := 1) rfl)) rfl ?_
        refine z_getr 1 1 16 B 17 rfl ob_16 rfl (iX6_count _ (List.mem_of_getElem? (i := 4) rfl)) rfl ?_
        refine z_geti 2 1 24 B 18 rfl ob_24 rfl (iX6_count _ (List.mem_of_getElem? (i := 6) rfl)) rfl ?_
        cases hf
        exact z_iret B 19 rfl rfl hQ hr
      · replace hf := (if_neg hc).symm.trans hf
        have hc2 := hc
        by_cases hc : a1 = 3
        · replace hf := (if_pos hc).symm.trans hf
          refine z_tswi B 1 rfl 3 (73) 74 (by rw [hc]; decide) (by decide) rfl (by decide) ?_
          refine z_aload_n B 20 rfl 0 0 rfl rfl ?_
          refine z_getr 6 2 14 B 21 rfl ob_14 rfl (iX6_count _ (List.mem_of_getElem? (i := 7) rfl)) rfl ?_
          refine z_getr 4 0 73 B 22 rfl ob_73 rfl (iX6_count _ (List.mem_of_getElem? (i := 8) rfl)) rfl ?_
          refine z_geti 3 1 74 B 23 rfl ob_74 rfl (iX6_count _ (List.mem_of_getElem? (i := 9) rfl)) rfl ?_
          cases hf
          exact z_iret B 24 rfl rfl hQ hr
        · replace hf := (if_neg hc).symm.trans hf
          have hc3 := hc
          refine z_tswo B 1 rfl 85 (tsw_out4 hc0 hc1 hc2 hc3) (by decide) ?_
          refine z_iload_n B 25 rfl 1 1 rfl rfl ?_
          refine z_bipush 10 B 26 rfl (by decide) ?_
          refine z_bipush 13 B 27 rfl (by decide) ?_
          obtain ⟨r1, ec, hf⟩ := bd_e hf
          refine z_callS [.int a1, .int (10 : Int32), .int (13 : Int32)] [] [.int r1] X B 28 rfl miX6_within ⟨(iX6_count _ (List.mem_of_getElem? (i := 10) rfl)), (iX6_count _ (List.mem_of_getElem? (i := 11) rfl))⟩ (ctX6_within hj ec) ⟨Nat.le_of_ble_eq_true rfl, Nat.le_of_ble_eq_true rfl⟩ rfl rfl (Nat.le_of_ble_eq_true rfl) rfl ?_
          by_cases hc : r1 = 0
          · replace hf := (if_pos hc).symm.trans hf
            refine z_if_eq_t B 29 rfl 119 (by decide) hc ?_
            refine z_iconst (-1) B 40 rfl (by decide) ?_
            cases hf
            exact z_iret B 41 rfl rfl hQ hr
          · replace hf := (if_neg hc).symm.trans hf
            refine z_if_eq_f B 29 rfl 119 (by decide) hc ?_
            refine z_aload_n B 30 rfl 0 0 rfl rfl ?_
            refine z_getr 6 0 14 B 31 rfl ob_14 rfl (iX6_count _ (List.mem_of_getElem? (i := 0) rfl)) rfl ?_
            refine z_getr 0 0 15 B 32 rfl ob_15 rfl (iX6_count _ (List.mem_of_getElem? (i := 1) rfl)) rfl ?_
            refine z_getr 1 1 16 B 33 rfl ob_16 rfl (iX6_count _ (List.mem_of_getElem? (i := 4) rfl)) rfl ?_
            refine z_getr 2 2 24 B 34 rfl ob_24 rfl (iX6_count _ (List.mem_of_getElem? (i := 12) rfl)) rfl ?_
            refine z_iload_n B 35 rfl 1 1 rfl rfl ?_
            refine z_bipush 10 B 36 rfl (by decide) ?_
            refine z_isub B 37 rfl ?_
            obtain ⟨r2, ec, hf⟩ := bd_e hf
            refine z_callS [.ref 25, .int (a1 - (10 : Int32))] [] [.int r2] X B 38 rfl miX6_at ⟨(iX6_count _ (List.mem_of_getElem? (i := 13) rfl)), (iX6_count _ (List.mem_of_getElem? (i := 14) rfl))⟩ (ctX6_at hj ob_25 ec) ⟨Nat.le_of_ble_eq_true rfl, Nat.le_of_ble_eq_true rfl⟩ rfl rfl (Nat.le_of_ble_eq_true rfl) rfl ?_
            refine z_goto B 39 rfl 120 (by decide) ?_
            cases hf
            exact z_iret B 41 rfl rfl hQ hr
/-! ZoneCapacity.zoneOf(II)I -/
def tbX6_zoneOf : Tb := [(0, .aload_n 0, 1, 1), (1, .getfield 10, 3, 4), (4, .getfield 57, 3, 7), (7, .getfield 71, 3, 10), (10, .astore_n 3, 1, 11), (11, .aload_n 3, 1, 12), (12, .iload_n 1, 1, 13), (13, .invokevirtual 80, 3, 16), (16, .ifCond .ne 11, 3, 19), (19, .new 165, 3, 22), (22, .dup, 1, 23), (23, .invokespecial 167, 3, 26), (26, .athrow, 1, 27), (27, .iload_n 2, 1, 28), (28, .tableswitch 105 0 5 #[40, 57, 66, 75, 84, 90], 40, 68), (68, .iload_n 1, 1, 69), (69, .ifCond .ne 7, 3, 72), (72, .iconst (-1), 1, 73), (73, .goto 11, 3, 76), (76, .aload_n 3, 1, 77), (77, .getfield 168, 3, 80), (80, .iload_n 1, 1, 81), (81, .invokestatic 92, 3, 84), (84, .ireturn, 1, 85), (85, .aload_n 3, 1, 86), (86, .getfield 146, 3, 89), (89, .iload_n 1, 1, 90), (90, .invokestatic 92, 3, 93), (93, .ireturn, 1, 94), (94, .aload_n 3, 1, 95), (95, .getfield 149, 3, 98), (98, .iload_n 1, 1, 99), (99, .invokestatic 92, 3, 102), (102, .ireturn, 1, 103), (103, .aload_n 3, 1, 104), (104, .getfield 88, 3, 107), (107, .iload_n 1, 1, 108), (108, .invokestatic 92, 3, 111), (111, .ireturn, 1, 112), (112, .aload_n 3, 1, 113), (113, .iload_n 1, 1, 114), (114, .invokevirtual 96, 3, 117), (117, .ireturn, 1, 118), (118, .aload_n 0, 1, 119), (119, .getfield 10, 3, 122), (122, .getfield 57, 3, 125), (125, .getfield 106, 3, 128), (128, .iload_n 1, 1, 129), (129, .invokevirtual 171, 3, 132), (132, .ireturn, 1, 133), (133, .new 165, 3, 136), (136, .dup, 1, 137), (137, .invokespecial 167, 3, 140), (140, .athrow, 1, 141)]
theorem dtX6_zoneOf : ∀ q ∈ tbX6_zoneOf, decode cX6_zoneOf q.1 = .ok (q.2.1, q.2.2.1) ∧ q.1 + q.2.2.1 = q.2.2.2 := by decide +kernel
theorem miX6_zoneOf : MI yX6_zoneOf cX6_zoneOf 4 (some .int) 2 := ⟨tw_mem (List.mem_of_getElem? (i := 859) (by decide +kernel)) rfl, by decide, by decide +kernel, tw_mem (List.mem_of_getElem? (i := 71) (by decide +kernel)) rfl⟩
abbrev rmX6_zoneOf : Room := { frames := 6, cells := 0, slots := 0, locals := 150 }
def wX6_zoneOf : List Cond := [.fieldLink "ZoneCapacity" 10 "ZoneCapacity" "now" "LZoneCapacity$Auction;", .fieldLink "ZoneCapacity" 57 "ZoneCapacity$Auction" "market" "LZoneCapacity$Market;", .fieldLink "ZoneCapacity" 71 "ZoneCapacity$Market" "zones" "LZoneCapacity$Zones;", .methodLink "ZoneCapacity" 80 yX5_has, .instanceMethod yX5_has, .selects "ZoneCapacity$Zones" yX5_has yX5_has, .fieldLink "ZoneCapacity" 168 "ZoneCapacity$Zones" "outer" "[I", .methodLink "ZoneCapacity" 92 yX6_at, .static yX6_at, .fieldLink "ZoneCapacity" 146 "ZoneCapacity$Zones" "in" "[I", .fieldLink "ZoneCapacity" 149 "ZoneCapacity$Zones" "out" "[I", .fieldLink "ZoneCapacity" 88 "ZoneCapacity$Zones" "points" "[I", .methodLink "ZoneCapacity" 96 yX5_wanted, .instanceMethod yX5_wanted, .selects "ZoneCapacity$Zones" yX5_wanted yX5_wanted, .fieldLink "ZoneCapacity" 106 "ZoneCapacity$Market" "offers" "LZoneCapacity$Offers;", .methodLink "ZoneCapacity" 171 yX2_bitsIn, .instanceMethod yX2_bitsIn, .selects "ZoneCapacity$Offers" yX2_bitsIn yX2_bitsIn]
theorem iX6_zoneOf : ∀ w ∈ wX6_zoneOf, w ∈ TW := tw_of (ids := [317, 222, 211, 561, 562, 563, 120, 570, 386, 123, 127, 130, 571, 487, 488, 215, 921, 922, 923]) (by decide +kernel)
def f6_zoneOf (mm : Mem) (a1 : Int32) (a2 : Int32) : Option Int32 := bd (f5_has mm 17 a1) (fun r1 => if r1 = 0 then none else if a2 = 0 then if a1 = 0 then some ((-1 : Int32)) else bd (f6_at mm 18 a1) (fun r2 => some (r2)) else if a2 = 1 then bd (f6_at mm 19 a1) (fun r3 => some (r3)) else if a2 = 2 then bd (f6_at mm 20 a1) (fun r4 => some (r4)) else if a2 = 3 then bd (f6_at mm 21 a1) (fun r5 => some (r5)) else if a2 = 4 then bd (f5_wanted mm 17 a1) (fun r6 => some (r6)) else if a2 = 5 then bd (f2_bitsIn mm 24 a1) (fun r7 => some (r7)) else none)
theorem ctX6_zoneOf {l : Launch} {C : Cfg} (hj : Dj C) {mm : Mem} {a1 : Int32} {a2 : Int32} {x : Int32} (hf : f6_zoneOf mm a1 a2 = some x) : Ct l C yX6_zoneOf cX6_zoneOf 4 (some .int) 6 150 [.ref 14, .int a1, .int a2] mm (some (.int x)) mm := by
  refine Ct.of (tb := tbX6_zoneOf) hj miX6_zoneOf.2.1 miX6_zoneOf.1 dtX6_zoneOf (Nat.le_of_ble_eq_true rfl) ?_
  intro E B hQ hr X
  unfold f6_zoneOf at hf
  show G E 4 0 [(0, .ref 14), (1, .int a1), (2, .int a2)] [] mm
  refine z_aload_n B 0 rfl 0 0 rfl rfl ?_
  refine z_getr 6 0 14 B 1 rfl ob_14 rfl (iX6_zoneOf _ (List.mem_of_getElem? (i := 0) rfl)) rfl ?_
  refine z_getr 0 0 15 B 2 rfl ob_15 rfl (iX6_zoneOf _ (List.mem_of_getElem? (i := 1) rfl)) rfl ?_
  refine z_getr 1 0 16 B 3 rfl ob_16 rfl (iX6_zoneOf _ (List.mem_of_getElem? (i := 2) rfl)) rfl ?_
  refine z_astore_n [(3, .ref 17), (0, .ref 14), (1, .int a1), (2, .int a2)] B 4 rfl 3 rfl (by decide) rfl ?_
  refine z_aload_n B 5 rfl 3 0 rfl rfl ?_
  refine z_iload_n B 6 rfl 1 2 rfl rfl ?_
  obtain ⟨r1, ec, hf⟩ := bd_e hf
  refine z_callV 17 5 [.int a1] [] [.int r1] X B 7 rfl ob_17 rfl rfl miX5_has ⟨(iX6_zoneOf _ (List.mem_of_getElem? (i := 3) rfl)), (iX6_zoneOf _ (List.mem_of_getElem? (i := 4) rfl)), (iX6_zoneOf _ (List.mem_of_getElem? (i := 5) rfl))⟩ (ctX5_has hj ob_17 ec) ⟨Nat.le_of_ble_eq_true rfl, Nat.le_of_ble_eq_true rfl⟩ rfl rfl (Nat.le_of_ble_eq_true rfl) rfl ?_
  by_cases hc : r1 = 0
  · replace hf := (if_pos hc).symm.trans hf
    refine z_if_ne_f B 8 rfl 27 (by decide) hc ?_
    cases hf
  · replace hf := (if_neg hc).symm.trans hf
    refine z_if_ne_t B 8 rfl 27 (by decide) hc ?_
    refine z_iload_n B 13 rfl 2 3 rfl rfl ?_
    by_cases hc : a2 = 0
    · replace hf := (if_pos hc).symm.trans hf
      refine z_tswi B 14 rfl 0 (40) 68 (by rw [hc]; decide) (by decide) rfl (by decide) ?_
      refine z_iload_n B 15 rfl 1 2 rfl rfl ?_
      by_cases hc : a1 = 0
      · replace hf := (if_pos hc).symm.trans hf
        refine z_if_ne_f B 16 rfl 76 (by decide) hc ?_
        refine z_iconst (-1) B 17 rfl (by decide) ?_
        refine z_goto B 18 rfl 84 (by decide) ?_
        cases hf
        exact z_iret B 23 rfl rfl hQ hr
      · replace hf := (if_neg hc).symm.trans hf
        refine z_if_ne_t B 16 rfl 76 (by decide) hc ?_
        refine z_aload_n B 19 rfl 3 0 rfl rfl ?_
        refine z_getr 5 1 17 B 20 rfl ob_17 rfl (iX6_zoneOf _ (List.mem_of_getElem? (i := 6) rfl)) rfl ?_
        refine z_iload_n B 21 rfl 1 2 rfl rfl ?_
        obtain ⟨r2, ec, hf⟩ := bd_e hf
        refine z_callS [.ref 18, .int a1] [] [.int r2] X B 22 rfl miX6_at ⟨(iX6_zoneOf _ (List.mem_of_getElem? (i := 7) rfl)), (iX6_zoneOf _ (List.mem_of_getElem? (i := 8) rfl))⟩ (ctX6_at hj ob_18 ec) ⟨Nat.le_of_ble_eq_true rfl, Nat.le_of_ble_eq_true rfl⟩ rfl rfl (Nat.le_of_ble_eq_true rfl) rfl ?_
        cases hf
        exact z_iret B 23 rfl rfl hQ hr
    · replace hf := (if_neg hc).symm.trans hf
      have hc0 := hc
      by_cases hc : a2 = 1
      · replace hf := (if_pos hc).symm.trans hf
        refine z_tswi B 14 rfl 1 (57) 85 (by rw [hc]; decide) (by decide) rfl (by decide) ?_
        refine z_aload_n B 24 rfl 3 0 rfl rfl ?_
        refine z_getr 5 2 17 B 25 rfl ob_17 rfl (iX6_zoneOf _ (List.mem_of_getElem? (i := 9) rfl)) rfl ?_
        refine z_iload_n B 26 rfl 1 2 rfl rfl ?_
        obtain ⟨r3, ec, hf⟩ := bd_e hf
        refine z_callS [.ref 19, .int a1] [] [.int r3] X B 27 rfl miX6_at ⟨(iX6_zoneOf _ (List.mem_of_getElem? (i := 7) rfl)), (iX6_zoneOf _ (List.mem_of_getElem? (i := 8) rfl))⟩ (ctX6_at hj ob_19 ec) ⟨Nat.le_of_ble_eq_true rfl, Nat.le_of_ble_eq_true rfl⟩ rfl rfl (Nat.le_of_ble_eq_true rfl) rfl ?_
        cases hf
        exact z_iret B 28 rfl rfl hQ hr
      · replace hf := (if_neg hc).symm.trans hf
        have hc1 := hc
        by_cases hc : a2 = 2
        · replace hf := (if_pos hc).symm.trans hf
          refine z_tswi B 14 rfl 2 (66) 94 (by rw [hc]; decide) (by decide) rfl (by decide) ?_
          refine z_aload_n B 29 rfl 3 0 rfl rfl ?_
          refine z_getr 5 3 17 B 30 rfl ob_17 rfl (iX6_zoneOf _ (List.mem_of_getElem? (i := 10) rfl)) rfl ?_
          refine z_iload_n B 31 rfl 1 2 rfl rfl ?_
          obtain ⟨r4, ec, hf⟩ := bd_e hf
          refine z_callS [.ref 20, .int a1] [] [.int r4] X B 32 rfl miX6_at ⟨(iX6_zoneOf _ (List.mem_of_getElem? (i := 7) rfl)), (iX6_zoneOf _ (List.mem_of_getElem? (i := 8) rfl))⟩ (ctX6_at hj ob_20 ec) ⟨Nat.le_of_ble_eq_true rfl, Nat.le_of_ble_eq_true rfl⟩ rfl rfl (Nat.le_of_ble_eq_true rfl) rfl ?_
          cases hf
          exact z_iret B 33 rfl rfl hQ hr
        · replace hf := (if_neg hc).symm.trans hf
          have hc2 := hc
          by_cases hc : a2 = 3
          · replace hf := (if_pos hc).symm.trans hf
            refine z_tswi B 14 rfl 3 (75) 103 (by rw [hc]; decide) (by decide) rfl (by decide) ?_
            refine z_aload_n B 34 rfl 3 0 rfl rfl ?_
            refine z_getr 5 4 17 B 35 rfl ob_17 rfl (iX6_zoneOf _ (List.mem_of_getElem? (i := 11) rfl)) rfl ?_
            refine z_iload_n B 36 rfl 1 2 rfl rfl ?_
            obtain ⟨r5, ec, hf⟩ := bd_e hf
            refine z_callS [.ref 21, .int a1] [] [.int r5] X B 37 rfl miX6_at ⟨(iX6_zoneOf _ (List.mem_of_getElem? (i := 7) rfl)), (iX6_zoneOf _ (List.mem_of_getElem? (i := 8) rfl))⟩ (ctX6_at hj ob_21 ec) ⟨Nat.le_of_ble_eq_true rfl, Nat.le_of_ble_eq_true rfl⟩ rfl rfl (Nat.le_of_ble_eq_true rfl) rfl ?_
            cases hf
            exact z_iret B 38 rfl rfl hQ hr
          · replace hf := (if_neg hc).symm.trans hf
            have hc3 := hc
            by_cases hc : a2 = 4
            · replace hf := (if_pos hc).symm.trans hf
              refine z_tswi B 14 rfl 4 (84) 112 (by rw [hc]; decide) (by decide) rfl (by decide) ?_
              refine z_aload_n B 39 rfl 3 0 rfl rfl ?_
              refine z_iload_n B 40 rfl 1 2 rfl rfl ?_
              obtain ⟨r6, ec, hf⟩ := bd_e hf
              refine z_callV 17 5 [.int a1] [] [.int r6] X B 41 rfl ob_17 rfl rfl miX5_wanted ⟨(iX6_zoneOf _ (List.mem_of_getElem? (i := 12) rfl)), (iX6_zoneOf _ (List.mem_of_getElem? (i := 13) rfl)), (iX6_zoneOf _ (List.mem_of_getElem? (i := 14) rfl))⟩ (ctX5_wanted hj ob_17 ec) ⟨Nat.le_of_ble_eq_true rfl, Nat.le_of_ble_eq_true rfl⟩ rfl rfl (Nat.le_of_ble_eq_true rfl) rfl ?_
              cases hf
              exact z_iret B 42 rfl rfl hQ hr
            · replace hf := (if_neg hc).symm.trans hf
              have hc4 := hc
              by_cases hc : a2 = 5
              · replace hf := (if_pos hc).symm.trans hf
                refine z_tswi B 14 rfl 5 (90) 118 (by rw [hc]; decide) (by decide) rfl (by decide) ?_
                refine z_aload_n B 43 rfl 0 1 rfl rfl ?_
                refine z_getr 6 0 14 B 44 rfl ob_14 rfl (iX6_zoneOf _ (List.mem_of_getElem? (i := 0) rfl)) rfl ?_
                refine z_getr 0 0 15 B 45 rfl ob_15 rfl (iX6_zoneOf _ (List.mem_of_getElem? (i := 1) rfl)) rfl ?_
                refine z_getr 1 1 16 B 46 rfl ob_16 rfl (iX6_zoneOf _ (List.mem_of_getElem? (i := 15) rfl)) rfl ?_
                refine z_iload_n B 47 rfl 1 2 rfl rfl ?_
                obtain ⟨r7, ec, hf⟩ := bd_e hf
                refine z_callV 24 2 [.int a1] [] [.int r7] X B 48 rfl ob_24 rfl rfl miX2_bitsIn ⟨(iX6_zoneOf _ (List.mem_of_getElem? (i := 16) rfl)), (iX6_zoneOf _ (List.mem_of_getElem? (i := 17) rfl)), (iX6_zoneOf _ (List.mem_of_getElem? (i := 18) rfl))⟩ (ctX2_bitsIn hj ob_24 ec) ⟨Nat.le_of_ble_eq_true rfl, Nat.le_of_ble_eq_true rfl⟩ rfl rfl (Nat.le_of_ble_eq_true rfl) rfl ?_
                cases hf
                exact z_iret B 49 rfl rfl hQ hr
              · replace hf := (if_neg hc).symm.trans hf
                have hc5 := hc
                refine z_tswo B 14 rfl 133 (tsw_out6 hc0 hc1 hc2 hc3 hc4 hc5) (by decide) ?_
                cases hf
/-! ZoneCapacity.resourceOf(II)I -/
def tbX6_resourceOf : Tb := [(0, .aload_n 0, 1, 1), (1, .getfield 10, 3, 4), (4, .getfield 57, 3, 7), (7, .getfield 106, 3, 10), (10, .astore_n 3, 1, 11), (11, .aload_n 3, 1, 12), (12, .iload_n 1, 1, 13), (13, .invokevirtual 116, 3, 16), (16, .ifCond .ne 11, 3, 19), (19, .new 165, 3, 22), (22, .dup, 1, 23), (23, .invokespecial 167, 3, 26), (26, .athrow, 1, 27), (27, .iload_n 2, 1, 28), (28, .tableswitch 107 0 6 #[44, 53, 62, 71, 80, 89, 98], 44, 72), (72, .aload_n 3, 1, 73), (73, .getfield 174, 3, 76), (76, .iload_n 1, 1, 77), (77, .invokestatic 92, 3, 80), (80, .ireturn, 1, 81), (81, .aload_n 3, 1, 82), (82, .getfield 176, 3, 85), (85, .iload_n 1, 1, 86), (86, .invokestatic 92, 3, 89), (89, .ireturn, 1, 90), (90, .aload_n 3, 1, 91), (91, .getfield 179, 3, 94), (94, .iload_n 1, 1, 95), (95, .invokestatic 92, 3, 98), (98, .ireturn, 1, 99), (99, .aload_n 3, 1, 100), (100, .getfield 182, 3, 103), (103, .iload_n 1, 1, 104), (104, .invokestatic 92, 3, 107), (107, .ireturn, 1, 108), (108, .aload_n 3, 1, 109), (109, .getfield 185, 3, 112), (112, .iload_n 1, 1, 113), (113, .invokestatic 92, 3, 116), (116, .ireturn, 1, 117), (117, .aload_n 3, 1, 118), (118, .getfield 152, 3, 121), (121, .iload_n 1, 1, 122), (122, .invokestatic 92, 3, 125), (125, .ireturn, 1, 126), (126, .aload_n 3, 1, 127), (127, .getfield 117, 3, 130), (130, .iload_n 1, 1, 131), (131, .invokestatic 92, 3, 134), (134, .ireturn, 1, 135), (135, .new 165, 3, 138), (138, .dup, 1, 139), (139, .invokespecial 167, 3, 142), (142, .athrow, 1, 143)]
theorem dtX6_resourceOf : ∀ q ∈ tbX6_resourceOf, decode cX6_resourceOf q.1 = .ok (q.2.1, q.2.2.1) ∧ q.1 + q.2.2.1 = q.2.2.2 := by decide +kernel
theorem miX6_resourceOf : MI yX6_resourceOf cX6_resourceOf 4 (some .int) 2 := ⟨tw_mem (List.mem_of_getElem? (i := 931) (by decide +kernel)) rfl, by decide, by decide +kernel, tw_mem (List.mem_of_getElem? (i := 71) (by decide +kernel)) rfl⟩
abbrev rmX6_resourceOf : Room := { frames := 6, cells := 0, slots := 0, locals := 150 }
def wX6_resourceOf : List Cond := [.fieldLink "ZoneCapacity" 10 "ZoneCapacity" "now" "LZoneCapacity$Auction;", .fieldLink "ZoneCapacity" 57 "ZoneCapacity$Auction" "market" "LZoneCapacity$Market;", .fieldLink "ZoneCapacity" 106 "ZoneCapacity$Market" "offers" "LZoneCapacity$Offers;", .methodLink "ZoneCapacity" 116 yX2_has, .instanceMethod yX2_has, .selects "ZoneCapacity$Offers" yX2_has yX2_has, .fieldLink "ZoneCapacity" 174 "ZoneCapacity$Offers" "zones" "[I", .methodLink "ZoneCapacity" 92 yX6_at, .static yX6_at, .fieldLink "ZoneCapacity" 176 "ZoneCapacity$Offers" "sizes" "[I", .fieldLink "ZoneCapacity" 179 "ZoneCapacity$Offers" "kinds" "[I", .fieldLink "ZoneCapacity" 182 "ZoneCapacity$Offers" "owners" "[I", .fieldLink "ZoneCapacity" 185 "ZoneCapacity$Offers" "must" "[I", .fieldLink "ZoneCapacity" 152 "ZoneCapacity$Offers" "free" "[I", .fieldLink "ZoneCapacity" 117 "ZoneCapacity$Offers" "steps" "[I"]
theorem iX6_resourceOf : ∀ w ∈ wX6_resourceOf, w ∈ TW := tw_of (ids := [317, 222, 215, 583, 584, 585, 167, 570, 386, 169, 171, 173, 176, 178, 180]) (by decide +kernel)
def f6_resourceOf (mm : Mem) (a1 : Int32) (a2 : Int32) : Option Int32 := bd (f2_has mm 24 a1) (fun r1 => if r1 = 0 then none else if a2 = 0 then bd (f6_at mm 26 a1) (fun r2 => some (r2)) else if a2 = 1 then bd (f6_at mm 27 a1) (fun r3 => some (r3)) else if a2 = 2 then bd (f6_at mm 28 a1) (fun r4 => some (r4)) else if a2 = 3 then bd (f6_at mm 29 a1) (fun r5 => some (r5)) else if a2 = 4 then bd (f6_at mm 30 a1) (fun r6 => some (r6)) else if a2 = 5 then bd (f6_at mm 31 a1) (fun r7 => some (r7)) else if a2 = 6 then bd (f6_at mm 32 a1) (fun r8 => some (r8)) else none)
theorem ctX6_resourceOf {l : Launch} {C : Cfg} (hj : Dj C) {mm : Mem} {a1 : Int32} {a2 : Int32} {x : Int32} (hf : f6_resourceOf mm a1 a2 = some x) : Ct l C yX6_resourceOf cX6_resourceOf 4 (some .int) 6 150 [.ref 14, .int a1, .int a2] mm (some (.int x)) mm := by
  refine Ct.of (tb := tbX6_resourceOf) hj miX6_resourceOf.2.1 miX6_resourceOf.1 dtX6_resourceOf (Nat.le_of_ble_eq_true rfl) ?_
  intro E B hQ hr X
  unfold f6_resourceOf at hf
  show G E 4 0 [(0, .ref 14), (1, .int a1), (2, .int a2)] [] mm
  refine z_aload_n B 0 rfl 0 0 rfl rfl ?_
  refine z_getr 6 0 14 B 1 rfl ob_14 rfl (iX6_resourceOf _ (List.mem_of_getElem? (i := 0) rfl)) rfl ?_
  refine z_getr 0 0 15 B 2 rfl ob_15 rfl (iX6_resourceOf _ (List.mem_of_getElem? (i := 1) rfl)) rfl ?_
  refine z_getr 1 1 16 B 3 rfl ob_16 rfl (iX6_resourceOf _ (List.mem_of_getElem? (i := 2) rfl)) rfl ?_
  refine z_astore_n [(3, .ref 24), (0, .ref 14), (1, .int a1), (2, .int a2)] B 4 rfl 3 rfl (by decide) rfl ?_
  refine z_aload_n B 5 rfl 3 0 rfl rfl ?_
  refine z_iload_n B 6 rfl 1 2 rfl rfl ?_
  obtain ⟨r1, ec, hf⟩ := bd_e hf
  refine z_callV 24 2 [.int a1] [] [.int r1] X B 7 rfl ob_24 rfl rfl miX2_has ⟨(iX6_resourceOf _ (List.mem_of_getElem? (i := 3) rfl)), (iX6_resourceOf _ (List.mem_of_getElem? (i := 4) rfl)), (iX6_resourceOf _ (List.mem_of_getElem? (i := 5) rfl))⟩ (ctX2_has hj ob_24 ec) ⟨Nat.le_of_ble_eq_true rfl, Nat.le_of_ble_eq_true rfl⟩ rfl rfl (Nat.le_of_ble_eq_true rfl) rfl ?_
  by_cases hc : r1 = 0
  · replace hf := (if_pos hc).symm.trans hf
    refine z_if_ne_f B 8 rfl 27 (by decide) hc ?_
    cases hf
  · replace hf := (if_neg hc).symm.trans hf
    refine z_if_ne_t B 8 rfl 27 (by decide) hc ?_
    refine z_iload_n B 13 rfl 2 3 rfl rfl ?_
    by_cases hc : a2 = 0
    · replace hf := (if_pos hc).symm.trans hf
      refine z_tswi B 14 rfl 0 (44) 72 (by rw [hc]; decide) (by decide) rfl (by decide) ?_
      refine z_aload_n B 15 rfl 3 0 rfl rfl ?_
      refine z_getr 2 3 24 B 16 rfl ob_24 rfl (iX6_resourceOf _ (List.mem_of_getElem? (i := 6) rfl)) rfl ?_
      refine z_iload_n B 17 rfl 1 2 rfl rfl ?_
      obtain ⟨r2, ec, hf⟩ := bd_e hf
      refine z_callS [.ref 26, .int a1] [] [.int r2] X B 18 rfl miX6_at ⟨(iX6_resourceOf _ (List.mem_of_getElem? (i := 7) rfl)), (iX6_resourceOf _ (List.mem_of_getElem? (i := 8) rfl))⟩ (ctX6_at hj ob_26 ec) ⟨Nat.le_of_ble_eq_true rfl, Nat.le_of_ble_eq_true rfl⟩ rfl rfl (Nat.le_of_ble_eq_true rfl) rfl ?_
      cases hf
      exact z_iret B 19 rfl rfl hQ hr
    · replace hf := (if_neg hc).symm.trans hf
      have hc0 := hc
      by_cases hc : a2 = 1
      · replace hf := (if_pos hc).symm.trans hf
        refine z_tswi B 14 rfl 1 (53) 81 (by rw [hc]; decide) (by decide) rfl (by decide) ?_
        refine z_aload_n B 20 rfl 3 0 rfl rfl ?_
        refine z_getr 2 4 24 B 21 rfl ob_24 rfl (iX6_resourceOf _ (List.mem_of_getElem? (i := 9) rfl)) rfl ?_
        refine z_iload_n B 22 rfl 1 2 rfl rfl ?_
        obtain ⟨r3, ec, hf⟩ := bd_e hf
        refine z_callS [.ref 27, .int a1] [] [.int r3] X B 23 rfl miX6_at ⟨(iX6_resourceOf _ (List.mem_of_getElem? (i := 7) rfl)), (iX6_resourceOf _ (List.mem_of_getElem? (i := 8) rfl))⟩ (ctX6_at hj ob_27 ec) ⟨Nat.le_of_ble_eq_true rfl, Nat.le_of_ble_eq_true rfl⟩ rfl rfl (Nat.le_of_ble_eq_true rfl) rfl ?_
        cases hf
        exact z_iret B 24 rfl rfl hQ hr
      · replace hf := (if_neg hc).symm.trans hf
        have hc1 := hc
        by_cases hc : a2 = 2
        · replace hf := (if_pos hc).symm.trans hf
          refine z_tswi B 14 rfl 2 (62) 90 (by rw [hc]; decide) (by decide) rfl (by decide) ?_
          refine z_aload_n B 25 rfl 3 0 rfl rfl ?_
          refine z_getr 2 5 24 B 26 rfl ob_24 rfl (iX6_resourceOf _ (List.mem_of_getElem? (i := 10) rfl)) rfl ?_
          refine z_iload_n B 27 rfl 1 2 rfl rfl ?_
          obtain ⟨r4, ec, hf⟩ := bd_e hf
          refine z_callS [.ref 28, .int a1] [] [.int r4] X B 28 rfl miX6_at ⟨(iX6_resourceOf _ (List.mem_of_getElem? (i := 7) rfl)), (iX6_resourceOf _ (List.mem_of_getElem? (i := 8) rfl))⟩ (ctX6_at hj ob_28 ec) ⟨Nat.le_of_ble_eq_true rfl, Nat.le_of_ble_eq_true rfl⟩ rfl rfl (Nat.le_of_ble_eq_true rfl) rfl ?_
          cases hf
          exact z_iret B 29 rfl rfl hQ hr
        · replace hf := (if_neg hc).symm.trans hf
          have hc2 := hc
          by_cases hc : a2 = 3
          · replace hf := (if_pos hc).symm.trans hf
            refine z_tswi B 14 rfl 3 (71) 99 (by rw [hc]; decide) (by decide) rfl (by decide) ?_
            refine z_aload_n B 30 rfl 3 0 rfl rfl ?_
            refine z_getr 2 6 24 B 31 rfl ob_24 rfl (iX6_resourceOf _ (List.mem_of_getElem? (i := 11) rfl)) rfl ?_
            refine z_iload_n B 32 rfl 1 2 rfl rfl ?_
            obtain ⟨r5, ec, hf⟩ := bd_e hf
            refine z_callS [.ref 29, .int a1] [] [.int r5] X B 33 rfl miX6_at ⟨(iX6_resourceOf _ (List.mem_of_getElem? (i := 7) rfl)), (iX6_resourceOf _ (List.mem_of_getElem? (i := 8) rfl))⟩ (ctX6_at hj ob_29 ec) ⟨Nat.le_of_ble_eq_true rfl, Nat.le_of_ble_eq_true rfl⟩ rfl rfl (Nat.le_of_ble_eq_true rfl) rfl ?_
            cases hf
            exact z_iret B 34 rfl rfl hQ hr
          · replace hf := (if_neg hc).symm.trans hf
            have hc3 := hc
            by_cases hc : a2 = 4
            · replace hf := (if_pos hc).symm.trans hf
              refine z_tswi B 14 rfl 4 (80) 108 (by rw [hc]; decide) (by decide) rfl (by decide) ?_
              refine z_aload_n B 35 rfl 3 0 rfl rfl ?_
              refine z_getr 2 7 24 B 36 rfl ob_24 rfl (iX6_resourceOf _ (List.mem_of_getElem? (i := 12) rfl)) rfl ?_
              refine z_iload_n B 37 rfl 1 2 rfl rfl ?_
              obtain ⟨r6, ec, hf⟩ := bd_e hf
              refine z_callS [.ref 30, .int a1] [] [.int r6] X B 38 rfl miX6_at ⟨(iX6_resourceOf _ (List.mem_of_getElem? (i := 7) rfl)), (iX6_resourceOf _ (List.mem_of_getElem? (i := 8) rfl))⟩ (ctX6_at hj ob_30 ec) ⟨Nat.le_of_ble_eq_true rfl, Nat.le_of_ble_eq_true rfl⟩ rfl rfl (Nat.le_of_ble_eq_true rfl) rfl ?_
              cases hf
              exact z_iret B 39 rfl rfl hQ hr
            · replace hf := (if_neg hc).symm.trans hf
              have hc4 := hc
              by_cases hc : a2 = 5
              · replace hf := (if_pos hc).symm.trans hf
                refine z_tswi B 14 rfl 5 (89) 117 (by rw [hc]; decide) (by decide) rfl (by decide) ?_
                refine z_aload_n B 40 rfl 3 0 rfl rfl ?_
                refine z_getr 2 8 24 B 41 rfl ob_24 rfl (iX6_resourceOf _ (List.mem_of_getElem? (i := 13) rfl)) rfl ?_
                refine z_iload_n B 42 rfl 1 2 rfl rfl ?_
                obtain ⟨r7, ec, hf⟩ := bd_e hf
                refine z_callS [.ref 31, .int a1] [] [.int r7] X B 43 rfl miX6_at ⟨(iX6_resourceOf _ (List.mem_of_getElem? (i := 7) rfl)), (iX6_resourceOf _ (List.mem_of_getElem? (i := 8) rfl))⟩ (ctX6_at hj ob_31 ec) ⟨Nat.le_of_ble_eq_true rfl, Nat.le_of_ble_eq_true rfl⟩ rfl rfl (Nat.le_of_ble_eq_true rfl) rfl ?_
                cases hf
                exact z_iret B 44 rfl rfl hQ hr
              · replace hf := (if_neg hc).symm.trans hf
                have hc5 := hc
                by_cases hc : a2 = 6
                · replace hf := (if_pos hc).symm.trans hf
                  refine z_tswi B 14 rfl 6 (98) 126 (by rw [hc]; decide) (by decide) rfl (by decide) ?_
                  refine z_aload_n B 45 rfl 3 0 rfl rfl ?_
                  refine z_getr 2 9 24 B 46 rfl ob_24 rfl (iX6_resourceOf _ (List.mem_of_getElem? (i := 14) rfl)) rfl ?_
                  refine z_iload_n B 47 rfl 1 2 rfl rfl ?_
                  obtain ⟨r8, ec, hf⟩ := bd_e hf
                  refine z_callS [.ref 32, .int a1] [] [.int r8] X B 48 rfl miX6_at ⟨(iX6_resourceOf _ (List.mem_of_getElem? (i := 7) rfl)), (iX6_resourceOf _ (List.mem_of_getElem? (i := 8) rfl))⟩ (ctX6_at hj ob_32 ec) ⟨Nat.le_of_ble_eq_true rfl, Nat.le_of_ble_eq_true rfl⟩ rfl rfl (Nat.le_of_ble_eq_true rfl) rfl ?_
                  cases hf
                  exact z_iret B 49 rfl rfl hQ hr
                · replace hf := (if_neg hc).symm.trans hf
                  have hc6 := hc
                  refine z_tswo B 14 rfl 135 (tsw_out7 hc0 hc1 hc2 hc3 hc4 hc5 hc6) (by decide) ?_
                  cases hf
/-! ZoneCapacity.line(IIZ)I -/
def tbX6_line : Tb := [(0, .aload_n 0, 1, 1), (1, .getfield 10, 3, 4), (4, .getfield 57, 3, 7), (7, .getfield 106, 3, 10), (10, .astore 4, 2, 12), (12, .aload 4, 2, 14), (14, .iload_n 1, 1, 15), (15, .iload_n 2, 1, 16), (16, .invokevirtual 188, 3, 19), (19, .ifCond .ne 5, 3, 22), (22, .iconst (-1), 1, 23), (23, .ireturn, 1, 24), (24, .iload_n 3, 1, 25), (25, .ifCond .eq 13, 3, 28), (28, .aload 4, 2, 30), (30, .iload_n 1, 1, 31), (31, .iload_n 2, 1, 32), (32, .invokevirtual 192, 3, 35), (35, .goto 10, 3, 38), (38, .aload 4, 2, 40), (40, .iload_n 1, 1, 41), (41, .iload_n 2, 1, 42), (42, .invokevirtual 196, 3, 45), (45, .ireturn, 1, 46)]
theorem dtX6_line : ∀ q ∈ tbX6_line, decode cX6_line q.1 = .ok (q.2.1, q.2.2.1) ∧ q.1 + q.2.2.1 = q.2.2.2 := by decide +kernel
theorem miX6_line : MI yX6_line cX6_line 5 (some .int) 3 := ⟨tw_mem (List.mem_of_getElem? (i := 628) (by decide +kernel)) rfl, by decide, by decide +kernel, tw_mem (List.mem_of_getElem? (i := 71) (by decide +kernel)) rfl⟩
abbrev rmX6_line : Room := { frames := 4, cells := 0, slots := 0, locals := 88 }
def wX6_line : List Cond := [.fieldLink "ZoneCapacity" 10 "ZoneCapacity" "now" "LZoneCapacity$Auction;", .fieldLink "ZoneCapacity" 57 "ZoneCapacity$Auction" "market" "LZoneCapacity$Market;", .fieldLink "ZoneCapacity" 106 "ZoneCapacity$Market" "offers" "LZoneCapacity$Offers;", .methodLink "ZoneCapacity" 188 yX2_hasLine, .instanceMethod yX2_hasLine, .selects "ZoneCapacity$Offers" yX2_hasLine yX2_hasLine, .methodLink "ZoneCapacity" 196 yX2_unitsOf, .instanceMethod yX2_unitsOf, .selects "ZoneCapacity$Offers" yX2_unitsOf yX2_unitsOf, .methodLink "ZoneCapacity" 192 yX2_itsOf, .instanceMethod yX2_itsOf, .selects "ZoneCapacity$Offers" yX2_itsOf yX2_itsOf]
theorem iX6_line : ∀ w ∈ wX6_line, w ∈ TW := tw_of (ids := [317, 222, 215, 629, 630, 631, 650, 636, 637, 640, 641, 642]) (by decide +kernel)
def f6_line (mm : Mem) (a1 : Int32) (a2 : Int32) (a3 : Int32) : Option Int32 := bd (f2_hasLine mm 24 a1 a2) (fun r1 => if r1 = 0 then some ((-1 : Int32)) else if a3 = 0 then bd (f2_unitsOf mm 24 a1 a2) (fun r2 => some (r2)) else bd (f2_itsOf mm 24 a1 a2) (fun r3 => some (r3)))
theorem ctX6_line {l : Launch} {C : Cfg} (hj : Dj C) {mm : Mem} {a1 : Int32} {a2 : Int32} {a3 : Int32} {x : Int32} (hf : f6_line mm a1 a2 a3 = some x) : Ct l C yX6_line cX6_line 5 (some .int) 4 88 [.ref 14, .int a1, .int a2, .int a3] mm (some (.int x)) mm := by
  refine Ct.of (tb := tbX6_line) hj miX6_line.2.1 miX6_line.1 dtX6_line (Nat.le_of_ble_eq_true rfl) ?_
  intro E B hQ hr X
  unfold f6_line at hf
  show G E 5 0 [(0, .ref 14), (1, .int a1), (2, .int a2), (3, .int a3)] [] mm
  refine z_aload_n B 0 rfl 0 0 rfl rfl ?_
  refine z_getr 6 0 14 B 1 rfl ob_14 rfl (iX6_line _ (List.mem_of_getElem? (i := 0) rfl)) rfl ?_
  refine z_getr 0 0 15 B 2 rfl ob_15 rfl (iX6_line _ (List.mem_of_getElem? (i := 1) rfl)) rfl ?_
  refine z_getr 1 1 16 B 3 rfl ob_16 rfl (iX6_line _ (List.mem_of_getElem? (i := 2) rfl)) rfl ?_
  refine z_astore [(4, .ref 24), (0, .ref 14), (1, .int a1), (2, .int a2), (3, .int a3)] B 4 rfl (by decide) rfl ?_
  refine z_aload B 5 rfl 0 rfl ?_
  refine z_iload_n B 6 rfl 1 2 rfl rfl ?_
  refine z_iload_n B 7 rfl 2 3 rfl rfl ?_
  obtain ⟨r1, ec, hf⟩ := bd_e hf
  refine z_callV 24 2 [.int a1, .int a2] [] [.int r1] X B 8 rfl ob_24 rfl rfl miX2_hasLine ⟨(iX6_line _ (List.mem_of_getElem? (i := 3) rfl)), (iX6_line _ (List.mem_of_getElem? (i := 4) rfl)), (iX6_line _ (List.mem_of_getElem? (i := 5) rfl))⟩ (ctX2_hasLine hj ob_24 ec) ⟨Nat.le_of_ble_eq_true rfl, Nat.le_of_ble_eq_true rfl⟩ rfl rfl (Nat.le_of_ble_eq_true rfl) rfl ?_
  by_cases hc : r1 = 0
  · replace hf := (if_pos hc).symm.trans hf
    refine z_if_ne_f B 9 rfl 24 (by decide) hc ?_
    refine z_iconst (-1) B 10 rfl (by decide) ?_
    cases hf
    exact z_iret B 11 rfl rfl hQ hr
  · replace hf := (if_neg hc).symm.trans hf
    refine z_if_ne_t B 9 rfl 24 (by decide) hc ?_
    refine z_iload_n B 12 rfl 3 4 rfl rfl ?_
    by_cases hc : a3 = 0
    · replace hf := (if_pos hc).symm.trans hf
      refine z_if_eq_t B 13 rfl 38 (by decide) hc ?_
      refine z_aload B 19 rfl 0 rfl ?_
      refine z_iload_n B 20 rfl 1 2 rfl rfl ?_
      refine z_iload_n B 21 rfl 2 3 rfl rfl ?_
      obtain ⟨r2, ec, hf⟩ := bd_e hf
      refine z_callV 24 2 [.int a1, .int a2] [] [.int r2] X B 22 rfl ob_24 rfl rfl miX2_unitsOf ⟨(iX6_line _ (List.mem_of_getElem? (i := 6) rfl)), (iX6_line _ (List.mem_of_getElem? (i := 7) rfl)), (iX6_line _ (List.mem_of_getElem? (i := 8) rfl))⟩ (ctX2_unitsOf hj ob_24 ec) ⟨Nat.le_of_ble_eq_true rfl, Nat.le_of_ble_eq_true rfl⟩ rfl rfl (Nat.le_of_ble_eq_true rfl) rfl ?_
      cases hf
      exact z_iret B 23 rfl rfl hQ hr
    · replace hf := (if_neg hc).symm.trans hf
      refine z_if_eq_f B 13 rfl 38 (by decide) hc ?_
      refine z_aload B 14 rfl 0 rfl ?_
      refine z_iload_n B 15 rfl 1 2 rfl rfl ?_
      refine z_iload_n B 16 rfl 2 3 rfl rfl ?_
      obtain ⟨r3, ec, hf⟩ := bd_e hf
      refine z_callV 24 2 [.int a1, .int a2] [] [.int r3] X B 17 rfl ob_24 rfl rfl miX2_itsOf ⟨(iX6_line _ (List.mem_of_getElem? (i := 9) rfl)), (iX6_line _ (List.mem_of_getElem? (i := 10) rfl)), (iX6_line _ (List.mem_of_getElem? (i := 11) rfl))⟩ (ctX2_itsOf hj ob_24 ec) ⟨Nat.le_of_ble_eq_true rfl, Nat.le_of_ble_eq_true rfl⟩ rfl rfl (Nat.le_of_ble_eq_true rfl) rfl ?_
      refine z_goto B 18 rfl 45 (by decide) ?_
      cases hf
      exact z_iret B 23 rfl rfl hQ hr
/-! ZoneCapacity.worth(II)I -/
def tbX6_worth : Tb := [(0, .aload_n 0, 1, 1), (1, .getfield 10, 3, 4), (4, .getfield 57, 3, 7), (7, .getfield 71, 3, 10), (10, .astore_n 3, 1, 11), (11, .aload_n 3, 1, 12), (12, .iload_n 1, 1, 13), (13, .invokevirtual 80, 3, 16), (16, .ifCond .eq 12, 3, 19), (19, .aload_n 3, 1, 20), (20, .iload_n 1, 1, 21), (21, .iload_n 2, 1, 22), (22, .invokevirtual 199, 3, 25), (25, .goto 4, 3, 28), (28, .iconst (-1), 1, 29), (29, .ireturn, 1, 30)]
theorem dtX6_worth : ∀ q ∈ tbX6_worth, decode cX6_worth q.1 = .ok (q.2.1, q.2.2.1) ∧ q.1 + q.2.2.1 = q.2.2.2 := by decide +kernel
theorem miX6_worth : MI yX6_worth cX6_worth 4 (some .int) 2 := ⟨tw_mem (List.mem_of_getElem? (i := 654) (by decide +kernel)) rfl, by decide, by decide +kernel, tw_mem (List.mem_of_getElem? (i := 71) (by decide +kernel)) rfl⟩
abbrev rmX6_worth : Room := { frames := 2, cells := 0, slots := 0, locals := 49 }
def wX6_worth : List Cond := [.fieldLink "ZoneCapacity" 10 "ZoneCapacity" "now" "LZoneCapacity$Auction;", .fieldLink "ZoneCapacity" 57 "ZoneCapacity$Auction" "market" "LZoneCapacity$Market;", .fieldLink "ZoneCapacity" 71 "ZoneCapacity$Market" "zones" "LZoneCapacity$Zones;", .methodLink "ZoneCapacity" 80 yX5_has, .instanceMethod yX5_has, .selects "ZoneCapacity$Zones" yX5_has yX5_has, .methodLink "ZoneCapacity" 199 yX5_worthOf, .instanceMethod yX5_worthOf, .selects "ZoneCapacity$Zones" yX5_worthOf yX5_worthOf]
theorem iX6_worth : ∀ w ∈ wX6_worth, w ∈ TW := tw_of (ids := [317, 222, 211, 561, 562, 563, 655, 656, 657]) (by decide +kernel)
def f6_worth (mm : Mem) (a1 : Int32) (a2 : Int32) : Option Int32 := bd (f5_has mm 17 a1) (fun r1 => if r1 = 0 then some ((-1 : Int32)) else bd (f5_worthOf mm 17 a1 a2) (fun r2 => some (r2)))
theorem ctX6_worth {l : Launch} {C : Cfg} (hj : Dj C) {mm : Mem} {a1 : Int32} {a2 : Int32} {x : Int32} (hf : f6_worth mm a1 a2 = some x) : Ct l C yX6_worth cX6_worth 4 (some .int) 2 49 [.ref 14, .int a1, .int a2] mm (some (.int x)) mm := by
  refine Ct.of (tb := tbX6_worth) hj miX6_worth.2.1 miX6_worth.1 dtX6_worth (Nat.le_of_ble_eq_true rfl) ?_
  intro E B hQ hr X
  unfold f6_worth at hf
  show G E 4 0 [(0, .ref 14), (1, .int a1), (2, .int a2)] [] mm
  refine z_aload_n B 0 rfl 0 0 rfl rfl ?_
  refine z_getr 6 0 14 B 1 rfl ob_14 rfl (iX6_worth _ (List.mem_of_getElem? (i := 0) rfl)) rfl ?_
  refine z_getr 0 0 15 B 2 rfl ob_15 rfl (iX6_worth _ (List.mem_of_getElem? (i := 1) rfl)) rfl ?_
  refine z_getr 1 0 16 B 3 rfl ob_16 rfl (iX6_worth _ (List.mem_of_getElem? (i := 2) rfl)) rfl ?_
  refine z_astore_n [(3, .ref 17), (0, .ref 14), (1, .int a1), (2, .int a2)] B 4 rfl 3 rfl (by decide) rfl ?_
  refine z_aload_n B 5 rfl 3 0 rfl rfl ?_
  refine z_iload_n B 6 rfl 1 2 rfl rfl ?_
  obtain ⟨r1, ec, hf⟩ := bd_e hf
  refine z_callV 17 5 [.int a1] [] [.int r1] X B 7 rfl ob_17 rfl rfl miX5_has ⟨(iX6_worth _ (List.mem_of_getElem? (i := 3) rfl)), (iX6_worth _ (List.mem_of_getElem? (i := 4) rfl)), (iX6_worth _ (List.mem_of_getElem? (i := 5) rfl))⟩ (ctX5_has hj ob_17 ec) ⟨Nat.le_of_ble_eq_true rfl, Nat.le_of_ble_eq_true rfl⟩ rfl rfl (Nat.le_of_ble_eq_true rfl) rfl ?_
  by_cases hc : r1 = 0
  · replace hf := (if_pos hc).symm.trans hf
    refine z_if_eq_t B 8 rfl 28 (by decide) hc ?_
    refine z_iconst (-1) B 14 rfl (by decide) ?_
    cases hf
    exact z_iret B 15 rfl rfl hQ hr
  · replace hf := (if_neg hc).symm.trans hf
    refine z_if_eq_f B 8 rfl 28 (by decide) hc ?_
    refine z_aload_n B 9 rfl 3 0 rfl rfl ?_
    refine z_iload_n B 10 rfl 1 2 rfl rfl ?_
    refine z_iload_n B 11 rfl 2 3 rfl rfl ?_
    obtain ⟨r2, ec, hf⟩ := bd_e hf
    refine z_callV 17 5 [.int a1, .int a2] [] [.int r2] X B 12 rfl ob_17 rfl rfl miX5_worthOf ⟨(iX6_worth _ (List.mem_of_getElem? (i := 6) rfl)), (iX6_worth _ (List.mem_of_getElem? (i := 7) rfl)), (iX6_worth _ (List.mem_of_getElem? (i := 8) rfl))⟩ (ctX5_worthOf hj ob_17 ec) ⟨Nat.le_of_ble_eq_true rfl, Nat.le_of_ble_eq_true rfl⟩ rfl rfl (Nat.le_of_ble_eq_true rfl) rfl ?_
    refine z_goto B 13 rfl 29 (by decide) ?_
    cases hf
    exact z_iret B 15 rfl rfl hQ hr
/-! ZoneCapacity.wants(II)I -/
def tbX6_wants : Tb := [(0, .aload_n 0, 1, 1), (1, .getfield 10, 3, 4), (4, .getfield 57, 3, 7), (7, .getfield 71, 3, 10), (10, .astore_n 3, 1, 11), (11, .aload_n 3, 1, 12), (12, .iload_n 1, 1, 13), (13, .invokevirtual 80, 3, 16), (16, .ifCond .eq 14, 3, 19), (19, .iload_n 2, 1, 20), (20, .iconst 0, 1, 21), (21, .sipush 9999, 3, 24), (24, .invokestatic 50, 3, 27), (27, .ifCond .ne 5, 3, 30), (30, .iconst (-1), 1, 31), (31, .ireturn, 1, 32), (32, .aload_n 3, 1, 33), (33, .iload_n 1, 1, 34), (34, .iload_n 2, 1, 35), (35, .invokevirtual 202, 3, 38), (38, .ireturn, 1, 39)]
theorem dtX6_wants : ∀ q ∈ tbX6_wants, decode cX6_wants q.1 = .ok (q.2.1, q.2.2.1) ∧ q.1 + q.2.2.1 = q.2.2.2 := by decide +kernel
theorem miX6_wants : MI yX6_wants cX6_wants 4 (some .int) 2 := ⟨tw_mem (List.mem_of_getElem? (i := 665) (by decide +kernel)) rfl, by decide, by decide +kernel, tw_mem (List.mem_of_getElem? (i := 71) (by decide +kernel)) rfl⟩
abbrev rmX6_wants : Room := { frames := 2, cells := 0, slots := 0, locals := 51 }
def wX6_wants : List Cond := [.fieldLink "ZoneCapacity" 10 "ZoneCapacity" "now" "LZoneCapacity$Auction;", .fieldLink "ZoneCapacity" 57 "ZoneCapacity$Auction" "market" "LZoneCapacity$Market;", .fieldLink "ZoneCapacity" 71 "ZoneCapacity$Market" "zones" "LZoneCapacity$Zones;", .methodLink "ZoneCapacity" 80 yX5_has, .instanceMethod yX5_has, .selects "ZoneCapacity$Zones" yX5_has yX5_has, .methodLink "ZoneCapacity" 50 yX6_within, .static yX6_within, .methodLink "ZoneCapacity" 202 yX5_wantedFrom, .instanceMethod yX5_wantedFrom, .selects "ZoneCapacity$Zones" yX5_wantedFrom yX5_wantedFrom]
theorem iX6_wants : ∀ w ∈ wX6_wants, w ∈ TW := tw_of (ids := [317, 222, 211, 561, 562, 563, 354, 355, 666, 667, 668]) (by decide +kernel)
def f6_wants (mm : Mem) (a1 : Int32) (a2 : Int32) : Option Int32 := bd (f5_has mm 17 a1) (fun r1 => if r1 = 0 then some ((-1 : Int32)) else bd (f6_within mm a2 (0 : Int32) (9999 : Int32)) (fun r2 => if r2 = 0 then some ((-1 : Int32)) else bd (f5_wantedFrom mm 17 a1 a2) (fun r3 => some (r3))))
theorem ctX6_wants {l : Launch} {C : Cfg} (hj : Dj C) {mm : Mem} {a1 : Int32} {a2 : Int32} {x : Int32} (hf : f6_wants mm a1 a2 = some x) : Ct l C yX6_wants cX6_wants 4 (some .int) 2 51 [.ref 14, .int a1, .int a2] mm (some (.int x)) mm := by
  refine Ct.of (tb := tbX6_wants) hj miX6_wants.2.1 miX6_wants.1 dtX6_wants (Nat.le_of_ble_eq_true rfl) ?_
  intro E B hQ hr X
  unfold f6_wants at hf
  show G E 4 0 [(0, .ref 14), (1, .int a1), (2, .int a2)] [] mm
  refine z_aload_n B 0 rfl 0 0 rfl rfl ?_
  refine z_getr 6 0 14 B 1 rfl ob_14 rfl (iX6_wants _ (List.mem_of_getElem? (i := 0) rfl)) rfl ?_
  refine z_getr 0 0 15 B 2 rfl ob_15 rfl (iX6_wants _ (List.mem_of_getElem? (i := 1) rfl)) rfl ?_
  refine z_getr 1 0 16 B 3 rfl ob_16 rfl (iX6_wants _ (List.mem_of_getElem? (i := 2) rfl)) rfl ?_
  refine z_astore_n [(3, .ref 17), (0, .ref 14), (1, .int a1), (2, .int a2)] B 4 rfl 3 rfl (by decide) rfl ?_
  refine z_aload_n B 5 rfl 3 0 rfl rfl ?_
  refine z_iload_n B 6 rfl 1 2 rfl rfl ?_
  obtain ⟨r1, ec, hf⟩ := bd_e hf
  refine z_callV 17 5 [.int a1] [] [.int r1] X B 7 rfl ob_17 rfl rfl miX5_has ⟨(iX6_wants _ (List.mem_of_getElem? (i := 3) rfl)), (iX6_wants _ (List.mem_of_getElem? (i := 4) rfl)), (iX6_wants _ (List.mem_of_getElem? (i := 5) rfl))⟩ (ctX5_has hj ob_17 ec) ⟨Nat.le_of_ble_eq_true rfl, Nat.le_of_ble_eq_true rfl⟩ rfl rfl (Nat.le_of_ble_eq_true rfl) rfl ?_
  by_cases hc : r1 = 0
  · replace hf := (if_pos hc).symm.trans hf
    refine z_if_eq_t B 8 rfl 30 (by decide) hc ?_
    refine z_iconst (-1) B 14 rfl (by decide) ?_
    cases hf
    exact z_iret B 15 rfl rfl hQ hr
  · replace hf := (if_neg hc).symm.trans hf
    refine z_if_eq_f B 8 rfl 30 (by decide) hc ?_
    refine z_iload_n B 9 rfl 2 3 rfl rfl ?_
    refine z_iconst 0 B 10 rfl (by decide) ?_
    refine z_sipush 9999 B 11 rfl (by decide) ?_
    obtain ⟨r2, ec, hf⟩ := bd_e hf
    refine z_callS [.int a2, .int (0 : Int32), .int (9999 : Int32)] [] [.int r2] X B 12 rfl miX6_within ⟨(iX6_wants _ (List.mem_of_getElem? (i := 6) rfl)), (iX6_wants _ (List.mem_of_getElem? (i := 7) rfl))⟩ (ctX6_within hj ec) ⟨Nat.le_of_ble_eq_true rfl, Nat.le_of_ble_eq_true rfl⟩ rfl rfl (Nat.le_of_ble_eq_true rfl) rfl ?_
    by_cases hc : r2 = 0
    · replace hf := (if_pos hc).symm.trans hf
      refine z_if_ne_f B 13 rfl 32 (by decide) hc ?_
      refine z_iconst (-1) B 14 rfl (by decide) ?_
      cases hf
      exact z_iret B 15 rfl rfl hQ hr
    · replace hf := (if_neg hc).symm.trans hf
      refine z_if_ne_t B 13 rfl 32 (by decide) hc ?_
      refine z_aload_n B 16 rfl 3 0 rfl rfl ?_
      refine z_iload_n B 17 rfl 1 2 rfl rfl ?_
      refine z_iload_n B 18 rfl 2 3 rfl rfl ?_
      obtain ⟨r3, ec, hf⟩ := bd_e hf
      refine z_callV 17 5 [.int a1, .int a2] [] [.int r3] X B 19 rfl ob_17 rfl rfl miX5_wantedFrom ⟨(iX6_wants _ (List.mem_of_getElem? (i := 8) rfl)), (iX6_wants _ (List.mem_of_getElem? (i := 9) rfl)), (iX6_wants _ (List.mem_of_getElem? (i := 10) rfl))⟩ (ctX5_wantedFrom hj ob_17 ec) ⟨Nat.le_of_ble_eq_true rfl, Nat.le_of_ble_eq_true rfl⟩ rfl rfl (Nat.le_of_ble_eq_true rfl) rfl ?_
      cases hf
      exact z_iret B 20 rfl rfl hQ hr
/-! ZoneCapacity.level(IIZ)I -/
def tbX6_level : Tb := [(0, .aload_n 0, 1, 1), (1, .getfield 10, 3, 4), (4, .getfield 57, 3, 7), (7, .getfield 71, 3, 10), (10, .iload_n 1, 1, 11), (11, .invokevirtual 80, 3, 14), (14, .ifCond .eq 14, 3, 17), (17, .iload_n 2, 1, 18), (18, .iconst 0, 1, 19), (19, .sipush 9999, 3, 22), (22, .invokestatic 50, 3, 25), (25, .ifCond .ne 6, 3, 28), (28, .ldc 205, 2, 30), (30, .ireturn, 1, 31), (31, .aload_n 0, 1, 32), (32, .getfield 10, 3, 35), (35, .iload_n 1, 1, 36), (36, .iload_n 3, 1, 37), (37, .ifCond .eq 9, 3, 40), (40, .iload_n 2, 1, 41), (41, .iconst 1, 1, 42), (42, .iadd, 1, 43), (43, .goto 4, 3, 46), (46, .iload_n 2, 1, 47), (47, .invokevirtual 206, 3, 50), (50, .ireturn, 1, 51)]
theorem dtX6_level : ∀ q ∈ tbX6_level, decode cX6_level q.1 = .ok (q.2.1, q.2.2.1) ∧ q.1 + q.2.2.1 = q.2.2.2 := by decide +kernel
theorem miX6_level : MI yX6_level cX6_level 4 (some .int) 3 := ⟨tw_mem (List.mem_of_getElem? (i := 676) (by decide +kernel)) rfl, by decide, by decide +kernel, tw_mem (List.mem_of_getElem? (i := 71) (by decide +kernel)) rfl⟩
abbrev rmX6_level : Room := { frames := 5, cells := 0, slots := 0, locals := 111 }
def wX6_level : List Cond := [.fieldLink "ZoneCapacity" 10 "ZoneCapacity" "now" "LZoneCapacity$Auction;", .fieldLink "ZoneCapacity" 57 "ZoneCapacity$Auction" "market" "LZoneCapacity$Market;", .fieldLink "ZoneCapacity" 71 "ZoneCapacity$Market" "zones" "LZoneCapacity$Zones;", .methodLink "ZoneCapacity" 80 yX5_has, .instanceMethod yX5_has, .selects "ZoneCapacity$Zones" yX5_has yX5_has, .constant "ZoneCapacity" 205 (-1000000), .methodLink "ZoneCapacity" 50 yX6_within, .static yX6_within, .methodLink "ZoneCapacity" 206 yX0_levelOf, .instanceMethod yX0_levelOf, .selects "ZoneCapacity$Auction" yX0_levelOf yX0_levelOf]
theorem iX6_level : ∀ w ∈ wX6_level, w ∈ TW := tw_of (ids := [317, 222, 211, 561, 562, 563, 677, 354, 355, 678, 679, 680]) (by decide +kernel)
def f6_level_j47 (s0 : Int32) (s1 : Int32) (mm : Mem) : Option (Int32 × Mem) := bd (f0_levelOf mm 15 s1 s0) (fun r3 => some (r3.1, r3.2))
theorem f6_level_j47_ok {E : Ev} {l : Launch} {C : Cfg} {x : (Int32 × Mem)} (hj : Dj C) (X : Ec E l C rmX6_level) (B : Bx E RX6 tbX6_level 4 (some .int)) (hQ : Rt E) (hr : Rs E (some (.int x.1)) x.2) (s0 : Int32) (s1 : Int32) (mm : Mem) (hf : f6_level_j47 s0 s1 mm = some x) : G E 4 47 [] [.int s0, .int s1, .ref 15] mm := by
  unfold f6_level_j47 at hf
  obtain ⟨r3, ec, hf⟩ := bd_e hf
  refine z_callV 15 0 [.int s1, .int s0] [] [.int r3.1] X B 24 rfl ob_15 rfl rfl miX0_levelOf ⟨(iX6_level _ (List.mem_of_getElem? (i := 9) rfl)), (iX6_level _ (List.mem_of_getElem? (i := 10) rfl)), (iX6_level _ (List.mem_of_getElem? (i := 11) rfl))⟩ (ctX0_levelOf hj ob_15 ec) ⟨Nat.le_of_ble_eq_true rfl, Nat.le_of_ble_eq_true rfl⟩ rfl rfl (Nat.le_of_ble_eq_true rfl) rfl ?_
  cases hf
  exact z_iret B 25 rfl rfl hQ hr
def f6_level (mm : Mem) (a1 : Int32) (a2 : Int32) (a3 : Int32) : Option (Int32 × Mem) := bd (f5_has mm 17 a1) (fun r1 => if r1 = 0 then some ((-1000000 : Int32), mm) else bd (f6_within mm a2 (0 : Int32) (9999 : Int32)) (fun r2 => if r2 = 0 then some ((-1000000 : Int32), mm) else if a3 = 0 then f6_level_j47 a2 a1 mm else f6_level_j47 (a2 + (1 : Int32)) a1 mm))
theorem ctX6_level {l : Launch} {C : Cfg} (hj : Dj C) {mm : Mem} {a1 : Int32} {a2 : Int32} {a3 : Int32} {x : (Int32 × Mem)} (hf : f6_level mm a1 a2 a3 = some x) : Ct l C yX6_level cX6_level 4 (some .int) 5 111 [.ref 14, .int a1, .int a2, .int a3] mm (some (.int x.1)) x.2 := by
  refine Ct.of (tb := tbX6_level) hj miX6_level.2.1 miX6_level.1 dtX6_level (Nat.le_of_ble_eq_true rfl) ?_
  intro E B hQ hr X
  unfold f6_level at hf
  show G E 4 0 [(0, .ref 14), (1, .int a1), (2, .int a2), (3, .int a3)] [] mm
  refine z_aload_n B 0 rfl 0 0 rfl rfl ?_
  refine z_getr 6 0 14 B 1 rfl ob_14 rfl (iX6_level _ (List.mem_of_getElem? (i := 0) rfl)) rfl ?_
  refine z_getr 0 0 15 B 2 rfl ob_15 rfl (iX6_level _ (List.mem_of_getElem? (i := 1) rfl)) rfl ?_
  refine z_getr 1 0 16 B 3 rfl ob_16 rfl (iX6_level _ (List.mem_of_getElem? (i := 2) rfl)) rfl ?_
  refine z_iload_n B 4 rfl 1 1 rfl rfl ?_
  obtain ⟨r1, ec, hf⟩ := bd_e hf
  refine z_callV 17 5 [.int a1] [] [.int r1] X B 5 rfl ob_17 rfl rfl miX5_has ⟨(iX6_level _ (List.mem_of_getElem? (i := 3) rfl)), (iX6_level _ (List.mem_of_getElem? (i := 4) rfl)), (iX6_level _ (List.mem_of_getElem? (i := 5) rfl))⟩ (ctX5_has hj ob_17 ec) ⟨Nat.le_of_ble_eq_true rfl, Nat.le_of_ble_eq_true rfl⟩ rfl rfl (Nat.le_of_ble_eq_true rfl) rfl ?_
  by_cases hc : r1 = 0
  · replace hf := (if_pos hc).symm.trans hf
    refine z_if_eq_t B 6 rfl 28 (by decide) hc ?_
    refine z_ldc (-1000000) B 12 rfl (iX6_level _ (List.mem_of_getElem? (i := 6) rfl)) ?_
    cases hf
    exact z_iret B 13 rfl rfl hQ hr
  · replace hf := (if_neg hc).symm.trans hf
    refine z_if_eq_f B 6 rfl 28 (by decide) hc ?_
    refine z_iload_n B 7 rfl 2 2 rfl rfl ?_
    refine z_iconst 0 B 8 rfl (by decide) ?_
    refine z_sipush 9999 B 9 rfl (by decide) ?_
    obtain ⟨r2, ec, hf⟩ := bd_e hf
    refine z_callS [.int a2, .int (0 : Int32), .int (9999 : Int32)] [] [.int r2] X B 10 rfl miX6_within ⟨(iX6_level _ (List.mem_of_getElem? (i := 7) rfl)), (iX6_level _ (List.mem_of_getElem? (i := 8) rfl))⟩ (ctX6_within hj ec) ⟨Nat.le_of_ble_eq_true rfl, Nat.le_of_ble_eq_true rfl⟩ rfl rfl (Nat.le_of_ble_eq_true rfl) rfl ?_
    by_cases hc : r2 = 0
    · replace hf := (if_pos hc).symm.trans hf
      refine z_if_ne_f B 11 rfl 31 (by decide) hc ?_
      refine z_ldc (-1000000) B 12 rfl (iX6_level _ (List.mem_of_getElem? (i := 6) rfl)) ?_
      cases hf
      exact z_iret B 13 rfl rfl hQ hr
    · replace hf := (if_neg hc).symm.trans hf
      refine z_if_ne_t B 11 rfl 31 (by decide) hc ?_
      refine z_aload_n B 14 rfl 0 0 rfl rfl ?_
      refine z_getr 6 0 14 B 15 rfl ob_14 rfl (iX6_level _ (List.mem_of_getElem? (i := 0) rfl)) rfl ?_
      refine z_iload_n B 16 rfl 1 1 rfl rfl ?_
      refine z_iload_n B 17 rfl 3 3 rfl rfl ?_
      by_cases hc : a3 = 0
      · replace hf := (if_pos hc).symm.trans hf
        refine z_if_eq_t B 18 rfl 46 (by decide) hc ?_
        refine z_iload_n B 23 rfl 2 2 rfl rfl ?_
        refine z_sub [] [] rfl ?_
        exact f6_level_j47_ok hj X B hQ hr _ _ _ hf
      · replace hf := (if_neg hc).symm.trans hf
        refine z_if_eq_f B 18 rfl 46 (by decide) hc ?_
        refine z_iload_n B 19 rfl 2 2 rfl rfl ?_
        refine z_iconst 1 B 20 rfl (by decide) ?_
        refine z_iadd B 21 rfl ?_
        refine z_goto B 22 rfl 47 (by decide) ?_
        refine z_sub [] [] rfl ?_
        exact f6_level_j47_ok hj X B hQ hr _ _ _ hf
/-! ZoneCapacity.price(I)I -/
def tbX6_price : Tb := [(0, .aload_n 0, 1, 1), (1, .getfield 10, 3, 4), (4, .getfield 57, 3, 7), (7, .getfield 71, 3, 10), (10, .iload_n 1, 1, 11), (11, .invokevirtual 80, 3, 14), (14, .ifCond .ne 5, 3, 17), (17, .iconst (-1), 1, 18), (18, .ireturn, 1, 19), (19, .aload_n 0, 1, 20), (20, .getfield 10, 3, 23), (23, .invokevirtual 209, 3, 26), (26, .aload_n 0, 1, 27), (27, .getfield 10, 3, 30), (30, .getfield 212, 3, 33), (33, .iload_n 1, 1, 34), (34, .invokestatic 92, 3, 37), (37, .ireturn, 1, 38)]
theorem dtX6_price : ∀ q ∈ tbX6_price, decode cX6_price q.1 = .ok (q.2.1, q.2.2.1) ∧ q.1 + q.2.2.1 = q.2.2.2 := by decide +kernel
theorem miX6_price : MI yX6_price cX6_price 2 (some .int) 1 := ⟨tw_mem (List.mem_of_getElem? (i := 708) (by decide +kernel)) rfl, by decide, by decide +kernel, tw_mem (List.mem_of_getElem? (i := 71) (by decide +kernel)) rfl⟩
abbrev rmX6_price : Room := { frames := 5, cells := 0, slots := 0, locals := 123 }
def wX6_price : List Cond := [.fieldLink "ZoneCapacity" 10 "ZoneCapacity" "now" "LZoneCapacity$Auction;", .fieldLink "ZoneCapacity" 57 "ZoneCapacity$Auction" "market" "LZoneCapacity$Market;", .fieldLink "ZoneCapacity" 71 "ZoneCapacity$Market" "zones" "LZoneCapacity$Zones;", .methodLink "ZoneCapacity" 80 yX5_has, .instanceMethod yX5_has, .selects "ZoneCapacity$Zones" yX5_has yX5_has, .methodLink "ZoneCapacity" 209 yX0_clear, .instanceMethod yX0_clear, .selects "ZoneCapacity$Auction" yX0_clear yX0_clear, .fieldLink "ZoneCapacity" 212 "ZoneCapacity$Auction" "prices" "[I", .methodLink "ZoneCapacity" 92 yX6_at, .static yX6_at]
theorem iX6_price : ∀ w ∈ wX6_price, w ∈ TW := tw_of (ids := [317, 222, 211, 561, 562, 563, 709, 710, 711, 224, 570, 386]) (by decide +kernel)
def f6_price (mm : Mem) (a1 : Int32) : Option (Int32 × Mem) := bd (f5_has mm 17 a1) (fun r1 => if r1 = 0 then some ((-1 : Int32), mm) else bd (f0_clear mm 15) (fun r2 => bd (f6_at r2 35 a1) (fun r3 => some (r3, r2))))
theorem ctX6_price {l : Launch} {C : Cfg} (hj : Dj C) {mm : Mem} {a1 : Int32} {x : (Int32 × Mem)} (hf : f6_price mm a1 = some x) : Ct l C yX6_price cX6_price 2 (some .int) 5 123 [.ref 14, .int a1] mm (some (.int x.1)) x.2 := by
  refine Ct.of (tb := tbX6_price) hj miX6_price.2.1 miX6_price.1 dtX6_price (Nat.le_of_ble_eq_true rfl) ?_
  intro E B hQ hr X
  unfold f6_price at hf
  show G E 2 0 [(0, .ref 14), (1, .int a1)] [] mm
  refine z_aload_n B 0 rfl 0 0 rfl rfl ?_
  refine z_getr 6 0 14 B 1 rfl ob_14 rfl (iX6_price _ (List.mem_of_getElem? (i := 0) rfl)) rfl ?_
  refine z_getr 0 0 15 B 2 rfl ob_15 rfl (iX6_price _ (List.mem_of_getElem? (i := 1) rfl)) rfl ?_
  refine z_getr 1 0 16 B 3 rfl ob_16 rfl (iX6_price _ (List.mem_of_getElem? (i := 2) rfl)) rfl ?_
  refine z_iload_n B 4 rfl 1 1 rfl rfl ?_
  obtain ⟨r1, ec, hf⟩ := bd_e hf
  refine z_callV 17 5 [.int a1] [] [.int r1] X B 5 rfl ob_17 rfl rfl miX5_has ⟨(iX6_price _ (List.mem_of_getElem? (i := 3) rfl)), (iX6_price _ (List.mem_of_getElem? (i := 4) rfl)), (iX6_price _ (List.mem_of_getElem? (i := 5) rfl))⟩ (ctX5_has hj ob_17 ec) ⟨Nat.le_of_ble_eq_true rfl, Nat.le_of_ble_eq_true rfl⟩ rfl rfl (Nat.le_of_ble_eq_true rfl) rfl ?_
  by_cases hc : r1 = 0
  · replace hf := (if_pos hc).symm.trans hf
    refine z_if_ne_f B 6 rfl 19 (by decide) hc ?_
    refine z_iconst (-1) B 7 rfl (by decide) ?_
    cases hf
    exact z_iret B 8 rfl rfl hQ hr
  · replace hf := (if_neg hc).symm.trans hf
    refine z_if_ne_t B 6 rfl 19 (by decide) hc ?_
    refine z_aload_n B 9 rfl 0 0 rfl rfl ?_
    refine z_getr 6 0 14 B 10 rfl ob_14 rfl (iX6_price _ (List.mem_of_getElem? (i := 0) rfl)) rfl ?_
    obtain ⟨r2, ec, hf⟩ := bd_e hf
    refine z_callV 15 0 [] [] [] X B 11 rfl ob_15 rfl rfl miX0_clear ⟨(iX6_price _ (List.mem_of_getElem? (i := 6) rfl)), (iX6_price _ (List.mem_of_getElem? (i := 7) rfl)), (iX6_price _ (List.mem_of_getElem? (i := 8) rfl))⟩ (ctX0_clear hj ob_15 ec) ⟨Nat.le_of_ble_eq_true rfl, Nat.le_of_ble_eq_true rfl⟩ rfl rfl (Nat.le_of_ble_eq_true rfl) rfl ?_
    refine z_aload_n B 12 rfl 0 0 rfl rfl ?_
    refine z_getr 6 0 14 B 13 rfl ob_14 rfl (iX6_price _ (List.mem_of_getElem? (i := 0) rfl)) rfl ?_
    refine z_getr 0 1 15 B 14 rfl ob_15 rfl (iX6_price _ (List.mem_of_getElem? (i := 9) rfl)) rfl ?_
    refine z_iload_n B 15 rfl 1 1 rfl rfl ?_
    obtain ⟨r3, ec, hf⟩ := bd_e hf
    refine z_callS [.ref 35, .int a1] [] [.int r3] X B 16 rfl miX6_at ⟨(iX6_price _ (List.mem_of_getElem? (i := 10) rfl)), (iX6_price _ (List.mem_of_getElem? (i := 11) rfl))⟩ (ctX6_at hj ob_35 ec) ⟨Nat.le_of_ble_eq_true rfl, Nat.le_of_ble_eq_true rfl⟩ rfl rfl (Nat.le_of_ble_eq_true rfl) rfl ?_
    cases hf
    exact z_iret B 17 rfl rfl hQ hr
/-! ZoneCapacity.net(I)I -/
def tbX6_net : Tb := [(0, .aload_n 0, 1, 1), (1, .getfield 10, 3, 4), (4, .getfield 57, 3, 7), (7, .getfield 71, 3, 10), (10, .iload_n 1, 1, 11), (11, .invokevirtual 80, 3, 14), (14, .ifCond .ne 6, 3, 17), (17, .ldc 205, 2, 19), (19, .ireturn, 1, 20), (20, .aload_n 0, 1, 21), (21, .getfield 10, 3, 24), (24, .invokevirtual 209, 3, 27), (27, .aload_n 0, 1, 28), (28, .getfield 10, 3, 31), (31, .getfield 215, 3, 34), (34, .iload_n 1, 1, 35), (35, .invokestatic 92, 3, 38), (38, .ireturn, 1, 39)]
theorem dtX6_net : ∀ q ∈ tbX6_net, decode cX6_net q.1 = .ok (q.2.1, q.2.2.1) ∧ q.1 + q.2.2.1 = q.2.2.2 := by decide +kernel
theorem miX6_net : MI yX6_net cX6_net 2 (some .int) 1 := ⟨tw_mem (List.mem_of_getElem? (i := 742) (by decide +kernel)) rfl, by decide, by decide +kernel, tw_mem (List.mem_of_getElem? (i := 71) (by decide +kernel)) rfl⟩
abbrev rmX6_net : Room := { frames := 5, cells := 0, slots := 0, locals := 123 }
def wX6_net : List Cond := [.fieldLink "ZoneCapacity" 10 "ZoneCapacity" "now" "LZoneCapacity$Auction;", .fieldLink "ZoneCapacity" 57 "ZoneCapacity$Auction" "market" "LZoneCapacity$Market;", .fieldLink "ZoneCapacity" 71 "ZoneCapacity$Market" "zones" "LZoneCapacity$Zones;", .methodLink "ZoneCapacity" 80 yX5_has, .instanceMethod yX5_has, .selects "ZoneCapacity$Zones" yX5_has yX5_has, .methodLink "ZoneCapacity" 209 yX0_clear, .instanceMethod yX0_clear, .selects "ZoneCapacity$Auction" yX0_clear yX0_clear, .fieldLink "ZoneCapacity" 215 "ZoneCapacity$Auction" "nets" "[I", .methodLink "ZoneCapacity" 92 yX6_at, .static yX6_at, .constant "ZoneCapacity" 205 (-1000000)]
theorem iX6_net : ∀ w ∈ wX6_net, w ∈ TW := tw_of (ids := [317, 222, 211, 561, 562, 563, 709, 710, 711, 226, 570, 386, 677]) (by decide +kernel)
def f6_net (mm : Mem) (a1 : Int32) : Option (Int32 × Mem) := bd (f5_has mm 17 a1) (fun r1 => if r1 = 0 then some ((-1000000 : Int32), mm) else bd (f0_clear mm 15) (fun r2 => bd (f6_at r2 36 a1) (fun r3 => some (r3, r2))))
theorem ctX6_net {l : Launch} {C : Cfg} (hj : Dj C) {mm : Mem} {a1 : Int32} {x : (Int32 × Mem)} (hf : f6_net mm a1 = some x) : Ct l C yX6_net cX6_net 2 (some .int) 5 123 [.ref 14, .int a1] mm (some (.int x.1)) x.2 := by
  refine Ct.of (tb := tbX6_net) hj miX6_net.2.1 miX6_net.1 dtX6_net (Nat.le_of_ble_eq_true rfl) ?_
  intro E B hQ hr X
  unfold f6_net at hf
  show G E 2 0 [(0, .ref 14), (1, .int a1)] [] mm
  refine z_aload_n B 0 rfl 0 0 rfl rfl ?_
  refine z_getr 6 0 14 B 1 rfl ob_14 rfl (iX6_net _ (List.mem_of_getElem? (i := 0) rfl)) rfl ?_
  refine z_getr 0 0 15 B 2 rfl ob_15 rfl (iX6_net _ (List.mem_of_getElem? (i := 1) rfl)) rfl ?_
  refine z_getr 1 0 16 B 3 rfl ob_16 rfl (iX6_net _ (List.mem_of_getElem? (i := 2) rfl)) rfl ?_
  refine z_iload_n B 4 rfl 1 1 rfl rfl ?_
  obtain ⟨r1, ec, hf⟩ := bd_e hf
  refine z_callV 17 5 [.int a1] [] [.int r1] X B 5 rfl ob_17 rfl rfl miX5_has ⟨(iX6_net _ (List.mem_of_getElem? (i := 3) rfl)), (iX6_net _ (List.mem_of_getElem? (i := 4) rfl)), (iX6_net _ (List.mem_of_getElem? (i := 5) rfl))⟩ (ctX5_has hj ob_17 ec) ⟨Nat.le_of_ble_eq_true rfl, Nat.le_of_ble_eq_true rfl⟩ rfl rfl (Nat.le_of_ble_eq_true rfl) rfl ?_
  by_cases hc : r1 = 0
  · replace hf := (if_pos hc).symm.trans hf
    refine z_if_ne_f B 6 rfl 20 (by decide) hc ?_
    refine z_ldc (-1000000) B 7 rfl (iX6_net _ (List.mem_of_getElem? (i := 12) rfl)) ?_
    cases hf
    exact z_iret B 8 rfl rfl hQ hr
  · replace hf := (if_neg hc).symm.trans hf
    refine z_if_ne_t B 6 rfl 20 (by decide) hc ?_
    refine z_aload_n B 9 rfl 0 0 rfl rfl ?_
    refine z_getr 6 0 14 B 10 rfl ob_14 rfl (iX6_net _ (List.mem_of_getElem? (i := 0) rfl)) rfl ?_
    obtain ⟨r2, ec, hf⟩ := bd_e hf
    refine z_callV 15 0 [] [] [] X B 11 rfl ob_15 rfl rfl miX0_clear ⟨(iX6_net _ (List.mem_of_getElem? (i := 6) rfl)), (iX6_net _ (List.mem_of_getElem? (i := 7) rfl)), (iX6_net _ (List.mem_of_getElem? (i := 8) rfl))⟩ (ctX0_clear hj ob_15 ec) ⟨Nat.le_of_ble_eq_true rfl, Nat.le_of_ble_eq_true rfl⟩ rfl rfl (Nat.le_of_ble_eq_true rfl) rfl ?_
    refine z_aload_n B 12 rfl 0 0 rfl rfl ?_
    refine z_getr 6 0 14 B 13 rfl ob_14 rfl (iX6_net _ (List.mem_of_getElem? (i := 0) rfl)) rfl ?_
    refine z_getr 0 2 15 B 14 rfl ob_15 rfl (iX6_net _ (List.mem_of_getElem? (i := 9) rfl)) rfl ?_
    refine z_iload_n B 15 rfl 1 1 rfl rfl ?_
    obtain ⟨r3, ec, hf⟩ := bd_e hf
    refine z_callS [.ref 36, .int a1] [] [.int r3] X B 16 rfl miX6_at ⟨(iX6_net _ (List.mem_of_getElem? (i := 10) rfl)), (iX6_net _ (List.mem_of_getElem? (i := 11) rfl))⟩ (ctX6_at hj ob_36 ec) ⟨Nat.le_of_ble_eq_true rfl, Nat.le_of_ble_eq_true rfl⟩ rfl rfl (Nat.le_of_ble_eq_true rfl) rfl ?_
    cases hf
    exact z_iret B 17 rfl rfl hQ hr
/-! ZoneCapacity.served(I)I -/
def tbX6_served : Tb := [(0, .aload_n 0, 1, 1), (1, .getfield 10, 3, 4), (4, .getfield 57, 3, 7), (7, .getfield 71, 3, 10), (10, .iload_n 1, 1, 11), (11, .invokevirtual 80, 3, 14), (14, .ifCond .ne 5, 3, 17), (17, .iconst (-1), 1, 18), (18, .ireturn, 1, 19), (19, .aload_n 0, 1, 20), (20, .getfield 10, 3, 23), (23, .invokevirtual 209, 3, 26), (26, .aload_n 0, 1, 27), (27, .getfield 10, 3, 30), (30, .getfield 218, 3, 33), (33, .iload_n 1, 1, 34), (34, .invokestatic 92, 3, 37), (37, .ireturn, 1, 38)]
theorem dtX6_served : ∀ q ∈ tbX6_served, decode cX6_served q.1 = .ok (q.2.1, q.2.2.1) ∧ q.1 + q.2.2.1 = q.2.2.2 := by decide +kernel
theorem miX6_served : MI yX6_served cX6_served 2 (some .int) 1 := ⟨tw_mem (List.mem_of_getElem? (i := 746) (by decide +kernel)) rfl, by decide, by decide +kernel, tw_mem (List.mem_of_getElem? (i := 71) (by decide +kernel)) rfl⟩
abbrev rmX6_served : Room := { frames := 5, cells := 0, slots := 0, locals := 123 }
def wX6_served : List Cond := [.fieldLink "ZoneCapacity" 10 "ZoneCapacity" "now" "LZoneCapacity$Auction;", .fieldLink "ZoneCapacity" 57 "ZoneCapacity$Auction" "market" "LZoneCapacity$Market;", .fieldLink "ZoneCapacity" 71 "ZoneCapacity$Market" "zones" "LZoneCapacity$Zones;", .methodLink "ZoneCapacity" 80 yX5_has, .instanceMethod yX5_has, .selects "ZoneCapacity$Zones" yX5_has yX5_has, .methodLink "ZoneCapacity" 209 yX0_clear, .instanceMethod yX0_clear, .selects "ZoneCapacity$Auction" yX0_clear yX0_clear, .fieldLink "ZoneCapacity" 218 "ZoneCapacity$Auction" "servedUnits" "[I", .methodLink "ZoneCapacity" 92 yX6_at, .static yX6_at]
theorem iX6_served : ∀ w ∈ wX6_served, w ∈ TW := tw_of (ids := [317, 222, 211, 561, 562, 563, 709, 710, 711, 228, 570, 386]) (by decide +kernel)
def f6_served (mm : Mem) (a1 : Int32) : Option (Int32 × Mem) := bd (f5_has mm 17 a1) (fun r1 => if r1 = 0 then some ((-1 : Int32), mm) else bd (f0_clear mm 15) (fun r2 => bd (f6_at r2 37 a1) (fun r3 => some (r3, r2))))
theorem ctX6_served {l : Launch} {C : Cfg} (hj : Dj C) {mm : Mem} {a1 : Int32} {x : (Int32 × Mem)} (hf : f6_served mm a1 = some x) : Ct l C yX6_served cX6_served 2 (some .int) 5 123 [.ref 14, .int a1] mm (some (.int x.1)) x.2 := by
  refine Ct.of (tb := tbX6_served) hj miX6_served.2.1 miX6_served.1 dtX6_served (Nat.le_of_ble_eq_true rfl) ?_
  intro E B hQ hr X
  unfold f6_served at hf
  show G E 2 0 [(0, .ref 14), (1, .int a1)] [] mm
  refine z_aload_n B 0 rfl 0 0 rfl rfl ?_
  refine z_getr 6 0 14 B 1 rfl ob_14 rfl (iX6_served _ (List.mem_of_getElem? (i := 0) rfl)) rfl ?_
  refine z_getr 0 0 15 B 2 rfl ob_15 rfl (iX6_served _ (List.mem_of_getElem? (i := 1) rfl)) rfl ?_
  refine z_getr 1 0 16 B 3 rfl ob_16 rfl (iX6_served _ (List.mem_of_getElem? (i := 2) rfl)) rfl ?_
  refine z_iload_n B 4 rfl 1 1 rfl rfl ?_
  obtain ⟨r1, ec, hf⟩ := bd_e hf
  refine z_callV 17 5 [.int a1] [] [.int r1] X B 5 rfl ob_17 rfl rfl miX5_has ⟨(iX6_served _ (List.mem_of_getElem? (i := 3) rfl)), (iX6_served _ (List.mem_of_getElem? (i := 4) rfl)), (iX6_served _ (List.mem_of_getElem? (i := 5) rfl))⟩ (ctX5_has hj ob_17 ec) ⟨Nat.le_of_ble_eq_true rfl, Nat.le_of_ble_eq_true rfl⟩ rfl rfl (Nat.le_of_ble_eq_true rfl) rfl ?_
  by_cases hc : r1 = 0
  · replace hf := (if_pos hc).symm.trans hf
    refine z_if_ne_f B 6 rfl 19 (by decide) hc ?_
    refine z_iconst (-1) B 7 rfl (by decide) ?_
    cases hf
    exact z_iret B 8 rfl rfl hQ hr
  · replace hf := (if_neg hc).symm.trans hf
    refine z_if_ne_t B 6 rfl 19 (by decide) hc ?_
    refine z_aload_n B 9 rfl 0 0 rfl rfl ?_
    refine z_getr 6 0 14 B 10 rfl ob_14 rfl (iX6_served _ (List.mem_of_getElem? (i := 0) rfl)) rfl ?_
    obtain ⟨r2, ec, hf⟩ := bd_e hf
    refine z_callV 15 0 [] [] [] X B 11 rfl ob_15 rfl rfl miX0_clear ⟨(iX6_served _ (List.mem_of_getElem? (i := 6) rfl)), (iX6_served _ (List.mem_of_getElem? (i := 7) rfl)), (iX6_served _ (List.mem_of_getElem? (i := 8) rfl))⟩ (ctX0_clear hj ob_15 ec) ⟨Nat.le_of_ble_eq_true rfl, Nat.le_of_ble_eq_true rfl⟩ rfl rfl (Nat.le_of_ble_eq_true rfl) rfl ?_
    refine z_aload_n B 12 rfl 0 0 rfl rfl ?_
    refine z_getr 6 0 14 B 13 rfl ob_14 rfl (iX6_served _ (List.mem_of_getElem? (i := 0) rfl)) rfl ?_
    refine z_getr 0 3 15 B 14 rfl ob_15 rfl (iX6_served _ (List.mem_of_getElem? (i := 9) rfl)) rfl ?_
    refine z_iload_n B 15 rfl 1 1 rfl rfl ?_
    obtain ⟨r3, ec, hf⟩ := bd_e hf
    refine z_callS [.ref 37, .int a1] [] [.int r3] X B 16 rfl miX6_at ⟨(iX6_served _ (List.mem_of_getElem? (i := 10) rfl)), (iX6_served _ (List.mem_of_getElem? (i := 11) rfl))⟩ (ctX6_at hj ob_37 ec) ⟨Nat.le_of_ble_eq_true rfl, Nat.le_of_ble_eq_true rfl⟩ rfl rfl (Nat.le_of_ble_eq_true rfl) rfl ?_
    cases hf
    exact z_iret B 17 rfl rfl hQ hr
/-! ZoneCapacity.taken(II)I -/
def tbX6_taken : Tb := [(0, .aload_n 0, 1, 1), (1, .getfield 10, 3, 4), (4, .getfield 57, 3, 7), (7, .getfield 106, 3, 10), (10, .astore_n 3, 1, 11), (11, .aload_n 3, 1, 12), (12, .iload_n 1, 1, 13), (13, .invokevirtual 116, 3, 16), (16, .ifCond .ne 5, 3, 19), (19, .iconst (-1), 1, 20), (20, .ireturn, 1, 21), (21, .iload_n 2, 1, 22), (22, .iconst (-1), 1, 23), (23, .if_icmp .ne 19, 3, 26), (26, .aload_n 0, 1, 27), (27, .getfield 10, 3, 30), (30, .invokevirtual 209, 3, 33), (33, .aload_n 0, 1, 34), (34, .getfield 10, 3, 37), (37, .iload_n 1, 1, 38), (38, .invokevirtual 221, 3, 41), (41, .ireturn, 1, 42), (42, .aload_n 3, 1, 43), (43, .iload_n 1, 1, 44), (44, .iload_n 2, 1, 45), (45, .invokevirtual 188, 3, 48), (48, .ifCond .ne 5, 3, 51), (51, .iconst (-1), 1, 52), (52, .ireturn, 1, 53), (53, .aload_n 0, 1, 54), (54, .getfield 10, 3, 57), (57, .invokevirtual 209, 3, 60), (60, .aload_n 0, 1, 61), (61, .getfield 10, 3, 64), (64, .getfield 224, 3, 67), (67, .iload_n 1, 1, 68), (68, .iconst 4, 1, 69), (69, .imul, 1, 70), (70, .iload_n 2, 1, 71), (71, .iadd, 1, 72), (72, .invokestatic 92, 3, 75), (75, .ireturn, 1, 76)]
theorem dtX6_taken : ∀ q ∈ tbX6_taken, decode cX6_taken q.1 = .ok (q.2.1, q.2.2.1) ∧ q.1 + q.2.2.1 = q.2.2.2 := by decide +kernel
theorem miX6_taken : MI yX6_taken cX6_taken 4 (some .int) 2 := ⟨tw_mem (List.mem_of_getElem? (i := 750) (by decide +kernel)) rfl, by decide, by decide +kernel, tw_mem (List.mem_of_getElem? (i := 71) (by decide +kernel)) rfl⟩
abbrev rmX6_taken : Room := { frames := 5, cells := 0, slots := 0, locals := 123 }
def wX6_taken : List Cond := [.fieldLink "ZoneCapacity" 10 "ZoneCapacity" "now" "LZoneCapacity$Auction;", .fieldLink "ZoneCapacity" 57 "ZoneCapacity$Auction" "market" "LZoneCapacity$Market;", .fieldLink "ZoneCapacity" 106 "ZoneCapacity$Market" "offers" "LZoneCapacity$Offers;", .methodLink "ZoneCapacity" 116 yX2_has, .instanceMethod yX2_has, .selects "ZoneCapacity$Offers" yX2_has yX2_has, .methodLink "ZoneCapacity" 188 yX2_hasLine, .instanceMethod yX2_hasLine, .selects "ZoneCapacity$Offers" yX2_hasLine yX2_hasLine, .methodLink "ZoneCapacity" 209 yX0_clear, .instanceMethod yX0_clear, .selects "ZoneCapacity$Auction" yX0_clear yX0_clear, .fieldLink "ZoneCapacity" 224 "ZoneCapacity$Auction" "takenUnits" "[I", .methodLink "ZoneCapacity" 92 yX6_at, .static yX6_at, .methodLink "ZoneCapacity" 221 yX0_takenOf, .instanceMethod yX0_takenOf, .selects "ZoneCapacity$Auction" yX0_takenOf yX0_takenOf]
theorem iX6_taken : ∀ w ∈ wX6_taken, w ∈ TW := tw_of (ids := [317, 222, 215, 583, 584, 585, 629, 630, 631, 709, 710, 711, 230, 570, 386, 751, 752, 753]) (by decide +kernel)
def f6_taken (mm : Mem) (a1 : Int32) (a2 : Int32) : Option (Int32 × Mem) := bd (f2_has mm 24 a1) (fun r1 => if r1 = 0 then some ((-1 : Int32), mm) else if a2 = (-1 : Int32) then bd (f0_clear mm 15) (fun r5 => bd (f0_takenOf r5 15 a1) (fun r6 => some (r6, r5))) else bd (f2_hasLine mm 24 a1 a2) (fun r2 => if r2 = 0 then some ((-1 : Int32), mm) else bd (f0_clear mm 15) (fun r3 => bd (f6_at r3 38 ((a1 * (4 : Int32)) + a2)) (fun r4 => some (r4, r3)))))
theorem ctX6_taken {l : Launch} {C : Cfg} (hj : Dj C) {mm : Mem} {a1 : Int32} {a2 : Int32} {x : (Int32 × Mem)} (hf : f6_taken mm a1 a2 = some x) : Ct l C yX6_taken cX6_taken 4 (some .int) 5 123 [.ref 14, .int a1, .int a2] mm (some (.int x.1)) x.2 := by
  refine Ct.of (tb := tbX6_taken) hj miX6_taken.2.1 miX6_taken.1 dtX6_taken (Nat.le_of_ble_eq_true rfl) ?_
  intro E B hQ hr X
  unfold f6_taken at hf
  show G E 4 0 [(0, .ref 14), (1, .int a1), (2, .int a2)] [] mm
  refine z_aload_n B 0 rfl 0 0 rfl rfl ?_
  refine z_getr 6 0 14 B 1 rfl ob_14 rfl (iX6_taken _ (List.mem_of_getElem? (i := 0) rfl)) rfl ?_
  refine z_getr 0 0 15 B 2 rfl ob_15 rfl (iX6_taken _ (List.mem_of_getElem? (i := 1) rfl)) rfl ?_
  refine z_getr 1 1 16 B 3 rfl ob_16 rfl (iX6_taken _ (List.mem_of_getElem? (i := 2) rfl)) rfl ?_
  refine z_astore_n [(3, .ref 24), (0, .ref 14), (1, .int a1), (2, .int a2)] B 4 rfl 3 rfl (by decide) rfl ?_
  refine z_aload_n B 5 rfl 3 0 rfl rfl ?_
  refine z_iload_n B 6 rfl 1 2 rfl rfl ?_
  obtain ⟨r1, ec, hf⟩ := bd_e hf
  refine z_callV 24 2 [.int a1] [] [.int r1] X B 7 rfl ob_24 rfl rfl miX2_has ⟨(iX6_taken _ (List.mem_of_getElem? (i := 3) rfl)), (iX6_taken _ (List.mem_of_getElem? (i := 4) rfl)), (iX6_taken _ (List.mem_of_getElem? (i := 5) rfl))⟩ (ctX2_has hj ob_24 ec) ⟨Nat.le_of_ble_eq_true rfl, Nat.le_of_ble_eq_true rfl⟩ rfl rfl (Nat.le_of_ble_eq_true rfl) rfl ?_
  by_cases hc : r1 = 0
  · replace hf := (if_pos hc).symm.trans hf
    refine z_if_ne_f B 8 rfl 21 (by decide) hc ?_
    refine z_iconst (-1) B 9 rfl (by decide) ?_
    cases hf
    exact z_iret B 10 rfl rfl hQ hr
  · replace hf := (if_neg hc).symm.trans hf
    refine z_if_ne_t B 8 rfl 21 (by decide) hc ?_
    refine z_iload_n B 11 rfl 2 3 rfl rfl ?_
    refine z_iconst (-1) B 12 rfl (by decide) ?_
    by_cases hc : a2 = (-1 : Int32)
    · replace hf := (if_pos hc).symm.trans hf
      refine z_icmp_ne_f B 13 rfl 42 (by decide) hc ?_
      refine z_aload_n B 14 rfl 0 1 rfl rfl ?_
      refine z_getr 6 0 14 B 15 rfl ob_14 rfl (iX6_taken _ (List.mem_of_getElem? (i := 0) rfl)) rfl ?_
      obtain ⟨r5, ec, hf⟩ := bd_e hf
      refine z_callV 15 0 [] [] [] X B 16 rfl ob_15 rfl rfl miX0_clear ⟨(iX6_taken _ (List.mem_of_getElem? (i := 9) rfl)), (iX6_taken _ (List.mem_of_getElem? (i := 10) rfl)), (iX6_taken _ (List.mem_of_getElem? (i := 11) rfl))⟩ (ctX0_clear hj ob_15 ec) ⟨Nat.le_of_ble_eq_true rfl, Nat.le_of_ble_eq_true rfl⟩ rfl rfl (Nat.le_of_ble_eq_true rfl) rfl ?_
      refine z_aload_n B 17 rfl 0 1 rfl rfl ?_
      refine z_getr 6 0 14 B 18 rfl ob_14 rfl (iX6_taken _ (List.mem_of_getElem? (i := 0) rfl)) rfl ?_
      refine z_iload_n B 19 rfl 1 2 rfl rfl ?_
      obtain ⟨r6, ec, hf⟩ := bd_e hf
      refine z_callV 15 0 [.int a1] [] [.int r6] X B 20 rfl ob_15 rfl rfl miX0_takenOf ⟨(iX6_taken _ (List.mem_of_getElem? (i := 15) rfl)), (iX6_taken _ (List.mem_of_getElem? (i := 16) rfl)), (iX6_taken _ (List.mem_of_getElem? (i := 17) rfl))⟩ (ctX0_takenOf hj ob_15 ec) ⟨Nat.le_of_ble_eq_true rfl, Nat.le_of_ble_eq_true rfl⟩ rfl rfl (Nat.le_of_ble_eq_true rfl) rfl ?_
      cases hf
      exact z_iret B 21 rfl rfl hQ hr
    · replace hf := (if_neg hc).symm.trans hf
      refine z_icmp_ne_t B 13 rfl 42 (by decide) hc ?_
      refine z_aload_n B 22 rfl 3 0 rfl rfl ?_
      refine z_iload_n B 23 rfl 1 2 rfl rfl ?_
      refine z_iload_n B 24 rfl 2 3 rfl rfl ?_
      obtain ⟨r2, ec, hf⟩ := bd_e hf
      refine z_callV 24 2 [.int a1, .int a2] [] [.int r2] X B 25 rfl ob_24 rfl rfl miX2_hasLine ⟨(iX6_taken _ (List.mem_of_getElem? (i := 6) rfl)), (iX6_taken _ (List.mem_of_getElem? (i := 7) rfl)), (iX6_taken _ (List.mem_of_getElem? (i := 8) rfl))⟩ (ctX2_hasLine hj ob_24 ec) ⟨Nat.le_of_ble_eq_true rfl, Nat.le_of_ble_eq_true rfl⟩ rfl rfl (Nat.le_of_ble_eq_true rfl) rfl ?_
      by_cases hc : r2 = 0
      · replace hf := (if_pos hc).symm.trans hf
        refine z_if_ne_f B 26 rfl 53 (by decide) hc ?_
        refine z_iconst (-1) B 27 rfl (by decide) ?_
        cases hf
        exact z_iret B 28 rfl rfl hQ hr
      · replace hf := (if_neg hc).symm.trans hf
        refine z_if_ne_t B 26 rfl 53 (by decide) hc ?_
        refine z_aload_n B 29 rfl 0 1 rfl rfl ?_
        refine z_getr 6 0 14 B 30 rfl ob_14 rfl (iX6_taken _ (List.mem_of_getElem? (i := 0) rfl)) rfl ?_
        obtain ⟨r3, ec, hf⟩ := bd_e hf
        refine z_callV 15 0 [] [] [] X B 31 rfl ob_15 rfl rfl miX0_clear ⟨(iX6_taken _ (List.mem_of_getElem? (i := 9) rfl)), (iX6_taken _ (List.mem_of_getElem? (i := 10) rfl)), (iX6_taken _ (List.mem_of_getElem? (i := 11) rfl))⟩ (ctX0_clear hj ob_15 ec) ⟨Nat.le_of_ble_eq_true rfl, Nat.le_of_ble_eq_true rfl⟩ rfl rfl (Nat.le_of_ble_eq_true rfl) rfl ?_
        refine z_aload_n B 32 rfl 0 1 rfl rfl ?_
        refine z_getr 6 0 14 B 33 rfl ob_14 rfl (iX6_taken _ (List.mem_of_getElem? (i := 0) rfl)) rfl ?_
        refine z_getr 0 4 15 B 34 rfl ob_15 rfl (iX6_taken _ (List.mem_of_getElem? (i := 12) rfl)) rfl ?_
        refine z_iload_n B 35 rfl 1 2 rfl rfl ?_
        refine z_iconst 4 B 36 rfl (by decide) ?_
        refine z_imul B 37 rfl ?_
        refine z_iload_n B 38 rfl 2 3 rfl rfl ?_
        refine z_iadd B 39 rfl ?_
        obtain ⟨r4, ec, hf⟩ := bd_e hf
        refine z_callS [.ref 38, .int ((a1 * (4 : Int32)) + a2)] [] [.int r4] X B 40 rfl miX6_at ⟨(iX6_taken _ (List.mem_of_getElem? (i := 13) rfl)), (iX6_taken _ (List.mem_of_getElem? (i := 14) rfl))⟩ (ctX6_at hj ob_38 ec) ⟨Nat.le_of_ble_eq_true rfl, Nat.le_of_ble_eq_true rfl⟩ rfl rfl (Nat.le_of_ble_eq_true rfl) rfl ?_
        cases hf
        exact z_iret B 41 rfl rfl hQ hr
/-! ZoneCapacity.binds(I)I -/
def tbX6_binds : Tb := [(0, .aload_n 0, 1, 1), (1, .getfield 10, 3, 4), (4, .getfield 57, 3, 7), (7, .getfield 71, 3, 10), (10, .iload_n 1, 1, 11), (11, .invokevirtual 80, 3, 14), (14, .ifCond .ne 5, 3, 17), (17, .iconst (-1), 1, 18), (18, .ireturn, 1, 19), (19, .iload_n 1, 1, 20), (20, .ifCond .ne 5, 3, 23), (23, .iconst 0, 1, 24), (24, .ireturn, 1, 25), (25, .aload_n 0, 1, 26), (26, .getfield 10, 3, 29), (29, .invokevirtual 209, 3, 32), (32, .aload_n 0, 1, 33), (33, .getfield 10, 3, 36), (36, .iload_n 1, 1, 37), (37, .invokevirtual 227, 3, 40), (40, .ireturn, 1, 41)]
theorem dtX6_binds : ∀ q ∈ tbX6_binds, decode cX6_binds q.1 = .ok (q.2.1, q.2.2.1) ∧ q.1 + q.2.2.1 = q.2.2.2 := by decide +kernel
theorem miX6_binds : MI yX6_binds cX6_binds 2 (some .int) 1 := ⟨tw_mem (List.mem_of_getElem? (i := 758) (by decide +kernel)) rfl, by decide, by decide +kernel, tw_mem (List.mem_of_getElem? (i := 71) (by decide +kernel)) rfl⟩
abbrev rmX6_binds : Room := { frames := 5, cells := 0, slots := 0, locals := 123 }
def wX6_binds : List Cond := [.fieldLink "ZoneCapacity" 10 "ZoneCapacity" "now" "LZoneCapacity$Auction;", .fieldLink "ZoneCapacity" 57 "ZoneCapacity$Auction" "market" "LZoneCapacity$Market;", .fieldLink "ZoneCapacity" 71 "ZoneCapacity$Market" "zones" "LZoneCapacity$Zones;", .methodLink "ZoneCapacity" 80 yX5_has, .instanceMethod yX5_has, .selects "ZoneCapacity$Zones" yX5_has yX5_has, .methodLink "ZoneCapacity" 209 yX0_clear, .instanceMethod yX0_clear, .selects "ZoneCapacity$Auction" yX0_clear yX0_clear, .methodLink "ZoneCapacity" 227 yX0_boundOf, .instanceMethod yX0_boundOf, .selects "ZoneCapacity$Auction" yX0_boundOf yX0_boundOf]
theorem iX6_binds : ∀ w ∈ wX6_binds, w ∈ TW := tw_of (ids := [317, 222, 211, 561, 562, 563, 709, 710, 711, 759, 760, 761]) (by decide +kernel)
def f6_binds (mm : Mem) (a1 : Int32) : Option (Int32 × Mem) := bd (f5_has mm 17 a1) (fun r1 => if r1 = 0 then some ((-1 : Int32), mm) else if a1 = 0 then some ((0 : Int32), mm) else bd (f0_clear mm 15) (fun r2 => bd (f0_boundOf r2 15 a1) (fun r3 => some (r3, r2))))
theorem ctX6_binds {l : Launch} {C : Cfg} (hj : Dj C) {mm : Mem} {a1 : Int32} {x : (Int32 × Mem)} (hf : f6_binds mm a1 = some x) : Ct l C yX6_binds cX6_binds 2 (some .int) 5 123 [.ref 14, .int a1] mm (some (.int x.1)) x.2 := by
  refine Ct.of (tb := tbX6_binds) hj miX6_binds.2.1 miX6_binds.1 dtX6_binds (Nat.le_of_ble_eq_true rfl) ?_
  intro E B hQ hr X
  unfold f6_binds at hf
  show G E 2 0 [(0, .ref 14), (1, .int a1)] [] mm
  refine z_aload_n B 0 rfl 0 0 rfl rfl ?_
  refine z_getr 6 0 14 B 1 rfl ob_14 rfl (iX6_binds _ (List.mem_of_getElem? (i := 0) rfl)) rfl ?_
  refine z_getr 0 0 15 B 2 rfl ob_15 rfl (iX6_binds _ (List.mem_of_getElem? (i := 1) rfl)) rfl ?_
  refine z_getr 1 0 16 B 3 rfl ob_16 rfl (iX6_binds _ (List.mem_of_getElem? (i := 2) rfl)) rfl ?_
  refine z_iload_n B 4 rfl 1 1 rfl rfl ?_
  obtain ⟨r1, ec, hf⟩ := bd_e hf
  refine z_callV 17 5 [.int a1] [] [.int r1] X B 5 rfl ob_17 rfl rfl miX5_has ⟨(iX6_binds _ (List.mem_of_getElem? (i := 3) rfl)), (iX6_binds _ (List.mem_of_getElem? (i := 4) rfl)), (iX6_binds _ (List.mem_of_getElem? (i := 5) rfl))⟩ (ctX5_has hj ob_17 ec) ⟨Nat.le_of_ble_eq_true rfl, Nat.le_of_ble_eq_true rfl⟩ rfl rfl (Nat.le_of_ble_eq_true rfl) rfl ?_
  by_cases hc : r1 = 0
  · replace hf := (if_pos hc).symm.trans hf
    refine z_if_ne_f B 6 rfl 19 (by decide) hc ?_
    refine z_iconst (-1) B 7 rfl (by decide) ?_
    cases hf
    exact z_iret B 8 rfl rfl hQ hr
  · replace hf := (if_neg hc).symm.trans hf
    refine z_if_ne_t B 6 rfl 19 (by decide) hc ?_
    refine z_iload_n B 9 rfl 1 1 rfl rfl ?_
    by_cases hc : a1 = 0
    · replace hf := (if_pos hc).symm.trans hf
      refine z_if_ne_f B 10 rfl 25 (by decide) hc ?_
      refine z_iconst 0 B 11 rfl (by decide) ?_
      cases hf
      exact z_iret B 12 rfl rfl hQ hr
    · replace hf := (if_neg hc).symm.trans hf
      refine z_if_ne_t B 10 rfl 25 (by decide) hc ?_
      refine z_aload_n B 13 rfl 0 0 rfl rfl ?_
      refine z_getr 6 0 14 B 14 rfl ob_14 rfl (iX6_binds _ (List.mem_of_getElem? (i := 0) rfl)) rfl ?_
      obtain ⟨r2, ec, hf⟩ := bd_e hf
      refine z_callV 15 0 [] [] [] X B 15 rfl ob_15 rfl rfl miX0_clear ⟨(iX6_binds _ (List.mem_of_getElem? (i := 6) rfl)), (iX6_binds _ (List.mem_of_getElem? (i := 7) rfl)), (iX6_binds _ (List.mem_of_getElem? (i := 8) rfl))⟩ (ctX0_clear hj ob_15 ec) ⟨Nat.le_of_ble_eq_true rfl, Nat.le_of_ble_eq_true rfl⟩ rfl rfl (Nat.le_of_ble_eq_true rfl) rfl ?_
      refine z_aload_n B 16 rfl 0 0 rfl rfl ?_
      refine z_getr 6 0 14 B 17 rfl ob_14 rfl (iX6_binds _ (List.mem_of_getElem? (i := 0) rfl)) rfl ?_
      refine z_iload_n B 18 rfl 1 1 rfl rfl ?_
      obtain ⟨r3, ec, hf⟩ := bd_e hf
      refine z_callV 15 0 [.int a1] [] [.int r3] X B 19 rfl ob_15 rfl rfl miX0_boundOf ⟨(iX6_binds _ (List.mem_of_getElem? (i := 9) rfl)), (iX6_binds _ (List.mem_of_getElem? (i := 10) rfl)), (iX6_binds _ (List.mem_of_getElem? (i := 11) rfl))⟩ (ctX0_boundOf hj ob_15 ec) ⟨Nat.le_of_ble_eq_true rfl, Nat.le_of_ble_eq_true rfl⟩ rfl rfl (Nat.le_of_ble_eq_true rfl) rfl ?_
      cases hf
      exact z_iret B 20 rfl rfl hQ hr
/-! ZoneCapacity.surplus()J -/
def tbX6_surplus : Tb := [(0, .aload_n 0, 1, 1), (1, .getfield 10, 3, 4), (4, .invokevirtual 209, 3, 7), (7, .aload_n 0, 1, 8), (8, .getfield 10, 3, 11), (11, .invokevirtual 230, 3, 14), (14, .lreturn, 1, 15)]
theorem dtX6_surplus : ∀ q ∈ tbX6_surplus, decode cX6_surplus q.1 = .ok (q.2.1, q.2.2.1) ∧ q.1 + q.2.2.1 = q.2.2.2 := by decide +kernel
theorem miX6_surplus : MI yX6_surplus cX6_surplus 1 (some .long) 0 := ⟨tw_mem (List.mem_of_getElem? (i := 766) (by decide +kernel)) rfl, by decide, by decide +kernel, tw_mem (List.mem_of_getElem? (i := 71) (by decide +kernel)) rfl⟩
abbrev rmX6_surplus : Room := { frames := 5, cells := 0, slots := 0, locals := 123 }
def wX6_surplus : List Cond := [.fieldLink "ZoneCapacity" 10 "ZoneCapacity" "now" "LZoneCapacity$Auction;", .methodLink "ZoneCapacity" 209 yX0_clear, .instanceMethod yX0_clear, .selects "ZoneCapacity$Auction" yX0_clear yX0_clear, .methodLink "ZoneCapacity" 230 yX0_surplusOfAll, .instanceMethod yX0_surplusOfAll, .selects "ZoneCapacity$Auction" yX0_surplusOfAll yX0_surplusOfAll]
theorem iX6_surplus : ∀ w ∈ wX6_surplus, w ∈ TW := tw_of (ids := [317, 709, 710, 711, 767, 768, 769]) (by decide +kernel)
def f6_surplus (mm : Mem) : Option (Int64 × Mem) := bd (f0_clear mm 15) (fun r1 => bd (f0_surplusOfAll r1 15) (fun r2 => some (r2, r1)))
theorem ctX6_surplus {l : Launch} {C : Cfg} (hj : Dj C) {mm : Mem} {x : (Int64 × Mem)} (hf : f6_surplus mm = some x) : Ct l C yX6_surplus cX6_surplus 1 (some .long) 5 123 [.ref 14] mm (some (.long x.1)) x.2 := by
  refine Ct.of (tb := tbX6_surplus) hj miX6_surplus.2.1 miX6_surplus.1 dtX6_surplus (Nat.le_of_ble_eq_true rfl) ?_
  intro E B hQ hr X
  unfold f6_surplus at hf
  show G E 1 0 [(0, .ref 14)] [] mm
  refine z_aload_n B 0 rfl 0 0 rfl rfl ?_
  refine z_getr 6 0 14 B 1 rfl ob_14 rfl (iX6_surplus _ (List.mem_of_getElem? (i := 0) rfl)) rfl ?_
  obtain ⟨r1, ec, hf⟩ := bd_e hf
  refine z_callV 15 0 [] [] [] X B 2 rfl ob_15 rfl rfl miX0_clear ⟨(iX6_surplus _ (List.mem_of_getElem? (i := 1) rfl)), (iX6_surplus _ (List.mem_of_getElem? (i := 2) rfl)), (iX6_surplus _ (List.mem_of_getElem? (i := 3) rfl))⟩ (ctX0_clear hj ob_15 ec) ⟨Nat.le_of_ble_eq_true rfl, Nat.le_of_ble_eq_true rfl⟩ rfl rfl (Nat.le_of_ble_eq_true rfl) rfl ?_
  refine z_aload_n B 3 rfl 0 0 rfl rfl ?_
  refine z_getr 6 0 14 B 4 rfl ob_14 rfl (iX6_surplus _ (List.mem_of_getElem? (i := 0) rfl)) rfl ?_
  obtain ⟨r2, ec, hf⟩ := bd_e hf
  refine z_callV 15 0 [] [] [.long r2] X B 5 rfl ob_15 rfl rfl miX0_surplusOfAll ⟨(iX6_surplus _ (List.mem_of_getElem? (i := 4) rfl)), (iX6_surplus _ (List.mem_of_getElem? (i := 5) rfl)), (iX6_surplus _ (List.mem_of_getElem? (i := 6) rfl))⟩ (ctX0_surplusOfAll hj ob_15 ec) ⟨Nat.le_of_ble_eq_true rfl, Nat.le_of_ble_eq_true rfl⟩ rfl rfl (Nat.le_of_ble_eq_true rfl) rfl ?_
  cases hf
  exact z_lret B 6 rfl hQ hr
/-! ZoneCapacity.rent(I)J -/
def tbX6_rent : Tb := [(0, .aload_n 0, 1, 1), (1, .getfield 10, 3, 4), (4, .getfield 57, 3, 7), (7, .getfield 71, 3, 10), (10, .iload_n 1, 1, 11), (11, .invokevirtual 80, 3, 14), (14, .ifCond .ne 7, 3, 17), (17, .ldc2_w 234, 3, 20), (20, .lreturn, 1, 21), (21, .iload_n 1, 1, 22), (22, .ifCond .ne 5, 3, 25), (25, .lconst 0, 1, 26), (26, .lreturn, 1, 27), (27, .aload_n 0, 1, 28), (28, .getfield 10, 3, 31), (31, .invokevirtual 209, 3, 34), (34, .aload_n 0, 1, 35), (35, .getfield 10, 3, 38), (38, .iload_n 1, 1, 39), (39, .invokevirtual 236, 3, 42), (42, .lreturn, 1, 43)]
theorem dtX6_rent : ∀ q ∈ tbX6_rent, decode cX6_rent q.1 = .ok (q.2.1, q.2.2.1) ∧ q.1 + q.2.2.1 = q.2.2.2 := by decide +kernel
theorem miX6_rent : MI yX6_rent cX6_rent 2 (some .long) 1 := ⟨tw_mem (List.mem_of_getElem? (i := 778) (by decide +kernel)) rfl, by decide, by decide +kernel, tw_mem (List.mem_of_getElem? (i := 71) (by decide +kernel)) rfl⟩
abbrev rmX6_rent : Room := { frames := 5, cells := 0, slots := 0, locals := 123 }
def wX6_rent : List Cond := [.fieldLink "ZoneCapacity" 10 "ZoneCapacity" "now" "LZoneCapacity$Auction;", .fieldLink "ZoneCapacity" 57 "ZoneCapacity$Auction" "market" "LZoneCapacity$Market;", .fieldLink "ZoneCapacity" 71 "ZoneCapacity$Market" "zones" "LZoneCapacity$Zones;", .methodLink "ZoneCapacity" 80 yX5_has, .instanceMethod yX5_has, .selects "ZoneCapacity$Zones" yX5_has yX5_has, .methodLink "ZoneCapacity" 209 yX0_clear, .instanceMethod yX0_clear, .selects "ZoneCapacity$Auction" yX0_clear yX0_clear, .methodLink "ZoneCapacity" 236 yX0_rentOf, .instanceMethod yX0_rentOf, .selects "ZoneCapacity$Auction" yX0_rentOf yX0_rentOf, .constantLong "ZoneCapacity" 234 (-1000000000000000)]
theorem iX6_rent : ∀ w ∈ wX6_rent, w ∈ TW := tw_of (ids := [317, 222, 211, 561, 562, 563, 709, 710, 711, 780, 781, 782, 779]) (by decide +kernel)
def f6_rent (mm : Mem) (a1 : Int32) : Option (Int64 × Mem) := bd (f5_has mm 17 a1) (fun r1 => if r1 = 0 then some ((-1000000000000000 : Int64), mm) else if a1 = 0 then some ((0 : Int64), mm) else bd (f0_clear mm 15) (fun r2 => bd (f0_rentOf r2 15 a1) (fun r3 => some (r3, r2))))
theorem ctX6_rent {l : Launch} {C : Cfg} (hj : Dj C) {mm : Mem} {a1 : Int32} {x : (Int64 × Mem)} (hf : f6_rent mm a1 = some x) : Ct l C yX6_rent cX6_rent 2 (some .long) 5 123 [.ref 14, .int a1] mm (some (.long x.1)) x.2 := by
  refine Ct.of (tb := tbX6_rent) hj miX6_rent.2.1 miX6_rent.1 dtX6_rent (Nat.le_of_ble_eq_true rfl) ?_
  intro E B hQ hr X
  unfold f6_rent at hf
  show G E 2 0 [(0, .ref 14), (1, .int a1)] [] mm
  refine z_aload_n B 0 rfl 0 0 rfl rfl ?_
  refine z_getr 6 0 14 B 1 rfl ob_14 rfl (iX6_rent _ (List.mem_of_getElem? (i := 0) rfl)) rfl ?_
  refine z_getr 0 0 15 B 2 rfl ob_15 rfl (iX6_rent _ (List.mem_of_getElem? (i := 1) rfl)) rfl ?_
  refine z_getr 1 0 16 B 3 rfl ob_16 rfl (iX6_rent _ (List.mem_of_getElem? (i := 2) rfl)) rfl ?_
  refine z_iload_n B 4 rfl 1 1 rfl rfl ?_
  obtain ⟨r1, ec, hf⟩ := bd_e hf
  refine z_callV 17 5 [.int a1] [] [.int r1] X B 5 rfl ob_17 rfl rfl miX5_has ⟨(iX6_rent _ (List.mem_of_getElem? (i := 3) rfl)), (iX6_rent _ (List.mem_of_getElem? (i := 4) rfl)), (iX6_rent _ (List.mem_of_getElem? (i := 5) rfl))⟩ (ctX5_has hj ob_17 ec) ⟨Nat.le_of_ble_eq_true rfl, Nat.le_of_ble_eq_true rfl⟩ rfl rfl (Nat.le_of_ble_eq_true rfl) rfl ?_
  by_cases hc : r1 = 0
  · replace hf := (if_pos hc).symm.trans hf
    refine z_if_ne_f B 6 rfl 21 (by decide) hc ?_
    refine z_ldc2 (-1000000000000000) B 7 rfl (iX6_rent _ (List.mem_of_getElem? (i := 12) rfl)) ?_
    cases hf
    exact z_lret B 8 rfl hQ hr
  · replace hf := (if_neg hc).symm.trans hf
    refine z_if_ne_t B 6 rfl 21 (by decide) hc ?_
    refine z_iload_n B 9 rfl 1 1 rfl rfl ?_
    by_cases hc : a1 = 0
    · replace hf := (if_pos hc).symm.trans hf
      refine z_if_ne_f B 10 rfl 27 (by decide) hc ?_
      refine z_lconst 0 B 11 rfl (by decide) ?_
      cases hf
      exact z_lret B 12 rfl hQ hr
    · replace hf := (if_neg hc).symm.trans hf
      refine z_if_ne_t B 10 rfl 27 (by decide) hc ?_
      refine z_aload_n B 13 rfl 0 0 rfl rfl ?_
      refine z_getr 6 0 14 B 14 rfl ob_14 rfl (iX6_rent _ (List.mem_of_getElem? (i := 0) rfl)) rfl ?_
      obtain ⟨r2, ec, hf⟩ := bd_e hf
      refine z_callV 15 0 [] [] [] X B 15 rfl ob_15 rfl rfl miX0_clear ⟨(iX6_rent _ (List.mem_of_getElem? (i := 6) rfl)), (iX6_rent _ (List.mem_of_getElem? (i := 7) rfl)), (iX6_rent _ (List.mem_of_getElem? (i := 8) rfl))⟩ (ctX0_clear hj ob_15 ec) ⟨Nat.le_of_ble_eq_true rfl, Nat.le_of_ble_eq_true rfl⟩ rfl rfl (Nat.le_of_ble_eq_true rfl) rfl ?_
      refine z_aload_n B 16 rfl 0 0 rfl rfl ?_
      refine z_getr 6 0 14 B 17 rfl ob_14 rfl (iX6_rent _ (List.mem_of_getElem? (i := 0) rfl)) rfl ?_
      refine z_iload_n B 18 rfl 1 1 rfl rfl ?_
      obtain ⟨r3, ec, hf⟩ := bd_e hf
      refine z_callV 15 0 [.int a1] [] [.long r3] X B 19 rfl ob_15 rfl rfl miX0_rentOf ⟨(iX6_rent _ (List.mem_of_getElem? (i := 9) rfl)), (iX6_rent _ (List.mem_of_getElem? (i := 10) rfl)), (iX6_rent _ (List.mem_of_getElem? (i := 11) rfl))⟩ (ctX0_rentOf hj ob_15 ec) ⟨Nat.le_of_ble_eq_true rfl, Nat.le_of_ble_eq_true rfl⟩ rfl rfl (Nat.le_of_ble_eq_true rfl) rfl ?_
      cases hf
      exact z_lret B 20 rfl hQ hr
/-! ZoneCapacity.paid(I)J -/
def tbX6_paid : Tb := [(0, .aload_n 0, 1, 1), (1, .getfield 10, 3, 4), (4, .getfield 57, 3, 7), (7, .getfield 106, 3, 10), (10, .iload_n 1, 1, 11), (11, .invokevirtual 116, 3, 14), (14, .ifCond .eq 19, 3, 17), (17, .aload_n 0, 1, 18), (18, .getfield 10, 3, 21), (21, .invokevirtual 209, 3, 24), (24, .aload_n 0, 1, 25), (25, .getfield 10, 3, 28), (28, .iload_n 1, 1, 29), (29, .invokevirtual 240, 3, 32), (32, .lreturn, 1, 33), (33, .iload_n 1, 1, 34), (34, .bipush 100, 2, 36), (36, .bipush 105, 2, 38), (38, .invokestatic 50, 3, 41), (41, .ifCond .eq 22, 3, 44), (44, .aload_n 0, 1, 45), (45, .getfield 10, 3, 48), (48, .invokevirtual 209, 3, 51), (51, .aload_n 0, 1, 52), (52, .getfield 10, 3, 55), (55, .iload_n 1, 1, 56), (56, .bipush 100, 2, 58), (58, .isub, 1, 59), (59, .invokevirtual 243, 3, 62), (62, .lreturn, 1, 63), (63, .ldc2_w 234, 3, 66), (66, .lreturn, 1, 67)]
theorem dtX6_paid : ∀ q ∈ tbX6_paid, decode cX6_paid q.1 = .ok (q.2.1, q.2.2.1) ∧ q.1 + q.2.2.1 = q.2.2.2 := by decide +kernel
theorem miX6_paid : MI yX6_paid cX6_paid 2 (some .long) 1 := ⟨tw_mem (List.mem_of_getElem? (i := 787) (by decide +kernel)) rfl, by decide, by decide +kernel, tw_mem (List.mem_of_getElem? (i := 71) (by decide +kernel)) rfl⟩
abbrev rmX6_paid : Room := { frames := 5, cells := 0, slots := 0, locals := 123 }
def wX6_paid : List Cond := [.fieldLink "ZoneCapacity" 10 "ZoneCapacity" "now" "LZoneCapacity$Auction;", .fieldLink "ZoneCapacity" 57 "ZoneCapacity$Auction" "market" "LZoneCapacity$Market;", .fieldLink "ZoneCapacity" 106 "ZoneCapacity$Market" "offers" "LZoneCapacity$Offers;", .methodLink "ZoneCapacity" 116 yX2_has, .instanceMethod yX2_has, .selects "ZoneCapacity$Offers" yX2_has yX2_has, .methodLink "ZoneCapacity" 50 yX6_within, .static yX6_within, .constantLong "ZoneCapacity" 234 (-1000000000000000), .methodLink "ZoneCapacity" 209 yX0_clear, .instanceMethod yX0_clear, .selects "ZoneCapacity$Auction" yX0_clear yX0_clear, .methodLink "ZoneCapacity" 243 yX0_paidToOwner, .instanceMethod yX0_paidToOwner, .selects "ZoneCapacity$Auction" yX0_paidToOwner yX0_paidToOwner, .methodLink "ZoneCapacity" 240 yX0_paidTo, .instanceMethod yX0_paidTo, .selects "ZoneCapacity$Auction" yX0_paidTo yX0_paidTo]
theorem iX6_paid : ∀ w ∈ wX6_paid, w ∈ TW := tw_of (ids := [317, 222, 215, 583, 584, 585, 354, 355, 779, 709, 710, 711, 793, 794, 795, 788, 789, 790]) (by decide +kernel)
def f6_paid (mm : Mem) (a1 : Int32) : Option (Int64 × Mem) := bd (f2_has mm 24 a1) (fun r1 => if r1 = 0 then bd (f6_within mm a1 (100 : Int32) (105 : Int32)) (fun r2 => if r2 = 0 then some ((-1000000000000000 : Int64), mm) else bd (f0_clear mm 15) (fun r3 => bd (f0_paidToOwner r3 15 (a1 - (100 : Int32))) (fun r4 => some (r4, r3)))) else bd (f0_clear mm 15) (fun r5 => bd (f0_paidTo r5 15 a1) (fun r6 => some (r6, r5))))
theorem ctX6_paid {l : Launch} {C : Cfg} (hj : Dj C) {mm : Mem} {a1 : Int32} {x : (Int64 × Mem)} (hf : f6_paid mm a1 = some x) : Ct l C yX6_paid cX6_paid 2 (some .long) 5 123 [.ref 14, .int a1] mm (some (.long x.1)) x.2 := by
  refine Ct.of (tb := tbX6_paid) hj miX6_paid.2.1 miX6_paid.1 dtX6_paid (Nat.le_of_ble_eq_true rfl) ?_
  intro E B hQ hr X
  unfold f6_paid at hf
  show G E 2 0 [(0, .ref 14), (1, .int a1)] [] mm
  refine z_aload_n B 0 rfl 0 0 rfl rfl ?_
  refine z_getr 6 0 14 B 1 rfl ob_14 rfl (iX6_paid _ (List.mem_of_getElem? (i := 0) rfl)) rfl ?_
  refine z_getr 0 0 15 B 2 rfl ob_15 rfl (iX6_paid _ (List.mem_of_getElem? (i := 1) rfl)) rfl ?_
  refine z_getr 1 1 16 B 3 rfl ob_16 rfl (iX6_paid _ (List.mem_of_getElem? (i := 2) rfl)) rfl ?_
  refine z_iload_n B 4 rfl 1 1 rfl rfl ?_
  obtain ⟨r1, ec, hf⟩ := bd_e hf
  refine z_callV 24 2 [.int a1] [] [.int r1] X B 5 rfl ob_24 rfl rfl miX2_has ⟨(iX6_paid _ (List.mem_of_getElem? (i := 3) rfl)), (iX6_paid _ (List.mem_of_getElem? (i := 4) rfl)), (iX6_paid _ (List.mem_of_getElem? (i := 5) rfl))⟩ (ctX2_has hj ob_24 ec) ⟨Nat.le_of_ble_eq_true rfl, Nat.le_of_ble_eq_true rfl⟩ rfl rfl (Nat.le_of_ble_eq_true rfl) rfl ?_
  by_cases hc : r1 = 0
  · replace hf := (if_pos hc).symm.trans hf
    refine z_if_eq_t B 6 rfl 33 (by decide) hc ?_
    refine z_iload_n B 15 rfl 1 1 rfl rfl ?_
    refine z_bipush 100 B 16 rfl (by decide) ?_
    refine z_bipush 105 B 17 rfl (by decide) ?_
    obtain ⟨r2, ec, hf⟩ := bd_e hf
    refine z_callS [.int a1, .int (100 : Int32), .int (105 : Int32)] [] [.int r2] X B 18 rfl miX6_within ⟨(iX6_paid _ (List.mem_of_getElem? (i := 6) rfl)), (iX6_paid _ (List.mem_of_getElem? (i := 7) rfl))⟩ (ctX6_within hj ec) ⟨Nat.le_of_ble_eq_true rfl, Nat.le_of_ble_eq_true rfl⟩ rfl rfl (Nat.le_of_ble_eq_true rfl) rfl ?_
    by_cases hc : r2 = 0
    · replace hf := (if_pos hc).symm.trans hf
      refine z_if_eq_t B 19 rfl 63 (by decide) hc ?_
      refine z_ldc2 (-1000000000000000) B 30 rfl (iX6_paid _ (List.mem_of_getElem? (i := 8) rfl)) ?_
      cases hf
      exact z_lret B 31 rfl hQ hr
    · replace hf := (if_neg hc).symm.trans hf
      refine z_if_eq_f B 19 rfl 63 (by decide) hc ?_
      refine z_aload_n B 20 rfl 0 0 rfl rfl ?_
      refine z_getr 6 0 14 B 21 rfl ob_14 rfl (iX6_paid _ (List.mem_of_getElem? (i := 0) rfl)) rfl ?_
      obtain ⟨r3, ec, hf⟩ := bd_e hf
      refine z_callV 15 0 [] [] [] X B 22 rfl ob_15 rfl rfl miX0_clear ⟨(iX6_paid _ (List.mem_of_getElem? (i := 9) rfl)), (iX6_paid _ (List.mem_of_getElem? (i := 10) rfl)), (iX6_paid _ (List.mem_of_getElem? (i := 11) rfl))⟩ (ctX0_clear hj ob_15 ec) ⟨Nat.le_of_ble_eq_true rfl, Nat.le_of_ble_eq_true rfl⟩ rfl rfl (Nat.le_of_ble_eq_true rfl) rfl ?_
      refine z_aload_n B 23 rfl 0 0 rfl rfl ?_
      refine z_getr 6 0 14 B 24 rfl ob_14 rfl (iX6_paid _ (List.mem_of_getElem? (i := 0) rfl)) rfl ?_
      refine z_iload_n B 25 rfl 1 1 rfl rfl ?_
      refine z_bipush 100 B 26 rfl (by decide) ?_
      refine z_isub B 27 rfl ?_
      obtain ⟨r4, ec, hf⟩ := bd_e hf
      refine z_callV 15 0 [.int (a1 - (100 : Int32))] [] [.long r4] X B 28 rfl ob_15 rfl rfl miX0_paidToOwner ⟨(iX6_paid _ (List.mem_of_getElem? (i := 12) rfl)), (iX6_paid _ (List.mem_of_getElem? (i := 13) rfl)), (iX6_paid _ (List.mem_of_getElem? (i := 14) rfl))⟩ (ctX0_paidToOwner hj ob_15 ec) ⟨Nat.le_of_ble_eq_true rfl, Nat.le_of_ble_eq_true rfl⟩ rfl rfl (Nat.le_of_ble_eq_true rfl) rfl ?_
      cases hf
      exact z_lret B 29 rfl hQ hr
  · replace hf := (if_neg hc).symm.trans hf
    refine z_if_eq_f B 6 rfl 33 (by decide) hc ?_
    refine z_aload_n B 7 rfl 0 0 rfl rfl ?_
    refine z_getr 6 0 14 B 8 rfl ob_14 rfl (iX6_paid _ (List.mem_of_getElem? (i := 0) rfl)) rfl ?_
    obtain ⟨r5, ec, hf⟩ := bd_e hf
    refine z_callV 15 0 [] [] [] X B 9 rfl ob_15 rfl rfl miX0_clear ⟨(iX6_paid _ (List.mem_of_getElem? (i := 9) rfl)), (iX6_paid _ (List.mem_of_getElem? (i := 10) rfl)), (iX6_paid _ (List.mem_of_getElem? (i := 11) rfl))⟩ (ctX0_clear hj ob_15 ec) ⟨Nat.le_of_ble_eq_true rfl, Nat.le_of_ble_eq_true rfl⟩ rfl rfl (Nat.le_of_ble_eq_true rfl) rfl ?_
    refine z_aload_n B 10 rfl 0 0 rfl rfl ?_
    refine z_getr 6 0 14 B 11 rfl ob_14 rfl (iX6_paid _ (List.mem_of_getElem? (i := 0) rfl)) rfl ?_
    refine z_iload_n B 12 rfl 1 1 rfl rfl ?_
    obtain ⟨r6, ec, hf⟩ := bd_e hf
    refine z_callV 15 0 [.int a1] [] [.long r6] X B 13 rfl ob_15 rfl rfl miX0_paidTo ⟨(iX6_paid _ (List.mem_of_getElem? (i := 15) rfl)), (iX6_paid _ (List.mem_of_getElem? (i := 16) rfl)), (iX6_paid _ (List.mem_of_getElem? (i := 17) rfl))⟩ (ctX0_paidTo hj ob_15 ec) ⟨Nat.le_of_ble_eq_true rfl, Nat.le_of_ble_eq_true rfl⟩ rfl rfl (Nat.le_of_ble_eq_true rfl) rfl ?_
    cases hf
    exact z_lret B 14 rfl hQ hr
/-! ZoneCapacity.charged(I)J -/
def tbX6_charged : Tb := [(0, .aload_n 0, 1, 1), (1, .getfield 10, 3, 4), (4, .getfield 57, 3, 7), (7, .getfield 71, 3, 10), (10, .iload_n 1, 1, 11), (11, .invokevirtual 80, 3, 14), (14, .ifCond .ne 7, 3, 17), (17, .ldc2_w 234, 3, 20), (20, .lreturn, 1, 21), (21, .aload_n 0, 1, 22), (22, .getfield 10, 3, 25), (25, .invokevirtual 209, 3, 28), (28, .aload_n 0, 1, 29), (29, .getfield 10, 3, 32), (32, .getfield 212, 3, 35), (35, .iload_n 1, 1, 36), (36, .invokestatic 92, 3, 39), (39, .i2l, 1, 40), (40, .aload_n 0, 1, 41), (41, .getfield 10, 3, 44), (44, .getfield 218, 3, 47), (47, .iload_n 1, 1, 48), (48, .invokestatic 92, 3, 51), (51, .i2l, 1, 52), (52, .lmul, 1, 53), (53, .lreturn, 1, 54)]
theorem dtX6_charged : ∀ q ∈ tbX6_charged, decode cX6_charged q.1 = .ok (q.2.1, q.2.2.1) ∧ q.1 + q.2.2.1 = q.2.2.2 := by decide +kernel
theorem miX6_charged : MI yX6_charged cX6_charged 2 (some .long) 1 := ⟨tw_mem (List.mem_of_getElem? (i := 801) (by decide +kernel)) rfl, by decide, by decide +kernel, tw_mem (List.mem_of_getElem? (i := 71) (by decide +kernel)) rfl⟩
abbrev rmX6_charged : Room := { frames := 5, cells := 0, slots := 0, locals := 123 }
def wX6_charged : List Cond := [.fieldLink "ZoneCapacity" 10 "ZoneCapacity" "now" "LZoneCapacity$Auction;", .fieldLink "ZoneCapacity" 57 "ZoneCapacity$Auction" "market" "LZoneCapacity$Market;", .fieldLink "ZoneCapacity" 71 "ZoneCapacity$Market" "zones" "LZoneCapacity$Zones;", .methodLink "ZoneCapacity" 80 yX5_has, .instanceMethod yX5_has, .selects "ZoneCapacity$Zones" yX5_has yX5_has, .methodLink "ZoneCapacity" 209 yX0_clear, .instanceMethod yX0_clear, .selects "ZoneCapacity$Auction" yX0_clear yX0_clear, .fieldLink "ZoneCapacity" 212 "ZoneCapacity$Auction" "prices" "[I", .methodLink "ZoneCapacity" 92 yX6_at, .static yX6_at, .fieldLink "ZoneCapacity" 218 "ZoneCapacity$Auction" "servedUnits" "[I", .constantLong "ZoneCapacity" 234 (-1000000000000000)]
theorem iX6_charged : ∀ w ∈ wX6_charged, w ∈ TW := tw_of (ids := [317, 222, 211, 561, 562, 563, 709, 710, 711, 224, 570, 386, 228, 779]) (by decide +kernel)
def f6_charged (mm : Mem) (a1 : Int32) : Option (Int64 × Mem) := bd (f5_has mm 17 a1) (fun r1 => if r1 = 0 then some ((-1000000000000000 : Int64), mm) else bd (f0_clear mm 15) (fun r2 => bd (f6_at r2 35 a1) (fun r3 => bd (f6_at r2 37 a1) (fun r4 => some (r3.toInt64 * r4.toInt64, r2)))))
theorem ctX6_charged {l : Launch} {C : Cfg} (hj : Dj C) {mm : Mem} {a1 : Int32} {x : (Int64 × Mem)} (hf : f6_charged mm a1 = some x) : Ct l C yX6_charged cX6_charged 2 (some .long) 5 123 [.ref 14, .int a1] mm (some (.long x.1)) x.2 := by
  refine Ct.of (tb := tbX6_charged) hj miX6_charged.2.1 miX6_charged.1 dtX6_charged (Nat.le_of_ble_eq_true rfl) ?_
  intro E B hQ hr X
  unfold f6_charged at hf
  show G E 2 0 [(0, .ref 14), (1, .int a1)] [] mm
  refine z_aload_n B 0 rfl 0 0 rfl rfl ?_
  refine z_getr 6 0 14 B 1 rfl ob_14 rfl (iX6_charged _ (List.mem_of_getElem? (i := 0) rfl)) rfl ?_
  refine z_getr 0 0 15 B 2 rfl ob_15 rfl (iX6_charged _ (List.mem_of_getElem? (i := 1) rfl)) rfl ?_
  refine z_getr 1 0 16 B 3 rfl ob_16 rfl (iX6_charged _ (List.mem_of_getElem? (i := 2) rfl)) rfl ?_
  refine z_iload_n B 4 rfl 1 1 rfl rfl ?_
  obtain ⟨r1, ec, hf⟩ := bd_e hf
  refine z_callV 17 5 [.int a1] [] [.int r1] X B 5 rfl ob_17 rfl rfl miX5_has ⟨(iX6_charged _ (List.mem_of_getElem? (i := 3) rfl)), (iX6_charged _ (List.mem_of_getElem? (i := 4) rfl)), (iX6_charged _ (List.mem_of_getElem? (i := 5) rfl))⟩ (ctX5_has hj ob_17 ec) ⟨Nat.le_of_ble_eq_true rfl, Nat.le_of_ble_eq_true rfl⟩ rfl rfl (Nat.le_of_ble_eq_true rfl) rfl ?_
  by_cases hc : r1 = 0
  · replace hf := (if_pos hc).symm.trans hf
    refine z_if_ne_f B 6 rfl 21 (by decide) hc ?_
    refine z_ldc2 (-1000000000000000) B 7 rfl (iX6_charged _ (List.mem_of_getElem? (i := 13) rfl)) ?_
    cases hf
    exact z_lret B 8 rfl hQ hr
  · replace hf := (if_neg hc).symm.trans hf
    refine z_if_ne_t B 6 rfl 21 (by decide) hc ?_
    refine z_aload_n B 9 rfl 0 0 rfl rfl ?_
    refine z_getr 6 0 14 B 10 rfl ob_14 rfl (iX6_charged _ (List.mem_of_getElem? (i := 0) rfl)) rfl ?_
    obtain ⟨r2, ec, hf⟩ := bd_e hf
    refine z_callV 15 0 [] [] [] X B 11 rfl ob_15 rfl rfl miX0_clear ⟨(iX6_charged _ (List.mem_of_getElem? (i := 6) rfl)), (iX6_charged _ (List.mem_of_getElem? (i := 7) rfl)), (iX6_charged _ (List.mem_of_getElem? (i := 8) rfl))⟩ (ctX0_clear hj ob_15 ec) ⟨Nat.le_of_ble_eq_true rfl, Nat.le_of_ble_eq_true rfl⟩ rfl rfl (Nat.le_of_ble_eq_true rfl) rfl ?_
    refine z_aload_n B 12 rfl 0 0 rfl rfl ?_
    refine z_getr 6 0 14 B 13 rfl ob_14 rfl (iX6_charged _ (List.mem_of_getElem? (i := 0) rfl)) rfl ?_
    refine z_getr 0 1 15 B 14 rfl ob_15 rfl (iX6_charged _ (List.mem_of_getElem? (i := 9) rfl)) rfl ?_
    refine z_iload_n B 15 rfl 1 1 rfl rfl ?_
    obtain ⟨r3, ec, hf⟩ := bd_e hf
    refine z_callS [.ref 35, .int a1] [] [.int r3] X B 16 rfl miX6_at ⟨(iX6_charged _ (List.mem_of_getElem? (i := 10) rfl)), (iX6_charged _ (List.mem_of_getElem? (i := 11) rfl))⟩ (ctX6_at hj ob_35 ec) ⟨Nat.le_of_ble_eq_true rfl, Nat.le_of_ble_eq_true rfl⟩ rfl rfl (Nat.le_of_ble_eq_true rfl) rfl ?_
    refine z_i2l B 17 rfl ?_
    refine z_aload_n B 18 rfl 0 0 rfl rfl ?_
    refine z_getr 6 0 14 B 19 rfl ob_14 rfl (iX6_charged _ (List.mem_of_getElem? (i := 0) rfl)) rfl ?_
    refine z_getr 0 3 15 B 20 rfl ob_15 rfl (iX6_charged _ (List.mem_of_getElem? (i := 12) rfl)) rfl ?_
    refine z_iload_n B 21 rfl 1 1 rfl rfl ?_
    obtain ⟨r4, ec, hf⟩ := bd_e hf
    refine z_callS [.ref 37, .int a1] [.long r3.toInt64] [.int r4, .long r3.toInt64] X B 22 rfl miX6_at ⟨(iX6_charged _ (List.mem_of_getElem? (i := 10) rfl)), (iX6_charged _ (List.mem_of_getElem? (i := 11) rfl))⟩ (ctX6_at hj ob_37 ec) ⟨Nat.le_of_ble_eq_true rfl, Nat.le_of_ble_eq_true rfl⟩ rfl rfl (Nat.le_of_ble_eq_true rfl) rfl ?_
    refine z_i2l B 23 rfl ?_
    refine z_lmul B 24 rfl ?_
    cases hf
    exact z_lret B 25 rfl hQ hr
/-! ZoneCapacity.without(II)I -/
def tbX6_without : Tb := [(0, .aload_n 0, 1, 1), (1, .getfield 10, 3, 4), (4, .getfield 57, 3, 7), (7, .astore_n 3, 1, 8), (8, .aload_n 3, 1, 9), (9, .getfield 106, 3, 12), (12, .iload_n 1, 1, 13), (13, .invokevirtual 116, 3, 16), (16, .ifCond .eq 14, 3, 19), (19, .aload_n 3, 1, 20), (20, .getfield 71, 3, 23), (23, .iload_n 2, 1, 24), (24, .invokevirtual 80, 3, 27), (27, .ifCond .ne 5, 3, 30), (30, .iconst (-1), 1, 31), (31, .ireturn, 1, 32), (32, .aload_n 0, 1, 33), (33, .getfield 16, 3, 36), (36, .getfield 57, 3, 39), (39, .aload_n 3, 1, 40), (40, .invokevirtual 60, 3, 43), (43, .aload_n 0, 1, 44), (44, .getfield 16, 3, 47), (47, .getfield 57, 3, 50), (50, .getfield 106, 3, 53), (53, .iload_n 1, 1, 54), (54, .invokevirtual 246, 3, 57), (57, .aload_n 0, 1, 58), (58, .getfield 16, 3, 61), (61, .invokevirtual 209, 3, 64), (64, .aload_n 0, 1, 65), (65, .getfield 16, 3, 68), (68, .getfield 212, 3, 71), (71, .iload_n 2, 1, 72), (72, .invokestatic 92, 3, 75), (75, .ireturn, 1, 76)]
theorem dtX6_without : ∀ q ∈ tbX6_without, decode cX6_without q.1 = .ok (q.2.1, q.2.2.1) ∧ q.1 + q.2.2.1 = q.2.2.2 := by decide +kernel
theorem miX6_without : MI yX6_without cX6_without 4 (some .int) 2 := ⟨tw_mem (List.mem_of_getElem? (i := 805) (by decide +kernel)) rfl, by decide, by decide +kernel, tw_mem (List.mem_of_getElem? (i := 71) (by decide +kernel)) rfl⟩
abbrev rmX6_without : Room := { frames := 5, cells := 0, slots := 0, locals := 123 }
def wX6_without : List Cond := [.fieldLink "ZoneCapacity" 10 "ZoneCapacity" "now" "LZoneCapacity$Auction;", .fieldLink "ZoneCapacity" 57 "ZoneCapacity$Auction" "market" "LZoneCapacity$Market;", .fieldLink "ZoneCapacity" 106 "ZoneCapacity$Market" "offers" "LZoneCapacity$Offers;", .methodLink "ZoneCapacity" 116 yX2_has, .instanceMethod yX2_has, .selects "ZoneCapacity$Offers" yX2_has yX2_has, .fieldLink "ZoneCapacity" 71 "ZoneCapacity$Market" "zones" "LZoneCapacity$Zones;", .methodLink "ZoneCapacity" 80 yX5_has, .instanceMethod yX5_has, .selects "ZoneCapacity$Zones" yX5_has yX5_has, .fieldLink "ZoneCapacity" 16 "ZoneCapacity" "trial" "LZoneCapacity$Auction;", .methodLink "ZoneCapacity" 60 yX1_copyFrom, .instanceMethod yX1_copyFrom, .selects "ZoneCapacity$Market" yX1_copyFrom yX1_copyFrom, .methodLink "ZoneCapacity" 246 yX2_silence, .instanceMethod yX2_silence, .selects "ZoneCapacity$Offers" yX2_silence yX2_silence, .methodLink "ZoneCapacity" 209 yX0_clear, .instanceMethod yX0_clear, .selects "ZoneCapacity$Auction" yX0_clear yX0_clear, .fieldLink "ZoneCapacity" 212 "ZoneCapacity$Auction" "prices" "[I", .methodLink "ZoneCapacity" 92 yX6_at, .static yX6_at]
theorem iX6_without : ∀ w ∈ wX6_without, w ∈ TW := tw_of (ids := [317, 222, 215, 583, 584, 585, 211, 561, 562, 563, 318, 361, 362, 363, 806, 807, 808, 709, 710, 711, 224, 570, 386]) (by decide +kernel)
def f6_without (mm : Mem) (a1 : Int32) (a2 : Int32) : Option (Int32 × Mem) := bd (f2_has mm 24 a1) (fun r1 => if r1 = 0 then some ((-1 : Int32), mm) else bd (f5_has mm 17 a2) (fun r2 => if r2 = 0 then some ((-1 : Int32), mm) else bd (f1_copyFrom mm 45 16) (fun r3 => bd (f2_silence r3 53 a1) (fun r4 => bd (f0_clear r4 44) (fun r5 => bd (f6_at r5 64 a2) (fun r6 => some (r6, r5)))))))
theorem ctX6_without {l : Launch} {C : Cfg} (hj : Dj C) {mm : Mem} {a1 : Int32} {a2 : Int32} {x : (Int32 × Mem)} (hf : f6_without mm a1 a2 = some x) : Ct l C yX6_without cX6_without 4 (some .int) 5 123 [.ref 14, .int a1, .int a2] mm (some (.int x.1)) x.2 := by
  refine Ct.of (tb := tbX6_without) hj miX6_without.2.1 miX6_without.1 dtX6_without (Nat.le_of_ble_eq_true rfl) ?_
  intro E B hQ hr X
  unfold f6_without at hf
  show G E 4 0 [(0, .ref 14), (1, .int a1), (2, .int a2)] [] mm
  refine z_aload_n B 0 rfl 0 0 rfl rfl ?_
  refine z_getr 6 0 14 B 1 rfl ob_14 rfl (iX6_without _ (List.mem_of_getElem? (i := 0) rfl)) rfl ?_
  refine z_getr 0 0 15 B 2 rfl ob_15 rfl (iX6_without _ (List.mem_of_getElem? (i := 1) rfl)) rfl ?_
  refine z_astore_n [(3, .ref 16), (0, .ref 14), (1, .int a1), (2, .int a2)] B 3 rfl 3 rfl (by decide) rfl ?_
  refine z_aload_n B 4 rfl 3 0 rfl rfl ?_
  refine z_getr 1 1 16 B 5 rfl ob_16 rfl (iX6_without _ (List.mem_of_getElem? (i := 2) rfl)) rfl ?_
  refine z_iload_n B 6 rfl 1 2 rfl rfl ?_
  obtain ⟨r1, ec, hf⟩ := bd_e hf
  refine z_callV 24 2 [.int a1] [] [.int r1] X B 7 rfl ob_24 rfl rfl miX2_has ⟨(iX6_without _ (List.mem_of_getElem? (i := 3) rfl)), (iX6_without _ (List.mem_of_getElem? (i := 4) rfl)), (iX6_without _ (List.mem_of_getElem? (i := 5) rfl))⟩ (ctX2_has hj ob_24 ec) ⟨Nat.le_of_ble_eq_true rfl, Nat.le_of_ble_eq_true rfl⟩ rfl rfl (Nat.le_of_ble_eq_true rfl) rfl ?_
  by_cases hc : r1 = 0
  · replace hf := (if_pos hc).symm.trans hf
    refine z_if_eq_t B 8 rfl 30 (by decide) hc ?_
    refine z_iconst (-1) B 14 rfl (by decide) ?_
    cases hf
    exact z_iret B 15 rfl rfl hQ hr
  · replace hf := (if_neg hc).symm.trans hf
    refine z_if_eq_f B 8 rfl 30 (by decide) hc ?_
    refine z_aload_n B 9 rfl 3 0 rfl rfl ?_
    refine z_getr 1 0 16 B 10 rfl ob_16 rfl (iX6_without _ (List.mem_of_getElem? (i := 6) rfl)) rfl ?_
    refine z_iload_n B 11 rfl 2 3 rfl rfl ?_
    obtain ⟨r2, ec, hf⟩ := bd_e hf
    refine z_callV 17 5 [.int a2] [] [.int r2] X B 12 rfl ob_17 rfl rfl miX5_has ⟨(iX6_without _ (List.mem_of_getElem? (i := 7) rfl)), (iX6_without _ (List.mem_of_getElem? (i := 8) rfl)), (iX6_without _ (List.mem_of_getElem? (i := 9) rfl))⟩ (ctX5_has hj ob_17 ec) ⟨Nat.le_of_ble_eq_true rfl, Nat.le_of_ble_eq_true rfl⟩ rfl rfl (Nat.le_of_ble_eq_true rfl) rfl ?_
    by_cases hc : r2 = 0
    · replace hf := (if_pos hc).symm.trans hf
      refine z_if_ne_f B 13 rfl 32 (by decide) hc ?_
      refine z_iconst (-1) B 14 rfl (by decide) ?_
      cases hf
      exact z_iret B 15 rfl rfl hQ hr
    · replace hf := (if_neg hc).symm.trans hf
      refine z_if_ne_t B 13 rfl 32 (by decide) hc ?_
      refine z_aload_n B 16 rfl 0 1 rfl rfl ?_
      refine z_getr 6 1 14 B 17 rfl ob_14 rfl (iX6_without _ (List.mem_of_getElem? (i := 10) rfl)) rfl ?_
      refine z_getr 0 0 44 B 18 rfl ob_44 rfl (iX6_without _ (List.mem_of_getElem? (i := 1) rfl)) rfl ?_
      refine z_aload_n B 19 rfl 3 0 rfl rfl ?_
      obtain ⟨r3, ec, hf⟩ := bd_e hf
      refine z_callV 45 1 [.ref 16] [] [] X B 20 rfl ob_45 rfl rfl miX1_copyFrom ⟨(iX6_without _ (List.mem_of_getElem? (i := 11) rfl)), (iX6_without _ (List.mem_of_getElem? (i := 12) rfl)), (iX6_without _ (List.mem_of_getElem? (i := 13) rfl))⟩ (ctX1_copyFrom hj ob_45 ob_16 ec) ⟨Nat.le_of_ble_eq_true rfl, Nat.le_of_ble_eq_true rfl⟩ rfl rfl (Nat.le_of_ble_eq_true rfl) rfl ?_
      refine z_aload_n B 21 rfl 0 1 rfl rfl ?_
      refine z_getr 6 1 14 B 22 rfl ob_14 rfl (iX6_without _ (List.mem_of_getElem? (i := 10) rfl)) rfl ?_
      refine z_getr 0 0 44 B 23 rfl ob_44 rfl (iX6_without _ (List.mem_of_getElem? (i := 1) rfl)) rfl ?_
      refine z_getr 1 1 45 B 24 rfl ob_45 rfl (iX6_without _ (List.mem_of_getElem? (i := 2) rfl)) rfl ?_
      refine z_iload_n B 25 rfl 1 2 rfl rfl ?_
      obtain ⟨r4, ec, hf⟩ := bd_e hf
      refine z_callV 53 2 [.int a1] [] [] X B 26 rfl ob_53 rfl rfl miX2_silence ⟨(iX6_without _ (List.mem_of_getElem? (i := 14) rfl)), (iX6_without _ (List.mem_of_getElem? (i := 15) rfl)), (iX6_without _ (List.mem_of_getElem? (i := 16) rfl))⟩ (ctX2_silence hj ob_53 ec) ⟨Nat.le_of_ble_eq_true rfl, Nat.le_of_ble_eq_true rfl⟩ rfl rfl (Nat.le_of_ble_eq_true rfl) rfl ?_
      refine z_aload_n B 27 rfl 0 1 rfl rfl ?_
      refine z_getr 6 1 14 B 28 rfl ob_14 rfl (iX6_without _ (List.mem_of_getElem? (i := 10) rfl)) rfl ?_
      obtain ⟨r5, ec, hf⟩ := bd_e hf
      refine z_callV 44 0 [] [] [] X B 29 rfl ob_44 rfl rfl miX0_clear ⟨(iX6_without _ (List.mem_of_getElem? (i := 17) rfl)), (iX6_without _ (List.mem_of_getElem? (i := 18) rfl)), (iX6_without _ (List.mem_of_getElem? (i := 19) rfl))⟩ (ctX0_clear hj ob_44 ec) ⟨Nat.le_of_ble_eq_true rfl, Nat.le_of_ble_eq_true rfl⟩ rfl rfl (Nat.le_of_ble_eq_true rfl) rfl ?_
      refine z_aload_n B 30 rfl 0 1 rfl rfl ?_
      refine z_getr 6 1 14 B 31 rfl ob_14 rfl (iX6_without _ (List.mem_of_getElem? (i := 10) rfl)) rfl ?_
      refine z_getr 0 1 44 B 32 rfl ob_44 rfl (iX6_without _ (List.mem_of_getElem? (i := 20) rfl)) rfl ?_
      refine z_iload_n B 33 rfl 2 3 rfl rfl ?_
      obtain ⟨r6, ec, hf⟩ := bd_e hf
      refine z_callS [.ref 64, .int a2] [] [.int r6] X B 34 rfl miX6_at ⟨(iX6_without _ (List.mem_of_getElem? (i := 21) rfl)), (iX6_without _ (List.mem_of_getElem? (i := 22) rfl))⟩ (ctX6_at hj ob_64 ec) ⟨Nat.le_of_ble_eq_true rfl, Nat.le_of_ble_eq_true rfl⟩ rfl rfl (Nat.le_of_ble_eq_true rfl) rfl ?_
      cases hf
      exact z_iret B 35 rfl rfl hQ hr
/-! ZoneCapacity.pivotal(II)I -/
def tbX6_pivotal : Tb := [(0, .aload_n 0, 1, 1), (1, .getfield 10, 3, 4), (4, .getfield 57, 3, 7), (7, .astore_n 3, 1, 8), (8, .iload_n 1, 1, 9), (9, .iconst 0, 1, 10), (10, .iconst 5, 1, 11), (11, .invokestatic 50, 3, 14), (14, .ifCond .eq 14, 3, 17), (17, .aload_n 3, 1, 18), (18, .getfield 71, 3, 21), (21, .iload_n 2, 1, 22), (22, .invokevirtual 80, 3, 25), (25, .ifCond .ne 5, 3, 28), (28, .iconst (-1), 1, 29), (29, .ireturn, 1, 30), (30, .aload_n 0, 1, 31), (31, .getfield 10, 3, 34), (34, .invokevirtual 209, 3, 37), (37, .aload_n 0, 1, 38), (38, .getfield 16, 3, 41), (41, .getfield 57, 3, 44), (44, .aload_n 3, 1, 45), (45, .invokevirtual 60, 3, 48), (48, .aload_n 0, 1, 49), (49, .getfield 16, 3, 52), (52, .getfield 57, 3, 55), (55, .getfield 106, 3, 58), (58, .iload_n 1, 1, 59), (59, .invokevirtual 249, 3, 62), (62, .aload_n 0, 1, 63), (63, .getfield 16, 3, 66), (66, .invokevirtual 209, 3, 69), (69, .aload_n 3, 1, 70), (70, .getfield 106, 3, 73), (73, .getfield 162, 3, 76), (76, .istore 4, 2, 78), (78, .aload_n 0, 1, 79), (79, .getfield 10, 3, 82), (82, .getfield 212, 3, 85), (85, .iload_n 2, 1, 86), (86, .invokestatic 92, 3, 89), (89, .iload 4, 2, 91), (91, .if_icmp .gt 23, 3, 94), (94, .aload_n 0, 1, 95), (95, .getfield 16, 3, 98), (98, .getfield 212, 3, 101), (101, .iload_n 2, 1, 102), (102, .invokestatic 92, 3, 105), (105, .iload 4, 2, 107), (107, .if_icmp .le 7, 3, 110), (110, .iconst 1, 1, 111), (111, .goto 4, 3, 114), (114, .iconst 0, 1, 115), (115, .ireturn, 1, 116)]
theorem dtX6_pivotal : ∀ q ∈ tbX6_pivotal, decode cX6_pivotal q.1 = .ok (q.2.1, q.2.2.1) ∧ q.1 + q.2.2.1 = q.2.2.2 := by decide +kernel
theorem miX6_pivotal : MI yX6_pivotal cX6_pivotal 5 (some .int) 2 := ⟨tw_mem (List.mem_of_getElem? (i := 813) (by decide +kernel)) rfl, by decide, by decide +kernel, tw_mem (List.mem_of_getElem? (i := 71) (by decide +kernel)) rfl⟩
abbrev rmX6_pivotal : Room := { frames := 5, cells := 0, slots := 0, locals := 123 }
def wX6_pivotal : List Cond := [.fieldLink "ZoneCapacity" 10 "ZoneCapacity" "now" "LZoneCapacity$Auction;", .fieldLink "ZoneCapacity" 57 "ZoneCapacity$Auction" "market" "LZoneCapacity$Market;", .methodLink "ZoneCapacity" 50 yX6_within, .static yX6_within, .fieldLink "ZoneCapacity" 71 "ZoneCapacity$Market" "zones" "LZoneCapacity$Zones;", .methodLink "ZoneCapacity" 80 yX5_has, .instanceMethod yX5_has, .selects "ZoneCapacity$Zones" yX5_has yX5_has, .methodLink "ZoneCapacity" 209 yX0_clear, .instanceMethod yX0_clear, .selects "ZoneCapacity$Auction" yX0_clear yX0_clear, .fieldLink "ZoneCapacity" 16 "ZoneCapacity" "trial" "LZoneCapacity$Auction;", .methodLink "ZoneCapacity" 60 yX1_copyFrom, .instanceMethod yX1_copyFrom, .selects "ZoneCapacity$Market" yX1_copyFrom yX1_copyFrom, .fieldLink "ZoneCapacity" 106 "ZoneCapacity$Market" "offers" "LZoneCapacity$Offers;", .methodLink "ZoneCapacity" 249 yX2_silenceOwner, .instanceMethod yX2_silenceOwner, .selects "ZoneCapacity$Offers" yX2_silenceOwner yX2_silenceOwner, .fieldLink "ZoneCapacity" 162 "ZoneCapacity$Offers" "ceiling" "I", .fieldLink "ZoneCapacity" 212 "ZoneCapacity$Auction" "prices" "[I", .methodLink "ZoneCapacity" 92 yX6_at, .static yX6_at]
theorem iX6_pivotal : ∀ w ∈ wX6_pivotal, w ∈ TW := tw_of (ids := [317, 222, 354, 355, 211, 561, 562, 563, 709, 710, 711, 318, 361, 362, 363, 215, 814, 815, 816, 161, 224, 570, 386]) (by decide +kernel)
def f6_pivotal (mm : Mem) (a1 : Int32) (a2 : Int32) : Option (Int32 × Mem) := bd (f6_within mm a1 (0 : Int32) (5 : Int32)) (fun r1 => if r1 = 0 then some ((-1 : Int32), mm) else bd (f5_has mm 17 a2) (fun r2 => if r2 = 0 then some ((-1 : Int32), mm) else bd (f0_clear mm 15) (fun r3 => bd (f1_copyFrom r3 45 16) (fun r4 => bd (f2_silenceOwner r4 53 a1) (fun r5 => bd (f0_clear r5 44) (fun r6 => nm (r6 24 1) (fun v7 => bd (f6_at r6 35 a2) (fun r8 => if v7 < r8 then some ((0 : Int32), r6) else bd (f6_at r6 64 a2) (fun r9 => if v7 < r9 then some ((1 : Int32), r6) else some ((0 : Int32), r6))))))))))
theorem ctX6_pivotal {l : Launch} {C : Cfg} (hj : Dj C) {mm : Mem} {a1 : Int32} {a2 : Int32} {x : (Int32 × Mem)} (hf : f6_pivotal mm a1 a2 = some x) : Ct l C yX6_pivotal cX6_pivotal 5 (some .int) 5 123 [.ref 14, .int a1, .int a2] mm (some (.int x.1)) x.2 := by
  refine Ct.of (tb := tbX6_pivotal) hj miX6_pivotal.2.1 miX6_pivotal.1 dtX6_pivotal (Nat.le_of_ble_eq_true rfl) ?_
  intro E B hQ hr X
  unfold f6_pivotal at hf
  show G E 5 0 [(0, .ref 14), (1, .int a1), (2, .int a2)] [] mm
  refine z_aload_n B 0 rfl 0 0 rfl rfl ?_
  refine z_getr 6 0 14 B 1 rfl ob_14 rfl (iX6_pivotal _ (List.mem_of_getElem? (i := 0) rfl)) rfl ?_
  refine z_getr 0 0 15 B 2 rfl ob_15 rfl (iX6_pivotal _ (List.mem_of_getElem? (i := 1) rfl)) rfl ?_
  refine z_astore_n [(3, .ref 16), (0, .ref 14), (1, .int a1), (2, .int a2)] B 3 rfl 3 rfl (by decide) rfl ?_
  refine z_iload_n B 4 rfl 1 2 rfl rfl ?_
  refine z_iconst 0 B 5 rfl (by decide) ?_
  refine z_iconst 5 B 6 rfl (by decide) ?_
  obtain ⟨r1, ec, hf⟩ := bd_e hf
  refine z_callS [.int a1, .int (0 : Int32), .int (5 : Int32)] [] [.int r1] X B 7 rfl miX6_within ⟨(iX6_pivotal _ (List.mem_of_getElem? (i := 2) rfl)), (iX6_pivotal _ (List.mem_of_getElem? (i := 3) rfl))⟩ (ctX6_within hj ec) ⟨Nat.le_of_ble_eq_true rfl, Nat.le_of_ble_eq_true rfl⟩ rfl rfl (Nat.le_of_ble_eq_true rfl) rfl ?_
  by_cases hc : r1 = 0
  · replace hf := (if_pos hc).symm.trans hf
    refine z_if_eq_t B 8 rfl 28 (by decide) hc ?_
    refine z_iconst (-1) B 14 rfl (by decide) ?_
    cases hf
    exact z_iret B 15 rfl rfl hQ hr
  · replace hf := (if_neg hc).symm.trans hf
    refine z_if_eq_f B 8 rfl 28 (by decide) hc ?_
    refine z_aload_n B 9 rfl 3 0 rfl rfl ?_
    refine z_getr 1 0 16 B 10 rfl ob_16 rfl (iX6_pivotal _ (List.mem_of_getElem? (i := 4) rfl)) rfl ?_
    refine z_iload_n B 11 rfl 2 3 rfl rfl ?_
    obtain ⟨r2, ec, hf⟩ := bd_e hf
    refine z_callV 17 5 [.int a2] [] [.int r2] X B 12 rfl ob_17 rfl rfl miX5_has ⟨(iX6_pivotal _ (List.mem_of_getElem? (i := 5) rfl)), (iX6_pivotal _ (List.mem_of_getElem? (i := 6) rfl)), (iX6_pivotal _ (List.mem_of_getElem? (i := 7) rfl))⟩ (ctX5_has hj ob_17 ec) ⟨Nat.le_of_ble_eq_true rfl, Nat.le_of_ble_eq_true rfl⟩ rfl rfl (Nat.le_of_ble_eq_true rfl) rfl ?_
    by_cases hc : r2 = 0
    · replace hf := (if_pos hc).symm.trans hf
      refine z_if_ne_f B 13 rfl 30 (by decide) hc ?_
      refine z_iconst (-1) B 14 rfl (by decide) ?_
      cases hf
      exact z_iret B 15 rfl rfl hQ hr
    · replace hf := (if_neg hc).symm.trans hf
      refine z_if_ne_t B 13 rfl 30 (by decide) hc ?_
      refine z_aload_n B 16 rfl 0 1 rfl rfl ?_
      refine z_getr 6 0 14 B 17 rfl ob_14 rfl (iX6_pivotal _ (List.mem_of_getElem? (i := 0) rfl)) rfl ?_
      obtain ⟨r3, ec, hf⟩ := bd_e hf
      refine z_callV 15 0 [] [] [] X B 18 rfl ob_15 rfl rfl miX0_clear ⟨(iX6_pivotal _ (List.mem_of_getElem? (i := 8) rfl)), (iX6_pivotal _ (List.mem_of_getElem? (i := 9) rfl)), (iX6_pivotal _ (List.mem_of_getElem? (i := 10) rfl))⟩ (ctX0_clear hj ob_15 ec) ⟨Nat.le_of_ble_eq_true rfl, Nat.le_of_ble_eq_true rfl⟩ rfl rfl (Nat.le_of_ble_eq_true rfl) rfl ?_
      refine z_aload_n B 19 rfl 0 1 rfl rfl ?_
      refine z_getr 6 1 14 B 20 rfl ob_14 rfl (iX6_pivotal _ (List.mem_of_getElem? (i := 11) rfl)) rfl ?_
      refine z_getr 0 0 44 B 21 rfl ob_44 rfl (iX6_pivotal _ (List.mem_of_getElem? (i := 1) rfl)) rfl ?_
      refine z_aload_n B 22 rfl 3 0 rfl rfl ?_
      obtain ⟨r4, ec, hf⟩ := bd_e hf
      refine z_callV 45 1 [.ref 16] [] [] X B 23 rfl ob_45 rfl rfl miX1_copyFrom ⟨(iX6_pivotal _ (List.mem_of_getElem? (i := 12) rfl)), (iX6_pivotal _ (List.mem_of_getElem? (i := 13) rfl)), (iX6_pivotal _ (List.mem_of_getElem? (i := 14) rfl))⟩ (ctX1_copyFrom hj ob_45 ob_16 ec) ⟨Nat.le_of_ble_eq_true rfl, Nat.le_of_ble_eq_true rfl⟩ rfl rfl (Nat.le_of_ble_eq_true rfl) rfl ?_
      refine z_aload_n B 24 rfl 0 1 rfl rfl ?_
      refine z_getr 6 1 14 B 25 rfl ob_14 rfl (iX6_pivotal _ (List.mem_of_getElem? (i := 11) rfl)) rfl ?_
      refine z_getr 0 0 44 B 26 rfl ob_44 rfl (iX6_pivotal _ (List.mem_of_getElem? (i := 1) rfl)) rfl ?_
      refine z_getr 1 1 45 B 27 rfl ob_45 rfl (iX6_pivotal _ (List.mem_of_getElem? (i := 15) rfl)) rfl ?_
      refine z_iload_n B 28 rfl 1 2 rfl rfl ?_
      obtain ⟨r5, ec, hf⟩ := bd_e hf
      refine z_callV 53 2 [.int a1] [] [] X B 29 rfl ob_53 rfl rfl miX2_silenceOwner ⟨(iX6_pivotal _ (List.mem_of_getElem? (i := 16) rfl)), (iX6_pivotal _ (List.mem_of_getElem? (i := 17) rfl)), (iX6_pivotal _ (List.mem_of_getElem? (i := 18) rfl))⟩ (ctX2_silenceOwner hj ob_53 ec) ⟨Nat.le_of_ble_eq_true rfl, Nat.le_of_ble_eq_true rfl⟩ rfl rfl (Nat.le_of_ble_eq_true rfl) rfl ?_
      refine z_aload_n B 30 rfl 0 1 rfl rfl ?_
      refine z_getr 6 1 14 B 31 rfl ob_14 rfl (iX6_pivotal _ (List.mem_of_getElem? (i := 11) rfl)) rfl ?_
      obtain ⟨r6, ec, hf⟩ := bd_e hf
      refine z_callV 44 0 [] [] [] X B 32 rfl ob_44 rfl rfl miX0_clear ⟨(iX6_pivotal _ (List.mem_of_getElem? (i := 8) rfl)), (iX6_pivotal _ (List.mem_of_getElem? (i := 9) rfl)), (iX6_pivotal _ (List.mem_of_getElem? (i := 10) rfl))⟩ (ctX0_clear hj ob_44 ec) ⟨Nat.le_of_ble_eq_true rfl, Nat.le_of_ble_eq_true rfl⟩ rfl rfl (Nat.le_of_ble_eq_true rfl) rfl ?_
      refine z_aload_n B 33 rfl 3 0 rfl rfl ?_
      refine z_getr 1 1 16 B 34 rfl ob_16 rfl (iX6_pivotal _ (List.mem_of_getElem? (i := 15) rfl)) rfl ?_
      refine z_geti 2 1 24 B 35 rfl ob_24 rfl (iX6_pivotal _ (List.mem_of_getElem? (i := 19) rfl)) rfl ?_
      obtain ⟨v7, ex, hf⟩ := nm_x hf
      refine z_top ex ?_
      refine z_istore [(4, .int v7), (3, .ref 16), (0, .ref 14), (1, .int a1), (2, .int a2)] B 36 rfl (by decide) rfl ?_
      refine z_aload_n B 37 rfl 0 2 rfl rfl ?_
      refine z_getr 6 0 14 B 38 rfl ob_14 rfl (iX6_pivotal _ (List.mem_of_getElem? (i := 0) rfl)) rfl ?_
      refine z_getr 0 1 15 B 39 rfl ob_15 rfl (iX6_pivotal _ (List.mem_of_getElem? (i := 20) rfl)) rfl ?_
      refine z_iload_n B 40 rfl 2 4 rfl rfl ?_
      obtain ⟨r8, ec, hf⟩ := bd_e hf
      refine z_callS [.ref 35, .int a2] [] [.int r8] X B 41 rfl miX6_at ⟨(iX6_pivotal _ (List.mem_of_getElem? (i := 21) rfl)), (iX6_pivotal _ (List.mem_of_getElem? (i := 22) rfl))⟩ (ctX6_at hj ob_35 ec) ⟨Nat.le_of_ble_eq_true rfl, Nat.le_of_ble_eq_true rfl⟩ rfl rfl (Nat.le_of_ble_eq_true rfl) rfl ?_
      refine z_iload B 42 rfl 0 rfl ?_
      by_cases hc : v7 < r8
      · replace hf := (if_pos hc).symm.trans hf
        refine z_icmp_gt_t B 43 rfl 114 (by decide) hc ?_
        refine z_iconst 0 B 53 rfl (by decide) ?_
        cases hf
        exact z_iret B 54 rfl rfl hQ hr
      · replace hf := (if_neg hc).symm.trans hf
        refine z_icmp_gt_f B 43 rfl 114 (by decide) hc ?_
        refine z_aload_n B 44 rfl 0 2 rfl rfl ?_
        refine z_getr 6 1 14 B 45 rfl ob_14 rfl (iX6_pivotal _ (List.mem_of_getElem? (i := 11) rfl)) rfl ?_
        refine z_getr 0 1 44 B 46 rfl ob_44 rfl (iX6_pivotal _ (List.mem_of_getElem? (i := 20) rfl)) rfl ?_
        refine z_iload_n B 47 rfl 2 4 rfl rfl ?_
        obtain ⟨r9, ec, hf⟩ := bd_e hf
        refine z_callS [.ref 64, .int a2] [] [.int r9] X B 48 rfl miX6_at ⟨(iX6_pivotal _ (List.mem_of_getElem? (i := 21) rfl)), (iX6_pivotal _ (List.mem_of_getElem? (i := 22) rfl))⟩ (ctX6_at hj ob_64 ec) ⟨Nat.le_of_ble_eq_true rfl, Nat.le_of_ble_eq_true rfl⟩ rfl rfl (Nat.le_of_ble_eq_true rfl) rfl ?_
        refine z_iload B 49 rfl 0 rfl ?_
        by_cases hc : v7 < r9
        · replace hf := (if_pos hc).symm.trans hf
          refine z_icmp_le_f B 50 rfl 114 (by decide) hc ?_
          refine z_iconst 1 B 51 rfl (by decide) ?_
          refine z_goto B 52 rfl 115 (by decide) ?_
          cases hf
          exact z_iret B 54 rfl rfl hQ hr
        · replace hf := (if_neg hc).symm.trans hf
          refine z_icmp_le_t B 50 rfl 114 (by decide) hc ?_
          refine z_iconst 0 B 53 rfl (by decide) ?_
          cases hf
          exact z_iret B 54 rfl rfl hQ hr
/-! ZoneCapacity.wider(IIZ)J -/
def tbX6_wider : Tb := [(0, .aload_n 0, 1, 1), (1, .getfield 10, 3, 4), (4, .getfield 57, 3, 7), (7, .astore 4, 2, 9), (9, .aload 4, 2, 11), (11, .getfield 71, 3, 14), (14, .iload_n 1, 1, 15), (15, .invokevirtual 143, 3, 18), (18, .ifCond .eq 14, 3, 21), (21, .iload_n 2, 1, 22), (22, .iconst 1, 1, 23), (23, .sipush 9999, 3, 26), (26, .invokestatic 50, 3, 29), (29, .ifCond .ne 7, 3, 32), (32, .ldc2_w 234, 3, 35), (35, .lreturn, 1, 36), (36, .aload_n 0, 1, 37), (37, .getfield 10, 3, 40), (40, .invokevirtual 209, 3, 43), (43, .aload_n 0, 1, 44), (44, .getfield 16, 3, 47), (47, .getfield 57, 3, 50), (50, .aload 4, 2, 52), (52, .invokevirtual 60, 3, 55), (55, .iload_n 3, 1, 56), (56, .ifCond .eq 19, 3, 59), (59, .aload_n 0, 1, 60), (60, .getfield 16, 3, 63), (63, .getfield 57, 3, 66), (66, .getfield 71, 3, 69), (69, .getfield 149, 3, 72), (72, .goto 16, 3, 75), (75, .aload_n 0, 1, 76), (76, .getfield 16, 3, 79), (79, .getfield 57, 3, 82), (82, .getfield 71, 3, 85), (85, .getfield 146, 3, 88), (88, .astore 5, 2, 90), (90, .aload 5, 2, 92), (92, .iload_n 1, 1, 93), (93, .sipush 9999, 3, 96), (96, .aload 5, 2, 98), (98, .iload_n 1, 1, 99), (99, .invokestatic 92, 3, 102), (102, .iload_n 2, 1, 103), (103, .iadd, 1, 104), (104, .invokestatic 252, 3, 107), (107, .invokestatic 257, 3, 110), (110, .aload_n 0, 1, 111), (111, .getfield 16, 3, 114), (114, .invokevirtual 209, 3, 117), (117, .aload_n 0, 1, 118), (118, .getfield 16, 3, 121), (121, .invokevirtual 230, 3, 124), (124, .aload_n 0, 1, 125), (125, .getfield 10, 3, 128), (128, .invokevirtual 230, 3, 131), (131, .lsub, 1, 132), (132, .lreturn, 1, 133)]
theorem dtX6_wider : ∀ q ∈ tbX6_wider, decode cX6_wider q.1 = .ok (q.2.1, q.2.2.1) ∧ q.1 + q.2.2.1 = q.2.2.2 := by decide +kernel
theorem miX6_wider : MI yX6_wider cX6_wider 6 (some .long) 3 := ⟨tw_mem (List.mem_of_getElem? (i := 822) (by decide +kernel)) rfl, by decide, by decide +kernel, tw_mem (List.mem_of_getElem? (i := 71) (by decide +kernel)) rfl⟩
abbrev rmX6_wider : Room := { frames := 5, cells := 0, slots := 0, locals := 123 }
def wX6_wider : List Cond := [.fieldLink "ZoneCapacity" 10 "ZoneCapacity" "now" "LZoneCapacity$Auction;", .fieldLink "ZoneCapacity" 57 "ZoneCapacity$Auction" "market" "LZoneCapacity$Market;", .fieldLink "ZoneCapacity" 71 "ZoneCapacity$Market" "zones" "LZoneCapacity$Zones;", .methodLink "ZoneCapacity" 143 yX5_hasInner, .instanceMethod yX5_hasInner, .selects "ZoneCapacity$Zones" yX5_hasInner yX5_hasInner, .constantLong "ZoneCapacity" 234 (-1000000000000000), .methodLink "ZoneCapacity" 50 yX6_within, .static yX6_within, .methodLink "ZoneCapacity" 209 yX0_clear, .instanceMethod yX0_clear, .selects "ZoneCapacity$Auction" yX0_clear yX0_clear, .fieldLink "ZoneCapacity" 16 "ZoneCapacity" "trial" "LZoneCapacity$Auction;", .methodLink "ZoneCapacity" 60 yX1_copyFrom, .instanceMethod yX1_copyFrom, .selects "ZoneCapacity$Market" yX1_copyFrom yX1_copyFrom, .fieldLink "ZoneCapacity" 146 "ZoneCapacity$Zones" "in" "[I", .methodLink "ZoneCapacity" 92 yX6_at, .static yX6_at, .methodLink "ZoneCapacity" 252 ⟨"java/lang/Math", "min", "(II)I"⟩, .static ⟨"java/lang/Math", "min", "(II)I"⟩, .initialized "java/lang/Math", .code Lib.Math.min.name Lib.Math.min.code 2 (some .int), .methodLink "ZoneCapacity" 257 yX6_put, .static yX6_put, .methodLink "ZoneCapacity" 230 yX0_surplusOfAll, .instanceMethod yX0_surplusOfAll, .selects "ZoneCapacity$Auction" yX0_surplusOfAll yX0_surplusOfAll, .fieldLink "ZoneCapacity" 149 "ZoneCapacity$Zones" "out" "[I"]
theorem iX6_wider : ∀ w ∈ wX6_wider, w ∈ TW := tw_of (ids := [317, 222, 211, 608, 609, 610, 779, 354, 355, 709, 710, 711, 318, 361, 362, 363, 123, 570, 386, 823, 648, 87, 649, 603, 348, 767, 768, 769, 127]) (by decide +kernel)
def f6_wider_j88 (x1 : Int32) (x2 : Int32) (s0 : Nat) (mm : Mem) : Option (Int64 × Mem) := bd (f6_at mm s0 x1) (fun r5 => nm (mni (9999 : Int32) (r5 + x2)) (fun v6 => bd (f6_put mm s0 x1 v6) (fun r7 => bd (f0_clear r7 44) (fun r8 => bd (f0_surplusOfAll r8 44) (fun r9 => bd (f0_surplusOfAll r8 15) (fun r10 => some (r9 - r10, r8)))))))
theorem f6_wider_j88_ok {E : Ev} {l : Launch} {C : Cfg} {x : (Int64 × Mem)} (hj : Dj C) (X : Ec E l C rmX6_wider) (B : Bx E RX6 tbX6_wider 6 (some .long)) (hQ : Rt E) (hr : Rs E (some (.long x.1)) x.2) (x1 : Int32) (x2 : Int32) (s0 : Nat) (mm : Mem) (o_s0 : Ob s0 8) (hf : f6_wider_j88 x1 x2 s0 mm = some x) : G E 6 88 [(0, .ref 14), (1, .int x1), (2, .int x2)] [.ref s0] mm := by
  unfold f6_wider_j88 at hf
  refine z_astore [(5, .ref s0), (0, .ref 14), (1, .int x1), (2, .int x2)] B 37 rfl (by decide) rfl ?_
  refine z_aload B 38 rfl 0 rfl ?_
  refine z_iload_n B 39 rfl 1 2 rfl rfl ?_
  refine z_sipush 9999 B 40 rfl (by decide) ?_
  refine z_aload B 41 rfl 0 rfl ?_
  refine z_iload_n B 42 rfl 1 2 rfl rfl ?_
  obtain ⟨r5, ec, hf⟩ := bd_e hf
  refine z_callS [.ref s0, .int x1] [.int (9999 : Int32), .int x1, .ref s0] [.int r5, .int (9999 : Int32), .int x1, .ref s0] X B 43 rfl miX6_at ⟨(iX6_wider _ (List.mem_of_getElem? (i := 17) rfl)), (iX6_wider _ (List.mem_of_getElem? (i := 18) rfl))⟩ (ctX6_at hj o_s0 ec) ⟨Nat.le_of_ble_eq_true rfl, Nat.le_of_ble_eq_true rfl⟩ rfl rfl (Nat.le_of_ble_eq_true rfl) rfl ?_
  refine z_iload_n B 44 rfl 2 3 rfl rfl ?_
  refine z_iadd B 45 rfl ?_
  refine z_mmin X B 46 rfl ⟨(iX6_wider _ (List.mem_of_getElem? (i := 19) rfl)), (iX6_wider _ (List.mem_of_getElem? (i := 20) rfl)), (iX6_wider _ (List.mem_of_getElem? (i := 21) rfl)), (iX6_wider _ (List.mem_of_getElem? (i := 22) rfl))⟩ ⟨Nat.le_of_ble_eq_true rfl, Nat.le_of_ble_eq_true rfl⟩ (Nat.le_of_ble_eq_true rfl) ?_
  obtain ⟨v6, ex, hf⟩ := nm_x hf
  refine z_top ex ?_
  obtain ⟨r7, ec, hf⟩ := bd_e hf
  refine z_callS [.ref s0, .int x1, .int v6] [] [] X B 47 rfl miX6_put ⟨(iX6_wider _ (List.mem_of_getElem? (i := 23) rfl)), (iX6_wider _ (List.mem_of_getElem? (i := 24) rfl))⟩ (ctX6_put hj o_s0 ec) ⟨Nat.le_of_ble_eq_true rfl, Nat.le_of_ble_eq_true rfl⟩ rfl rfl (Nat.le_of_ble_eq_true rfl) rfl ?_
  refine z_aload_n B 48 rfl 0 1 rfl rfl ?_
  refine z_getr 6 1 14 B 49 rfl ob_14 rfl (iX6_wider _ (List.mem_of_getElem? (i := 12) rfl)) rfl ?_
  obtain ⟨r8, ec, hf⟩ := bd_e hf
  refine z_callV 44 0 [] [] [] X B 50 rfl ob_44 rfl rfl miX0_clear ⟨(iX6_wider _ (List.mem_of_getElem? (i := 9) rfl)), (iX6_wider _ (List.mem_of_getElem? (i := 10) rfl)), (iX6_wider _ (List.mem_of_getElem? (i := 11) rfl))⟩ (ctX0_clear hj ob_44 ec) ⟨Nat.le_of_ble_eq_true rfl, Nat.le_of_ble_eq_true rfl⟩ rfl rfl (Nat.le_of_ble_eq_true rfl) rfl ?_
  refine z_aload_n B 51 rfl 0 1 rfl rfl ?_
  refine z_getr 6 1 14 B 52 rfl ob_14 rfl (iX6_wider _ (List.mem_of_getElem? (i := 12) rfl)) rfl ?_
  obtain ⟨r9, ec, hf⟩ := bd_e hf
  refine z_callV 44 0 [] [] [.long r9] X B 53 rfl ob_44 rfl rfl miX0_surplusOfAll ⟨(iX6_wider _ (List.mem_of_getElem? (i := 25) rfl)), (iX6_wider _ (List.mem_of_getElem? (i := 26) rfl)), (iX6_wider _ (List.mem_of_getElem? (i := 27) rfl))⟩ (ctX0_surplusOfAll hj ob_44 ec) ⟨Nat.le_of_ble_eq_true rfl, Nat.le_of_ble_eq_true rfl⟩ rfl rfl (Nat.le_of_ble_eq_true rfl) rfl ?_
  refine z_aload_n B 54 rfl 0 1 rfl rfl ?_
  refine z_getr 6 0 14 B 55 rfl ob_14 rfl (iX6_wider _ (List.mem_of_getElem? (i := 0) rfl)) rfl ?_
  obtain ⟨r10, ec, hf⟩ := bd_e hf
  refine z_callV 15 0 [] [.long r9] [.long r10, .long r9] X B 56 rfl ob_15 rfl rfl miX0_surplusOfAll ⟨(iX6_wider _ (List.mem_of_getElem? (i := 25) rfl)), (iX6_wider _ (List.mem_of_getElem? (i := 26) rfl)), (iX6_wider _ (List.mem_of_getElem? (i := 27) rfl))⟩ (ctX0_surplusOfAll hj ob_15 ec) ⟨Nat.le_of_ble_eq_true rfl, Nat.le_of_ble_eq_true rfl⟩ rfl rfl (Nat.le_of_ble_eq_true rfl) rfl ?_
  refine z_lsub B 57 rfl ?_
  cases hf
  exact z_lret B 58 rfl hQ hr
def f6_wider (mm : Mem) (a1 : Int32) (a2 : Int32) (a3 : Int32) : Option (Int64 × Mem) := bd (f5_hasInner mm 17 a1) (fun r1 => if r1 = 0 then some ((-1000000000000000 : Int64), mm) else bd (f6_within mm a2 (1 : Int32) (9999 : Int32)) (fun r2 => if r2 = 0 then some ((-1000000000000000 : Int64), mm) else bd (f0_clear mm 15) (fun r3 => bd (f1_copyFrom r3 45 16) (fun r4 => if a3 = 0 then f6_wider_j88 a1 a2 48 r4 else f6_wider_j88 a1 a2 49 r4))))
theorem ctX6_wider {l : Launch} {C : Cfg} (hj : Dj C) {mm : Mem} {a1 : Int32} {a2 : Int32} {a3 : Int32} {x : (Int64 × Mem)} (hf : f6_wider mm a1 a2 a3 = some x) : Ct l C yX6_wider cX6_wider 6 (some .long) 5 123 [.ref 14, .int a1, .int a2, .int a3] mm (some (.long x.1)) x.2 := by
  refine Ct.of (tb := tbX6_wider) hj miX6_wider.2.1 miX6_wider.1 dtX6_wider (Nat.le_of_ble_eq_true rfl) ?_
  intro E B hQ hr X
  unfold f6_wider at hf
  show G E 6 0 [(0, .ref 14), (1, .int a1), (2, .int a2), (3, .int a3)] [] mm
  refine z_aload_n B 0 rfl 0 0 rfl rfl ?_
  refine z_getr 6 0 14 B 1 rfl ob_14 rfl (iX6_wider _ (List.mem_of_getElem? (i := 0) rfl)) rfl ?_
  refine z_getr 0 0 15 B 2 rfl ob_15 rfl (iX6_wider _ (List.mem_of_getElem? (i := 1) rfl)) rfl ?_
  refine z_astore [(4, .ref 16), (0, .ref 14), (1, .int a1), (2, .int a2), (3, .int a3)] B 3 rfl (by decide) rfl ?_
  refine z_aload B 4 rfl 0 rfl ?_
  refine z_getr 1 0 16 B 5 rfl ob_16 rfl (iX6_wider _ (List.mem_of_getElem? (i := 2) rfl)) rfl ?_
  refine z_iload_n B 6 rfl 1 2 rfl rfl ?_
  obtain ⟨r1, ec, hf⟩ := bd_e hf
  refine z_callV 17 5 [.int a1] [] [.int r1] X B 7 rfl ob_17 rfl rfl miX5_hasInner ⟨(iX6_wider _ (List.mem_of_getElem? (i := 3) rfl)), (iX6_wider _ (List.mem_of_getElem? (i := 4) rfl)), (iX6_wider _ (List.mem_of_getElem? (i := 5) rfl))⟩ (ctX5_hasInner hj ob_17 ec) ⟨Nat.le_of_ble_eq_true rfl, Nat.le_of_ble_eq_true rfl⟩ rfl rfl (Nat.le_of_ble_eq_true rfl) rfl ?_
  by_cases hc : r1 = 0
  · replace hf := (if_pos hc).symm.trans hf
    refine z_if_eq_t B 8 rfl 32 (by decide) hc ?_
    refine z_ldc2 (-1000000000000000) B 14 rfl (iX6_wider _ (List.mem_of_getElem? (i := 6) rfl)) ?_
    cases hf
    exact z_lret B 15 rfl hQ hr
  · replace hf := (if_neg hc).symm.trans hf
    refine z_if_eq_f B 8 rfl 32 (by decide) hc ?_
    refine z_iload_n B 9 rfl 2 3 rfl rfl ?_
    refine z_iconst 1 B 10 rfl (by decide) ?_
    refine z_sipush 9999 B 11 rfl (by decide) ?_
    obtain ⟨r2, ec, hf⟩ := bd_e hf
    refine z_callS [.int a2, .int (1 : Int32), .int (9999 : Int32)] [] [.int r2] X B 12 rfl miX6_within ⟨(iX6_wider _ (List.mem_of_getElem? (i := 7) rfl)), (iX6_wider _ (List.mem_of_getElem? (i := 8) rfl))⟩ (ctX6_within hj ec) ⟨Nat.le_of_ble_eq_true rfl, Nat.le_of_ble_eq_true rfl⟩ rfl rfl (Nat.le_of_ble_eq_true rfl) rfl ?_
    by_cases hc : r2 = 0
    · replace hf := (if_pos hc).symm.trans hf
      refine z_if_ne_f B 13 rfl 36 (by decide) hc ?_
      refine z_ldc2 (-1000000000000000) B 14 rfl (iX6_wider _ (List.mem_of_getElem? (i := 6) rfl)) ?_
      cases hf
      exact z_lret B 15 rfl hQ hr
    · replace hf := (if_neg hc).symm.trans hf
      refine z_if_ne_t B 13 rfl 36 (by decide) hc ?_
      refine z_aload_n B 16 rfl 0 1 rfl rfl ?_
      refine z_getr 6 0 14 B 17 rfl ob_14 rfl (iX6_wider _ (List.mem_of_getElem? (i := 0) rfl)) rfl ?_
      obtain ⟨r3, ec, hf⟩ := bd_e hf
      refine z_callV 15 0 [] [] [] X B 18 rfl ob_15 rfl rfl miX0_clear ⟨(iX6_wider _ (List.mem_of_getElem? (i := 9) rfl)), (iX6_wider _ (List.mem_of_getElem? (i := 10) rfl)), (iX6_wider _ (List.mem_of_getElem? (i := 11) rfl))⟩ (ctX0_clear hj ob_15 ec) ⟨Nat.le_of_ble_eq_true rfl, Nat.le_of_ble_eq_true rfl⟩ rfl rfl (Nat.le_of_ble_eq_true rfl) rfl ?_
      refine z_aload_n B 19 rfl 0 1 rfl rfl ?_
      refine z_getr 6 1 14 B 20 rfl ob_14 rfl (iX6_wider _ (List.mem_of_getElem? (i := 12) rfl)) rfl ?_
      refine z_getr 0 0 44 B 21 rfl ob_44 rfl (iX6_wider _ (List.mem_of_getElem? (i := 1) rfl)) rfl ?_
      refine z_aload B 22 rfl 0 rfl ?_
      obtain ⟨r4, ec, hf⟩ := bd_e hf
      refine z_callV 45 1 [.ref 16] [] [] X B 23 rfl ob_45 rfl rfl miX1_copyFrom ⟨(iX6_wider _ (List.mem_of_getElem? (i := 13) rfl)), (iX6_wider _ (List.mem_of_getElem? (i := 14) rfl)), (iX6_wider _ (List.mem_of_getElem? (i := 15) rfl))⟩ (ctX1_copyFrom hj ob_45 ob_16 ec) ⟨Nat.le_of_ble_eq_true rfl, Nat.le_of_ble_eq_true rfl⟩ rfl rfl (Nat.le_of_ble_eq_true rfl) rfl ?_
      refine z_iload_n B 24 rfl 3 4 rfl rfl ?_
      by_cases hc : a3 = 0
      · replace hf := (if_pos hc).symm.trans hf
        refine z_if_eq_t B 25 rfl 75 (by decide) hc ?_
        refine z_aload_n B 32 rfl 0 1 rfl rfl ?_
        refine z_getr 6 1 14 B 33 rfl ob_14 rfl (iX6_wider _ (List.mem_of_getElem? (i := 12) rfl)) rfl ?_
        refine z_getr 0 0 44 B 34 rfl ob_44 rfl (iX6_wider _ (List.mem_of_getElem? (i := 1) rfl)) rfl ?_
        refine z_getr 1 0 45 B 35 rfl ob_45 rfl (iX6_wider _ (List.mem_of_getElem? (i := 2) rfl)) rfl ?_
        refine z_getr 5 2 46 B 36 rfl ob_46 rfl (iX6_wider _ (List.mem_of_getElem? (i := 16) rfl)) rfl ?_
        refine z_sub [(0, .ref 14), (1, .int a1), (2, .int a2)] [1, 2, 3] rfl ?_
        exact f6_wider_j88_ok hj X B hQ hr _ _ _ _ ob_48 hf
      · replace hf := (if_neg hc).symm.trans hf
        refine z_if_eq_f B 25 rfl 75 (by decide) hc ?_
        refine z_aload_n B 26 rfl 0 1 rfl rfl ?_
        refine z_getr 6 1 14 B 27 rfl ob_14 rfl (iX6_wider _ (List.mem_of_getElem? (i := 12) rfl)) rfl ?_
        refine z_getr 0 0 44 B 28 rfl ob_44 rfl (iX6_wider _ (List.mem_of_getElem? (i := 1) rfl)) rfl ?_
        refine z_getr 1 0 45 B 29 rfl ob_45 rfl (iX6_wider _ (List.mem_of_getElem? (i := 2) rfl)) rfl ?_
        refine z_getr 5 3 46 B 30 rfl ob_46 rfl (iX6_wider _ (List.mem_of_getElem? (i := 28) rfl)) rfl ?_
        refine z_goto B 31 rfl 88 (by decide) ?_
        refine z_sub [(0, .ref 14), (1, .int a1), (2, .int a2)] [1, 2, 3] rfl ?_
        exact f6_wider_j88_ok hj X B hQ hr _ _ _ _ ob_49 hf
/-! ZoneCapacity.isNarrow(II)Z -/
def tbX6_isNarrow : Tb := [(0, .aload_n 0, 1, 1), (1, .getfield 16, 3, 4), (4, .getfield 57, 3, 7), (7, .getfield 71, 3, 10), (10, .astore_n 3, 1, 11), (11, .aload_n 3, 1, 12), (12, .getfield 146, 3, 15), (15, .iload_n 1, 1, 16), (16, .iload_n 2, 1, 17), (17, .invokestatic 257, 3, 20), (20, .aload_n 0, 1, 21), (21, .getfield 16, 3, 24), (24, .invokevirtual 209, 3, 27), (27, .aload_n 0, 1, 28), (28, .getfield 16, 3, 31), (31, .getfield 212, 3, 34), (34, .iload_n 1, 1, 35), (35, .invokestatic 92, 3, 38), (38, .aload_n 0, 1, 39), (39, .getfield 16, 3, 42), (42, .getfield 212, 3, 45), (45, .aload_n 3, 1, 46), (46, .getfield 168, 3, 49), (49, .iload_n 1, 1, 50), (50, .invokestatic 92, 3, 53), (53, .invokestatic 92, 3, 56), (56, .if_icmp .le 7, 3, 59), (59, .iconst 1, 1, 60), (60, .goto 4, 3, 63), (63, .iconst 0, 1, 64), (64, .ireturn, 1, 65)]
theorem dtX6_isNarrow : ∀ q ∈ tbX6_isNarrow, decode cX6_isNarrow q.1 = .ok (q.2.1, q.2.2.1) ∧ q.1 + q.2.2.1 = q.2.2.2 := by decide +kernel
theorem miX6_isNarrow : MI yX6_isNarrow cX6_isNarrow 4 (some .boolean) 2 := ⟨tw_mem (List.mem_of_getElem? (i := 831) (by decide +kernel)) rfl, by decide, by decide +kernel, tw_mem (List.mem_of_getElem? (i := 71) (by decide +kernel)) rfl⟩
abbrev rmX6_isNarrow : Room := { frames := 5, cells := 0, slots := 0, locals := 123 }
def wX6_isNarrow : List Cond := [.fieldLink "ZoneCapacity" 16 "ZoneCapacity" "trial" "LZoneCapacity$Auction;", .fieldLink "ZoneCapacity" 57 "ZoneCapacity$Auction" "market" "LZoneCapacity$Market;", .fieldLink "ZoneCapacity" 71 "ZoneCapacity$Market" "zones" "LZoneCapacity$Zones;", .fieldLink "ZoneCapacity" 146 "ZoneCapacity$Zones" "in" "[I", .methodLink "ZoneCapacity" 257 yX6_put, .static yX6_put, .methodLink "ZoneCapacity" 209 yX0_clear, .instanceMethod yX0_clear, .selects "ZoneCapacity$Auction" yX0_clear yX0_clear, .fieldLink "ZoneCapacity" 212 "ZoneCapacity$Auction" "prices" "[I", .methodLink "ZoneCapacity" 92 yX6_at, .static yX6_at, .fieldLink "ZoneCapacity" 168 "ZoneCapacity$Zones" "outer" "[I"]
theorem iX6_isNarrow : ∀ w ∈ wX6_isNarrow, w ∈ TW := tw_of (ids := [318, 222, 211, 123, 603, 348, 709, 710, 711, 224, 570, 386, 120]) (by decide +kernel)
def f6_isNarrow (mm : Mem) (a1 : Int32) (a2 : Int32) : Option (Int32 × Mem) := bd (f6_put mm 48 a1 a2) (fun r1 => bd (f0_clear r1 44) (fun r2 => bd (f6_at r2 64 a1) (fun r3 => bd (f6_at r2 47 a1) (fun r4 => bd (f6_at r2 64 r4) (fun r5 => if r5 < r3 then some ((1 : Int32), r2) else some ((0 : Int32), r2))))))
theorem ctX6_isNarrow {l : Launch} {C : Cfg} (hj : Dj C) {mm : Mem} {a1 : Int32} {a2 : Int32} {x : (Int32 × Mem)} (hf : f6_isNarrow mm a1 a2 = some x) : Ct l C yX6_isNarrow cX6_isNarrow 4 (some .boolean) 5 123 [.ref 14, .int a1, .int a2] mm (some (.int x.1)) x.2 := by
  refine Ct.of (tb := tbX6_isNarrow) hj miX6_isNarrow.2.1 miX6_isNarrow.1 dtX6_isNarrow (Nat.le_of_ble_eq_true rfl) ?_
  intro E B hQ hr X
  unfold f6_isNarrow at hf
  show G E 4 0 [(0, .ref 14), (1, .int a1), (2, .int a2)] [] mm
  refine z_aload_n B 0 rfl 0 0 rfl rfl ?_
  refine z_getr 6 1 14 B 1 rfl ob_14 rfl (iX6_isNarrow _ (List.mem_of_getElem? (i := 0) rfl)) rfl ?_
  refine z_getr 0 0 44 B 2 rfl ob_44 rfl (iX6_isNarrow _ (List.mem_of_getElem? (i := 1) rfl)) rfl ?_
  refine z_getr 1 0 45 B 3 rfl ob_45 rfl (iX6_isNarrow _ (List.mem_of_getElem? (i := 2) rfl)) rfl ?_
  refine z_astore_n [(3, .ref 46), (0, .ref 14), (1, .int a1), (2, .int a2)] B 4 rfl 3 rfl (by decide) rfl ?_
  refine z_aload_n B 5 rfl 3 0 rfl rfl ?_
  refine z_getr 5 2 46 B 6 rfl ob_46 rfl (iX6_isNarrow _ (List.mem_of_getElem? (i := 3) rfl)) rfl ?_
  refine z_iload_n B 7 rfl 1 2 rfl rfl ?_
  refine z_iload_n B 8 rfl 2 3 rfl rfl ?_
  obtain ⟨r1, ec, hf⟩ := bd_e hf
  refine z_callS [.ref 48, .int a1, .int a2] [] [] X B 9 rfl miX6_put ⟨(iX6_isNarrow _ (List.mem_of_getElem? (i := 4) rfl)), (iX6_isNarrow _ (List.mem_of_getElem? (i := 5) rfl))⟩ (ctX6_put hj ob_48 ec) ⟨Nat.le_of_ble_eq_true rfl, Nat.le_of_ble_eq_true rfl⟩ rfl rfl (Nat.le_of_ble_eq_true rfl) rfl ?_
  refine z_aload_n B 10 rfl 0 1 rfl rfl ?_
  refine z_getr 6 1 14 B 11 rfl ob_14 rfl (iX6_isNarrow _ (List.mem_of_getElem? (i := 0) rfl)) rfl ?_
  obtain ⟨r2, ec, hf⟩ := bd_e hf
  refine z_callV 44 0 [] [] [] X B 12 rfl ob_44 rfl rfl miX0_clear ⟨(iX6_isNarrow _ (List.mem_of_getElem? (i := 6) rfl)), (iX6_isNarrow _ (List.mem_of_getElem? (i := 7) rfl)), (iX6_isNarrow _ (List.mem_of_getElem? (i := 8) rfl))⟩ (ctX0_clear hj ob_44 ec) ⟨Nat.le_of_ble_eq_true rfl, Nat.le_of_ble_eq_true rfl⟩ rfl rfl (Nat.le_of_ble_eq_true rfl) rfl ?_
  refine z_aload_n B 13 rfl 0 1 rfl rfl ?_
  refine z_getr 6 1 14 B 14 rfl ob_14 rfl (iX6_isNarrow _ (List.mem_of_getElem? (i := 0) rfl)) rfl ?_
  refine z_getr 0 1 44 B 15 rfl ob_44 rfl (iX6_isNarrow _ (List.mem_of_getElem? (i := 9) rfl)) rfl ?_
  refine z_iload_n B 16 rfl 1 2 rfl rfl ?_
  obtain ⟨r3, ec, hf⟩ := bd_e hf
  refine z_callS [.ref 64, .int a1] [] [.int r3] X B 17 rfl miX6_at ⟨(iX6_isNarrow _ (List.mem_of_getElem? (i := 10) rfl)), (iX6_isNarrow _ (List.mem_of_getElem? (i := 11) rfl))⟩ (ctX6_at hj ob_64 ec) ⟨Nat.le_of_ble_eq_true rfl, Nat.le_of_ble_eq_true rfl⟩ rfl rfl (Nat.le_of_ble_eq_true rfl) rfl ?_
  refine z_aload_n B 18 rfl 0 1 rfl rfl ?_
  refine z_getr 6 1 14 B 19 rfl ob_14 rfl (iX6_isNarrow _ (List.mem_of_getElem? (i := 0) rfl)) rfl ?_
  refine z_getr 0 1 44 B 20 rfl ob_44 rfl (iX6_isNarrow _ (List.mem_of_getElem? (i := 9) rfl)) rfl ?_
  refine z_aload_n B 21 rfl 3 0 rfl rfl ?_
  refine z_getr 5 1 46 B 22 rfl ob_46 rfl (iX6_isNarrow _ (List.mem_of_getElem? (i := 12) rfl)) rfl ?_
  refine z_iload_n B 23 rfl 1 2 rfl rfl ?_
  obtain ⟨r4, ec, hf⟩ := bd_e hf
  refine z_callS [.ref 47, .int a1] [.ref 64, .int r3] [.int r4, .ref 64, .int r3] X B 24 rfl miX6_at ⟨(iX6_isNarrow _ (List.mem_of_getElem? (i := 10) rfl)), (iX6_isNarrow _ (List.mem_of_getElem? (i := 11) rfl))⟩ (ctX6_at hj ob_47 ec) ⟨Nat.le_of_ble_eq_true rfl, Nat.le_of_ble_eq_true rfl⟩ rfl rfl (Nat.le_of_ble_eq_true rfl) rfl ?_
  obtain ⟨r5, ec, hf⟩ := bd_e hf
  refine z_callS [.ref 64, .int r4] [.int r3] [.int r5, .int r3] X B 25 rfl miX6_at ⟨(iX6_isNarrow _ (List.mem_of_getElem? (i := 10) rfl)), (iX6_isNarrow _ (List.mem_of_getElem? (i := 11) rfl))⟩ (ctX6_at hj ob_64 ec) ⟨Nat.le_of_ble_eq_true rfl, Nat.le_of_ble_eq_true rfl⟩ rfl rfl (Nat.le_of_ble_eq_true rfl) rfl ?_
  by_cases hc : r5 < r3
  · replace hf := (if_pos hc).symm.trans hf
    refine z_icmp_le_f B 26 rfl 63 (by decide) hc ?_
    refine z_iconst 1 B 27 rfl (by decide) ?_
    refine z_goto B 28 rfl 64 (by decide) ?_
    cases hf
    exact z_iret B 30 rfl (by decide) hQ hr
  · replace hf := (if_neg hc).symm.trans hf
    refine z_icmp_le_t B 26 rfl 63 (by decide) hc ?_
    refine z_iconst 0 B 29 rfl (by decide) ?_
    cases hf
    exact z_iret B 30 rfl (by decide) hQ hr
