/-! ZoneCapacity.needs(I)I -/
def tbX6_needs : Tb := [(0, .aload_n 0, 1, 1), (1, .getfield 10, 3, 4), (4, .getfield 57, 3, 7), (7, .getfield 71, 3, 10), (10, .iload_n 1, 1, 11), (11, .invokevirtual 143, 3, 14), (14, .ifCond .ne 5, 3, 17), (17, .iconst (-1), 1, 18), (18, .ireturn, 1, 19), (19, .aload_n 0, 1, 20), (20, .getfield 16, 3, 23), (23, .getfield 57, 3, 26), (26, .aload_n 0, 1, 27), (27, .getfield 10, 3, 30), (30, .getfield 57, 3, 33), (33, .invokevirtual 60, 3, 36), (36, .iconst 0, 1, 37), (37, .istore_n 2, 1, 38), (38, .sipush 8192, 3, 41), (41, .istore_n 3, 1, 42), (42, .iload_n 3, 1, 43), (43, .ifCond .le 36, 3, 46), (46, .iload_n 2, 1, 47), (47, .iload_n 3, 1, 48), (48, .iadd, 1, 49), (49, .sipush 10000, 3, 52), (52, .if_icmp .gt 20, 3, 55), (55, .aload_n 0, 1, 56), (56, .iload_n 1, 1, 57), (57, .iload_n 2, 1, 58), (58, .iload_n 3, 1, 59), (59, .iadd, 1, 60), (60, .iconst 1, 1, 61), (61, .isub, 1, 62), (62, .invokevirtual 261, 3, 65), (65, .ifCond .eq 7, 3, 68), (68, .iload_n 2, 1, 69), (69, .iload_n 3, 1, 70), (70, .iadd, 1, 71), (71, .istore_n 2, 1, 72), (72, .iload_n 3, 1, 73), (73, .iconst 1, 1, 74), (74, .ishr, 1, 75), (75, .istore_n 3, 1, 76), (76, .goto (-34), 3, 79), (79, .iload_n 2, 1, 80), (80, .sipush 9999, 3, 83), (83, .if_icmp .le 7, 3, 86), (86, .iconst (-1), 1, 87), (87, .goto 4, 3, 90), (90, .iload_n 2, 1, 91), (91, .ireturn, 1, 92)]
theorem dtX6_needs : ∀ q ∈ tbX6_needs, decode cX6_needs q.1 = .ok (q.2.1, q.2.2.1) ∧ q.1 + q.2.2.1 = q.2.2.2 := by decide +kernel
theorem miX6_needs : MI yX6_needs cX6_needs 4 (some .int) 1 := ⟨tw_mem (List.mem_of_getElem? (i := 827) (by decide +kernel)) rfl, by decide, by decide +kernel, tw_mem (List.mem_of_getElem? (i := 71) (by decide +kernel)) rfl⟩
abbrev rmX6_needs : Room := { frames := 6, cells := 0, slots := 0, locals := 146 }
def wX6_needs : List Cond := [.fieldLink "ZoneCapacity" 10 "ZoneCapacity" "now" "LZoneCapacity$Auction;", .fieldLink "ZoneCapacity" 57 "ZoneCapacity$Auction" "market" "LZoneCapacity$Market;", .fieldLink "ZoneCapacity" 71 "ZoneCapacity$Market" "zones" "LZoneCapacity$Zones;", .methodLink "ZoneCapacity" 143 yX5_hasInner, .instanceMethod yX5_hasInner, .selects "ZoneCapacity$Zones" yX5_hasInner yX5_hasInner, .fieldLink "ZoneCapacity" 16 "ZoneCapacity" "trial" "LZoneCapacity$Auction;", .methodLink "ZoneCapacity" 60 yX1_copyFrom, .instanceMethod yX1_copyFrom, .selects "ZoneCapacity$Market" yX1_copyFrom yX1_copyFrom, .methodLink "ZoneCapacity" 261 yX6_isNarrow, .instanceMethod yX6_isNarrow, .selects "ZoneCapacity" yX6_isNarrow yX6_isNarrow]
theorem iX6_needs : ∀ w ∈ wX6_needs, w ∈ TW := tw_of (ids := [317, 222, 211, 608, 609, 610, 318, 361, 362, 363, 828, 830, 22]) (by decide +kernel)
def f6_needs_j72 (k42 : Int32 → Int32 → Int32 → Mem → Option (Int32 × Mem)) (x1 : Int32) (x2 : Int32) (x3 : Int32) (mm : Mem) : Option (Int32 × Mem) := nm (x3 >>> ((1 : Int32) &&& 31)) (fun v3 => k42 x1 x2 v3 mm)
theorem f6_needs_j72_ok {E : Ev} {l : Launch} {C : Cfg} {x : (Int32 × Mem)} {k42 : Int32 → Int32 → Int32 → Mem → Option (Int32 × Mem)} (hj : Dj C) (X : Ec E l C rmX6_needs) (B : Bx E RX6 tbX6_needs 4 (some .int)) (hQ : Rt E) (hr : Rs E (some (.int x.1)) x.2) (hk42 : ∀ (x1 : Int32) (x2 : Int32) (x3 : Int32) (mm : Mem), k42 x1 x2 x3 mm = some x → G E 4 42 [(0, .ref 14), (1, .int x1), (2, .int x2), (3, .int x3)] [] mm) (x1 : Int32) (x2 : Int32) (x3 : Int32) (mm : Mem) (hf : f6_needs_j72 k42 x1 x2 x3 mm = some x) : G E 4 72 [(0, .ref 14), (1, .int x1), (2, .int x2), (3, .int x3)] [] mm := by
  unfold f6_needs_j72 at hf
  refine z_iload_n B 40 rfl 3 3 rfl rfl ?_
  refine z_iconst 1 B 41 rfl (by decide) ?_
  refine z_ishr B 42 rfl ?_
  obtain ⟨v3, ex, hf⟩ := nm_x hf
  refine z_top ex ?_
  refine z_istore_n [(3, .int v3), (0, .ref 14), (1, .int x1), (2, .int x2)] B 43 rfl 3 rfl (by decide) rfl ?_
  refine z_goto B 44 rfl 42 (by decide) ?_
  refine z_sub [(0, .ref 14), (1, .int x1), (2, .int x2), (3, .int v3)] [1, 2, 3, 0] rfl ?_
  exact hk42 _ _ _ _ hf
def f6_needs_l42 : Nat → Int32 → Int32 → Int32 → Mem → Option (Int32 × Mem)
  | 0, _, _, _, _ => none
  | n + 1, x1, x2, x3, mm => if 0 < x3 then if (10000 : Int32) < (x2 + x3) then f6_needs_j72 (fun x1 x2 x3 mm => f6_needs_l42 n x1 x2 x3 mm) x1 x2 x3 mm else bd (f6_isNarrow mm x1 ((x2 + x3) - (1 : Int32))) (fun r4 => if r4.1 = 0 then f6_needs_j72 (fun x1 x2 x3 mm => f6_needs_l42 n x1 x2 x3 mm) x1 x2 x3 r4.2 else nm (x2 + x3) (fun v5 => f6_needs_j72 (fun x1 x2 x3 mm => f6_needs_l42 n x1 x2 x3 mm) x1 v5 x3 r4.2)) else if (9999 : Int32) < x2 then some ((-1 : Int32), mm) else some (x2, mm)
theorem f6_needs_l42_ok {E : Ev} {l : Launch} {C : Cfg} {x : (Int32 × Mem)} (hj : Dj C) (X : Ec E l C rmX6_needs) (B : Bx E RX6 tbX6_needs 4 (some .int)) (hQ : Rt E) (hr : Rs E (some (.int x.1)) x.2) (n : Nat) : ∀ (x1 : Int32) (x2 : Int32) (x3 : Int32) (mm : Mem), f6_needs_l42 n x1 x2 x3 mm = some x → G E 4 42 [(0, .ref 14), (1, .int x1), (2, .int x2), (3, .int x3)] [] mm := by
  induction n with
  | zero =>
    intro x1 x2 x3 mm hf
    rw [f6_needs_l42] at hf
    cases hf
  | succ n ih =>
    intro x1 x2 x3 mm hf
    rw [f6_needs_l42] at hf
    refine z_iload_n B 20 rfl 3 3 rfl rfl ?_
    by_cases hc : 0 < x3
    · replace hf := (if_pos hc).symm.trans hf
      refine z_if_le_f B 21 rfl 79 (by decide) hc ?_
      refine z_iload_n B 22 rfl 2 2 rfl rfl ?_
      refine z_iload_n B 23 rfl 3 3 rfl rfl ?_
      refine z_iadd B 24 rfl ?_
      refine z_sipush 10000 B 25 rfl (by decide) ?_
      by_cases hc : (10000 : Int32) < (x2 + x3)
      · replace hf := (if_pos hc).symm.trans hf
        refine z_icmp_gt_t B 26 rfl 72 (by decide) hc ?_
        exact f6_needs_j72_ok hj X B hQ hr ih _ _ _ _ hf
      · replace hf := (if_neg hc).symm.trans hf
        refine z_icmp_gt_f B 26 rfl 72 (by decide) hc ?_
        refine z_aload_n B 27 rfl 0 0 rfl rfl ?_
        refine z_iload_n B 28 rfl 1 1 rfl rfl ?_
        refine z_iload_n B 29 rfl 2 2 rfl rfl ?_
        refine z_iload_n B 30 rfl 3 3 rfl rfl ?_
        refine z_iadd B 31 rfl ?_
        refine z_iconst 1 B 32 rfl (by decide) ?_
        refine z_isub B 33 rfl ?_
        obtain ⟨r4, ec, hf⟩ := bd_e hf
        refine z_callV 14 6 [.int x1, .int ((x2 + x3) - (1 : Int32))] [] [.int r4.1] X B 34 rfl ob_14 rfl rfl miX6_isNarrow ⟨(iX6_needs _ (List.mem_of_getElem? (i := 10) rfl)), (iX6_needs _ (List.mem_of_getElem? (i := 11) rfl)), (iX6_needs _ (List.mem_of_getElem? (i := 12) rfl))⟩ (ctX6_isNarrow hj ec) ⟨Nat.le_of_ble_eq_true rfl, Nat.le_of_ble_eq_true rfl⟩ rfl rfl (Nat.le_of_ble_eq_true rfl) rfl ?_
        by_cases hc : r4.1 = 0
        · replace hf := (if_pos hc).symm.trans hf
          refine z_if_eq_t B 35 rfl 72 (by decide) hc ?_
          exact f6_needs_j72_ok hj X B hQ hr ih _ _ _ _ hf
        · replace hf := (if_neg hc).symm.trans hf
          refine z_if_eq_f B 35 rfl 72 (by decide) hc ?_
          refine z_iload_n B 36 rfl 2 2 rfl rfl ?_
          refine z_iload_n B 37 rfl 3 3 rfl rfl ?_
          refine z_iadd B 38 rfl ?_
          obtain ⟨v5, ex, hf⟩ := nm_x hf
          refine z_top ex ?_
          refine z_istore_n [(2, .int v5), (0, .ref 14), (1, .int x1), (3, .int x3)] B 39 rfl 2 rfl (by decide) rfl ?_
          refine z_sub [(0, .ref 14), (1, .int x1), (2, .int v5), (3, .int x3)] [1, 2, 0, 3] rfl ?_
          exact f6_needs_j72_ok hj X B hQ hr ih _ _ _ _ hf
    · replace hf := (if_neg hc).symm.trans hf
      refine z_if_le_t B 21 rfl 79 (by decide) hc ?_
      refine z_iload_n B 45 rfl 2 2 rfl rfl ?_
      refine z_sipush 9999 B 46 rfl (by decide) ?_
      by_cases hc : (9999 : Int32) < x2
      · replace hf := (if_pos hc).symm.trans hf
        refine z_icmp_le_f B 47 rfl 90 (by decide) hc ?_
        refine z_iconst (-1) B 48 rfl (by decide) ?_
        refine z_goto B 49 rfl 91 (by decide) ?_
        cases hf
        exact z_iret B 51 rfl rfl hQ hr
      · replace hf := (if_neg hc).symm.trans hf
        refine z_icmp_le_t B 47 rfl 90 (by decide) hc ?_
        refine z_iload_n B 50 rfl 2 2 rfl rfl ?_
        cases hf
        exact z_iret B 51 rfl rfl hQ hr
def f6_needs (mm : Mem) (a1 : Int32) : Option (Int32 × Mem) := bd (f5_hasInner mm 17 a1) (fun r1 => if r1 = 0 then some ((-1 : Int32), mm) else bd (f1_copyFrom mm 45 16) (fun r2 => f6_needs_l42 FU a1 (0 : Int32) (8192 : Int32) r2))
theorem ctX6_needs {l : Launch} {C : Cfg} (hj : Dj C) {mm : Mem} {a1 : Int32} {x : (Int32 × Mem)} (hf : f6_needs mm a1 = some x) : Ct l C yX6_needs cX6_needs 4 (some .int) 6 146 [.ref 14, .int a1] mm (some (.int x.1)) x.2 := by
  refine Ct.of (tb := tbX6_needs) hj miX6_needs.2.1 miX6_needs.1 dtX6_needs (Nat.le_of_ble_eq_true rfl) ?_
  intro E B hQ hr X
  unfold f6_needs at hf
  show G E 4 0 [(0, .ref 14), (1, .int a1)] [] mm
  refine z_aload_n B 0 rfl 0 0 rfl rfl ?_
  refine z_getr 6 0 14 B 1 rfl ob_14 rfl (iX6_needs _ (List.mem_of_getElem? (i := 0) rfl)) rfl ?_
  refine z_getr 0 0 15 B 2 rfl ob_15 rfl (iX6_needs _ (List.mem_of_getElem? (i := 1) rfl)) rfl ?_
  refine z_getr 1 0 16 B 3 rfl ob_16 rfl (iX6_needs _ (List.mem_of_getElem? (i := 2) rfl)) rfl ?_
  refine z_iload_n B 4 rfl 1 1 rfl rfl ?_
  obtain ⟨r1, ec, hf⟩ := bd_e hf
  refine z_callV 17 5 [.int a1] [] [.int r1] X B 5 rfl ob_17 rfl rfl miX5_hasInner ⟨(iX6_needs _ (List.mem_of_getElem? (i := 3) rfl)), (iX6_needs _ (List.mem_of_getElem? (i := 4) rfl)), (iX6_needs _ (List.mem_of_getElem? (i := 5) rfl))⟩ (ctX5_hasInner hj ob_17 ec) ⟨Nat.le_of_ble_eq_true rfl, Nat.le_of_ble_eq_true rfl⟩ rfl rfl (Nat.le_of_ble_eq_true rfl) rfl ?_
  by_cases hc : r1 = 0
  · replace hf := (if_pos hc).symm.trans hf
    refine z_if_ne_f B 6 rfl 19 (by decide) hc ?_
    refine z_iconst (-1) B 7 rfl (by decide) ?_
    cases hf
    exact z_iret B 8 rfl rfl hQ hr
  · replace hf := (if_neg hc).symm.trans hf
    refine z_if_ne_t B 6 rfl 19 (by decide) hc ?_
    refine z_aload_n B 9 rfl 0 0 rfl rfl ?_
    refine z_getr 6 1 14 B 10 rfl ob_14 rfl (iX6_needs _ (List.mem_of_getElem? (i := 6) rfl)) rfl ?_
    refine z_getr 0 0 44 B 11 rfl ob_44 rfl (iX6_needs _ (List.mem_of_getElem? (i := 1) rfl)) rfl ?_
    refine z_aload_n B 12 rfl 0 0 rfl rfl ?_
    refine z_getr 6 0 14 B 13 rfl ob_14 rfl (iX6_needs _ (List.mem_of_getElem? (i := 0) rfl)) rfl ?_
    refine z_getr 0 0 15 B 14 rfl ob_15 rfl (iX6_needs _ (List.mem_of_getElem? (i := 1) rfl)) rfl ?_
    obtain ⟨r2, ec, hf⟩ := bd_e hf
    refine z_callV 45 1 [.ref 16] [] [] X B 15 rfl ob_45 rfl rfl miX1_copyFrom ⟨(iX6_needs _ (List.mem_of_getElem? (i := 7) rfl)), (iX6_needs _ (List.mem_of_getElem? (i := 8) rfl)), (iX6_needs _ (List.mem_of_getElem? (i := 9) rfl))⟩ (ctX1_copyFrom hj ob_45 ob_16 ec) ⟨Nat.le_of_ble_eq_true rfl, Nat.le_of_ble_eq_true rfl⟩ rfl rfl (Nat.le_of_ble_eq_true rfl) rfl ?_
    refine z_iconst 0 B 16 rfl (by decide) ?_
    refine z_istore_n [(2, .int (0 : Int32)), (0, .ref 14), (1, .int a1)] B 17 rfl 2 rfl (by decide) rfl ?_
    refine z_sipush 8192 B 18 rfl (by decide) ?_
    refine z_istore_n [(3, .int (8192 : Int32)), (2, .int (0 : Int32)), (0, .ref 14), (1, .int a1)] B 19 rfl 3 rfl (by decide) rfl ?_
    refine z_sub [(0, .ref 14), (1, .int a1), (2, .int (0 : Int32)), (3, .int (8192 : Int32))] [2, 3, 1, 0] rfl ?_
    exact f6_needs_l42_ok hj X B hQ hr FU _ _ _ _ hf
/-! ZoneCapacity.freely(I)I -/
def tbX6_freely : Tb := [(0, .aload_n 0, 1, 1), (1, .getfield 10, 3, 4), (4, .getfield 57, 3, 7), (7, .getfield 71, 3, 10), (10, .iload_n 1, 1, 11), (11, .invokevirtual 80, 3, 14), (14, .ifCond .ne 5, 3, 17), (17, .iconst (-1), 1, 18), (18, .ireturn, 1, 19), (19, .aload_n 0, 1, 20), (20, .getfield 16, 3, 23), (23, .getfield 57, 3, 26), (26, .aload_n 0, 1, 27), (27, .getfield 10, 3, 30), (30, .getfield 57, 3, 33), (33, .invokevirtual 60, 3, 36), (36, .aload_n 0, 1, 37), (37, .getfield 16, 3, 40), (40, .getfield 57, 3, 43), (43, .getfield 106, 3, 46), (46, .invokevirtual 264, 3, 49), (49, .aload_n 0, 1, 50), (50, .getfield 16, 3, 53), (53, .invokevirtual 209, 3, 56), (56, .aload_n 0, 1, 57), (57, .getfield 16, 3, 60), (60, .getfield 212, 3, 63), (63, .iload_n 1, 1, 64), (64, .invokestatic 92, 3, 67), (67, .ireturn, 1, 68)]
theorem dtX6_freely : ∀ q ∈ tbX6_freely, decode cX6_freely q.1 = .ok (q.2.1, q.2.2.1) ∧ q.1 + q.2.2.1 = q.2.2.2 := by decide +kernel
theorem miX6_freely : MI yX6_freely cX6_freely 2 (some .int) 1 := ⟨tw_mem (List.mem_of_getElem? (i := 835) (by decide +kernel)) rfl, by decide, by decide +kernel, tw_mem (List.mem_of_getElem? (i := 71) (by decide +kernel)) rfl⟩
abbrev rmX6_freely : Room := { frames := 5, cells := 0, slots := 0, locals := 123 }
def wX6_freely : List Cond := [.fieldLink "ZoneCapacity" 10 "ZoneCapacity" "now" "LZoneCapacity$Auction;", .fieldLink "ZoneCapacity" 57 "ZoneCapacity$Auction" "market" "LZoneCapacity$Market;", .fieldLink "ZoneCapacity" 71 "ZoneCapacity$Market" "zones" "LZoneCapacity$Zones;", .methodLink "ZoneCapacity" 80 yX5_has, .instanceMethod yX5_has, .selects "ZoneCapacity$Zones" yX5_has yX5_has, .fieldLink "ZoneCapacity" 16 "ZoneCapacity" "trial" "LZoneCapacity$Auction;", .methodLink "ZoneCapacity" 60 yX1_copyFrom, .instanceMethod yX1_copyFrom, .selects "ZoneCapacity$Market" yX1_copyFrom yX1_copyFrom, .fieldLink "ZoneCapacity" 106 "ZoneCapacity$Market" "offers" "LZoneCapacity$Offers;", .methodLink "ZoneCapacity" 264 yX2_dropFloors, .instanceMethod yX2_dropFloors, .selects "ZoneCapacity$Offers" yX2_dropFloors yX2_dropFloors, .methodLink "ZoneCapacity" 209 yX0_clear, .instanceMethod yX0_clear, .selects "ZoneCapacity$Auction" yX0_clear yX0_clear, .fieldLink "ZoneCapacity" 212 "ZoneCapacity$Auction" "prices" "[I", .methodLink "ZoneCapacity" 92 yX6_at, .static yX6_at]
theorem iX6_freely : ∀ w ∈ wX6_freely, w ∈ TW := tw_of (ids := [317, 222, 211, 561, 562, 563, 318, 361, 362, 363, 215, 836, 837, 838, 709, 710, 711, 224, 570, 386]) (by decide +kernel)
def f6_freely (mm : Mem) (a1 : Int32) : Option (Int32 × Mem) := bd (f5_has mm 17 a1) (fun r1 => if r1 = 0 then some ((-1 : Int32), mm) else bd (f1_copyFrom mm 45 16) (fun r2 => bd (f2_dropFloors r2 53) (fun r3 => bd (f0_clear r3 44) (fun r4 => bd (f6_at r4 64 a1) (fun r5 => some (r5, r4))))))
theorem ctX6_freely {l : Launch} {C : Cfg} (hj : Dj C) {mm : Mem} {a1 : Int32} {x : (Int32 × Mem)} (hf : f6_freely mm a1 = some x) : Ct l C yX6_freely cX6_freely 2 (some .int) 5 123 [.ref 14, .int a1] mm (some (.int x.1)) x.2 := by
  refine Ct.of (tb := tbX6_freely) hj miX6_freely.2.1 miX6_freely.1 dtX6_freely (Nat.le_of_ble_eq_true rfl) ?_
  intro E B hQ hr X
  unfold f6_freely at hf
  show G E 2 0 [(0, .ref 14), (1, .int a1)] [] mm
  refine z_aload_n B 0 rfl 0 0 rfl rfl ?_
  refine z_getr 6 0 14 B 1 rfl ob_14 rfl (iX6_freely _ (List.mem_of_getElem? (i := 0) rfl)) rfl ?_
  refine z_getr 0 0 15 B 2 rfl ob_15 rfl (iX6_freely _ (List.mem_of_getElem? (i := 1) rfl)) rfl ?_
  refine z_getr 1 0 16 B 3 rfl ob_16 rfl (iX6_freely _ (List.mem_of_getElem? (i := 2) rfl)) rfl ?_
  refine z_iload_n B 4 rfl 1 1 rfl rfl ?_
  obtain ⟨r1, ec, hf⟩ := bd_e hf
  refine z_callV 17 5 [.int a1] [] [.int r1] X B 5 rfl ob_17 rfl rfl miX5_has ⟨(iX6_freely _ (List.mem_of_getElem? (i := 3) rfl)), (iX6_freely _ (List.mem_of_getElem? (i := 4) rfl)), (iX6_freely _ (List.mem_of_getElem? (i := 5) rfl))⟩ (ctX5_has hj ob_17 ec) ⟨Nat.le_of_ble_eq_true rfl, Nat.le_of_ble_eq_true rfl⟩ rfl rfl (Nat.le_of_ble_eq_true rfl) rfl ?_
  by_cases hc : r1 = 0
  · replace hf := (if_pos hc).symm.trans hf
    refine z_if_ne_f B 6 rfl 19 (by decide) hc ?_
    refine z_iconst (-1) B 7 rfl (by decide) ?_
    cases hf
    exact z_iret B 8 rfl rfl hQ hr
  · replace hf := (if_neg hc).symm.trans hf
    refine z_if_ne_t B 6 rfl 19 (by decide) hc ?_
    refine z_aload_n B 9 rfl 0 0 rfl rfl ?_
    refine z_getr 6 1 14 B 10 rfl ob_14 rfl (iX6_freely _ (List.mem_of_getElem? (i := 6) rfl)) rfl ?_
    refine z_getr 0 0 44 B 11 rfl ob_44 rfl (iX6_freely _ (List.mem_of_getElem? (i := 1) rfl)) rfl ?_
    refine z_aload_n B 12 rfl 0 0 rfl rfl ?_
    refine z_getr 6 0 14 B 13 rfl ob_14 rfl (iX6_freely _ (List.mem_of_getElem? (i := 0) rfl)) rfl ?_
    refine z_getr 0 0 15 B 14 rfl ob_15 rfl (iX6_freely _ (List.mem_of_getElem? (i := 1) rfl)) rfl ?_
    obtain ⟨r2, ec, hf⟩ := bd_e hf
    refine z_callV 45 1 [.ref 16] [] [] X B 15 rfl ob_45 rfl rfl miX1_copyFrom ⟨(iX6_freely _ (List.mem_of_getElem? (i := 7) rfl)), (iX6_freely _ (List.mem_of_getElem? (i := 8) rfl)), (iX6_freely _ (List.mem_of_getElem? (i := 9) rfl))⟩ (ctX1_copyFrom hj ob_45 ob_16 ec) ⟨Nat.le_of_ble_eq_true rfl, Nat.le_of_ble_eq_true rfl⟩ rfl rfl (Nat.le_of_ble_eq_true rfl) rfl ?_
    refine z_aload_n B 16 rfl 0 0 rfl rfl ?_
    refine z_getr 6 1 14 B 17 rfl ob_14 rfl (iX6_freely _ (List.mem_of_getElem? (i := 6) rfl)) rfl ?_
    refine z_getr 0 0 44 B 18 rfl ob_44 rfl (iX6_freely _ (List.mem_of_getElem? (i := 1) rfl)) rfl ?_
    refine z_getr 1 1 45 B 19 rfl ob_45 rfl (iX6_freely _ (List.mem_of_getElem? (i := 10) rfl)) rfl ?_
    obtain ⟨r3, ec, hf⟩ := bd_e hf
    refine z_callV 53 2 [] [] [] X B 20 rfl ob_53 rfl rfl miX2_dropFloors ⟨(iX6_freely _ (List.mem_of_getElem? (i := 11) rfl)), (iX6_freely _ (List.mem_of_getElem? (i := 12) rfl)), (iX6_freely _ (List.mem_of_getElem? (i := 13) rfl))⟩ (ctX2_dropFloors hj ob_53 ec) ⟨Nat.le_of_ble_eq_true rfl, Nat.le_of_ble_eq_true rfl⟩ rfl rfl (Nat.le_of_ble_eq_true rfl) rfl ?_
    refine z_aload_n B 21 rfl 0 0 rfl rfl ?_
    refine z_getr 6 1 14 B 22 rfl ob_14 rfl (iX6_freely _ (List.mem_of_getElem? (i := 6) rfl)) rfl ?_
    obtain ⟨r4, ec, hf⟩ := bd_e hf
    refine z_callV 44 0 [] [] [] X B 23 rfl ob_44 rfl rfl miX0_clear ⟨(iX6_freely _ (List.mem_of_getElem? (i := 14) rfl)), (iX6_freely _ (List.mem_of_getElem? (i := 15) rfl)), (iX6_freely _ (List.mem_of_getElem? (i := 16) rfl))⟩ (ctX0_clear hj ob_44 ec) ⟨Nat.le_of_ble_eq_true rfl, Nat.le_of_ble_eq_true rfl⟩ rfl rfl (Nat.le_of_ble_eq_true rfl) rfl ?_
    refine z_aload_n B 24 rfl 0 0 rfl rfl ?_
    refine z_getr 6 1 14 B 25 rfl ob_14 rfl (iX6_freely _ (List.mem_of_getElem? (i := 6) rfl)) rfl ?_
    refine z_getr 0 1 44 B 26 rfl ob_44 rfl (iX6_freely _ (List.mem_of_getElem? (i := 17) rfl)) rfl ?_
    refine z_iload_n B 27 rfl 1 1 rfl rfl ?_
    obtain ⟨r5, ec, hf⟩ := bd_e hf
    refine z_callS [.ref 64, .int a1] [] [.int r5] X B 28 rfl miX6_at ⟨(iX6_freely _ (List.mem_of_getElem? (i := 18) rfl)), (iX6_freely _ (List.mem_of_getElem? (i := 19) rfl))⟩ (ctX6_at hj ob_64 ec) ⟨Nat.le_of_ble_eq_true rfl, Nat.le_of_ble_eq_true rfl⟩ rfl rfl (Nat.le_of_ble_eq_true rfl) rfl ?_
    cases hf
    exact z_iret B 29 rfl rfl hQ hr
/-! ZoneCapacity.gainAt(III)J -/
def tbX6_gainAt : Tb := [(0, .aload_n 0, 1, 1), (1, .getfield 16, 3, 4), (4, .getfield 57, 3, 7), (7, .getfield 106, 3, 10), (10, .astore 4, 2, 12), (12, .aload 4, 2, 14), (14, .iload_n 1, 1, 15), (15, .invokevirtual 127, 3, 18), (18, .pop, 1, 19), (19, .aload 4, 2, 21), (21, .iload_n 1, 1, 22), (22, .aload 4, 2, 24), (24, .getfield 176, 3, 27), (27, .iload_n 1, 1, 28), (28, .invokestatic 92, 3, 31), (31, .iload_n 2, 1, 32), (32, .invokevirtual 124, 3, 35), (35, .pop, 1, 36), (36, .aload_n 0, 1, 37), (37, .getfield 16, 3, 40), (40, .invokevirtual 209, 3, 43), (43, .aload 4, 2, 45), (45, .getfield 174, 3, 48), (48, .iload_n 1, 1, 49), (49, .invokestatic 92, 3, 52), (52, .istore 5, 2, 54), (54, .aload_n 0, 1, 55), (55, .getfield 16, 3, 58), (58, .iload_n 1, 1, 59), (59, .invokevirtual 221, 3, 62), (62, .i2l, 1, 63), (63, .aload_n 0, 1, 64), (64, .getfield 16, 3, 67), (67, .getfield 212, 3, 70), (70, .iload 5, 2, 72), (72, .invokestatic 92, 3, 75), (75, .iload_n 3, 1, 76), (76, .isub, 1, 77), (77, .i2l, 1, 78), (78, .lmul, 1, 79), (79, .lreturn, 1, 80)]
theorem dtX6_gainAt : ∀ q ∈ tbX6_gainAt, decode cX6_gainAt q.1 = .ok (q.2.1, q.2.2.1) ∧ q.1 + q.2.2.1 = q.2.2.2 := by decide +kernel
theorem miX6_gainAt : MI yX6_gainAt cX6_gainAt 6 (some .long) 3 := ⟨tw_mem (List.mem_of_getElem? (i := 847) (by decide +kernel)) rfl, by decide, by decide +kernel, tw_mem (List.mem_of_getElem? (i := 71) (by decide +kernel)) rfl⟩
abbrev rmX6_gainAt : Room := { frames := 5, cells := 0, slots := 0, locals := 123 }
def wX6_gainAt : List Cond := [.fieldLink "ZoneCapacity" 16 "ZoneCapacity" "trial" "LZoneCapacity$Auction;", .fieldLink "ZoneCapacity" 57 "ZoneCapacity$Auction" "market" "LZoneCapacity$Market;", .fieldLink "ZoneCapacity" 106 "ZoneCapacity$Market" "offers" "LZoneCapacity$Offers;", .methodLink "ZoneCapacity" 127 yX2_dropSteps, .instanceMethod yX2_dropSteps, .selects "ZoneCapacity$Offers" yX2_dropSteps yX2_dropSteps, .fieldLink "ZoneCapacity" 176 "ZoneCapacity$Offers" "sizes" "[I", .methodLink "ZoneCapacity" 92 yX6_at, .static yX6_at, .methodLink "ZoneCapacity" 124 yX2_addStep, .instanceMethod yX2_addStep, .selects "ZoneCapacity$Offers" yX2_addStep yX2_addStep, .methodLink "ZoneCapacity" 209 yX0_clear, .instanceMethod yX0_clear, .selects "ZoneCapacity$Auction" yX0_clear yX0_clear, .fieldLink "ZoneCapacity" 174 "ZoneCapacity$Offers" "zones" "[I", .methodLink "ZoneCapacity" 221 yX0_takenOf, .instanceMethod yX0_takenOf, .selects "ZoneCapacity$Auction" yX0_takenOf yX0_takenOf, .fieldLink "ZoneCapacity" 212 "ZoneCapacity$Auction" "prices" "[I"]
theorem iX6_gainAt : ∀ w ∈ wX6_gainAt, w ∈ TW := tw_of (ids := [318, 222, 215, 594, 520, 521, 169, 570, 386, 589, 529, 530, 709, 710, 711, 167, 751, 752, 753, 224]) (by decide +kernel)
def f6_gainAt (mm : Mem) (a1 : Int32) (a2 : Int32) (a3 : Int32) : Option (Int64 × Mem) := bd (f2_dropSteps mm 53 a1) (fun r1 => bd (f6_at r1.2 56 a1) (fun r2 => bd (f2_addStep r1.2 53 a1 r2 a2) (fun r3 => bd (f0_clear r3.2 44) (fun r4 => bd (f6_at r4 55 a1) (fun r5 => bd (f0_takenOf r4 44 a1) (fun r6 => bd (f6_at r4 64 r5) (fun r7 => some (r6.toInt64 * ((r7 - a3).toInt64), r4))))))))
theorem ctX6_gainAt {l : Launch} {C : Cfg} (hj : Dj C) {mm : Mem} {a1 : Int32} {a2 : Int32} {a3 : Int32} {x : (Int64 × Mem)} (hf : f6_gainAt mm a1 a2 a3 = some x) : Ct l C yX6_gainAt cX6_gainAt 6 (some .long) 5 123 [.ref 14, .int a1, .int a2, .int a3] mm (some (.long x.1)) x.2 := by
  refine Ct.of (tb := tbX6_gainAt) hj miX6_gainAt.2.1 miX6_gainAt.1 dtX6_gainAt (Nat.le_of_ble_eq_true rfl) ?_
  intro E B hQ hr X
  unfold f6_gainAt at hf
  show G E 6 0 [(0, .ref 14), (1, .int a1), (2, .int a2), (3, .int a3)] [] mm
  refine z_aload_n B 0 rfl 0 0 rfl rfl ?_
  refine z_getr 6 1 14 B 1 rfl ob_14 rfl (iX6_gainAt _ (List.mem_of_getElem? (i := 0) rfl)) rfl ?_
  refine z_getr 0 0 44 B 2 rfl ob_44 rfl (iX6_gainAt _ (List.mem_of_getElem? (i := 1) rfl)) rfl ?_
  refine z_getr 1 1 45 B 3 rfl ob_45 rfl (iX6_gainAt _ (List.mem_of_getElem? (i := 2) rfl)) rfl ?_
  refine z_astore [(4, .ref 53), (0, .ref 14), (1, .int a1), (2, .int a2), (3, .int a3)] B 4 rfl (by decide) rfl ?_
  refine z_aload B 5 rfl 0 rfl ?_
  refine z_iload_n B 6 rfl 1 2 rfl rfl ?_
  obtain ⟨r1, ec, hf⟩ := bd_e hf
  refine z_callV 53 2 [.int a1] [] [.int r1.1] X B 7 rfl ob_53 rfl rfl miX2_dropSteps ⟨(iX6_gainAt _ (List.mem_of_getElem? (i := 3) rfl)), (iX6_gainAt _ (List.mem_of_getElem? (i := 4) rfl)), (iX6_gainAt _ (List.mem_of_getElem? (i := 5) rfl))⟩ (ctX2_dropSteps hj ob_53 ec) ⟨Nat.le_of_ble_eq_true rfl, Nat.le_of_ble_eq_true rfl⟩ rfl rfl (Nat.le_of_ble_eq_true rfl) rfl ?_
  refine z_pop B 8 rfl rfl ?_
  refine z_aload B 9 rfl 0 rfl ?_
  refine z_iload_n B 10 rfl 1 2 rfl rfl ?_
  refine z_aload B 11 rfl 0 rfl ?_
  refine z_getr 2 4 53 B 12 rfl ob_53 rfl (iX6_gainAt _ (List.mem_of_getElem? (i := 6) rfl)) rfl ?_
  refine z_iload_n B 13 rfl 1 2 rfl rfl ?_
  obtain ⟨r2, ec, hf⟩ := bd_e hf
  refine z_callS [.ref 56, .int a1] [.int a1, .ref 53] [.int r2, .int a1, .ref 53] X B 14 rfl miX6_at ⟨(iX6_gainAt _ (List.mem_of_getElem? (i := 7) rfl)), (iX6_gainAt _ (List.mem_of_getElem? (i := 8) rfl))⟩ (ctX6_at hj ob_56 ec) ⟨Nat.le_of_ble_eq_true rfl, Nat.le_of_ble_eq_true rfl⟩ rfl rfl (Nat.le_of_ble_eq_true rfl) rfl ?_
  refine z_iload_n B 15 rfl 2 3 rfl rfl ?_
  obtain ⟨r3, ec, hf⟩ := bd_e hf
  refine z_callV 53 2 [.int a1, .int r2, .int a2] [] [.int r3.1] X B 16 rfl ob_53 rfl rfl miX2_addStep ⟨(iX6_gainAt _ (List.mem_of_getElem? (i := 9) rfl)), (iX6_gainAt _ (List.mem_of_getElem? (i := 10) rfl)), (iX6_gainAt _ (List.mem_of_getElem? (i := 11) rfl))⟩ (ctX2_addStep hj ob_53 ec) ⟨Nat.le_of_ble_eq_true rfl, Nat.le_of_ble_eq_true rfl⟩ rfl rfl (Nat.le_of_ble_eq_true rfl) rfl ?_
  refine z_pop B 17 rfl rfl ?_
  refine z_aload_n B 18 rfl 0 1 rfl rfl ?_
  refine z_getr 6 1 14 B 19 rfl ob_14 rfl (iX6_gainAt _ (List.mem_of_getElem? (i := 0) rfl)) rfl ?_
  obtain ⟨r4, ec, hf⟩ := bd_e hf
  refine z_callV 44 0 [] [] [] X B 20 rfl ob_44 rfl rfl miX0_clear ⟨(iX6_gainAt _ (List.mem_of_getElem? (i := 12) rfl)), (iX6_gainAt _ (List.mem_of_getElem? (i := 13) rfl)), (iX6_gainAt _ (List.mem_of_getElem? (i := 14) rfl))⟩ (ctX0_clear hj ob_44 ec) ⟨Nat.le_of_ble_eq_true rfl, Nat.le_of_ble_eq_true rfl⟩ rfl rfl (Nat.le_of_ble_eq_true rfl) rfl ?_
  refine z_aload B 21 rfl 0 rfl ?_
  refine z_getr 2 3 53 B 22 rfl ob_53 rfl (iX6_gainAt _ (List.mem_of_getElem? (i := 15) rfl)) rfl ?_
  refine z_iload_n B 23 rfl 1 2 rfl rfl ?_
  obtain ⟨r5, ec, hf⟩ := bd_e hf
  refine z_callS [.ref 55, .int a1] [] [.int r5] X B 24 rfl miX6_at ⟨(iX6_gainAt _ (List.mem_of_getElem? (i := 7) rfl)), (iX6_gainAt _ (List.mem_of_getElem? (i := 8) rfl))⟩ (ctX6_at hj ob_55 ec) ⟨Nat.le_of_ble_eq_true rfl, Nat.le_of_ble_eq_true rfl⟩ rfl rfl (Nat.le_of_ble_eq_true rfl) rfl ?_
  refine z_istore [(5, .int r5), (4, .ref 53), (0, .ref 14), (1, .int a1), (2, .int a2), (3, .int a3)] B 25 rfl (by decide) rfl ?_
  refine z_aload_n B 26 rfl 0 2 rfl rfl ?_
  refine z_getr 6 1 14 B 27 rfl ob_14 rfl (iX6_gainAt _ (List.mem_of_getElem? (i := 0) rfl)) rfl ?_
  refine z_iload_n B 28 rfl 1 3 rfl rfl ?_
  obtain ⟨r6, ec, hf⟩ := bd_e hf
  refine z_callV 44 0 [.int a1] [] [.int r6] X B 29 rfl ob_44 rfl rfl miX0_takenOf ⟨(iX6_gainAt _ (List.mem_of_getElem? (i := 16) rfl)), (iX6_gainAt _ (List.mem_of_getElem? (i := 17) rfl)), (iX6_gainAt _ (List.mem_of_getElem? (i := 18) rfl))⟩ (ctX0_takenOf hj ob_44 ec) ⟨Nat.le_of_ble_eq_true rfl, Nat.le_of_ble_eq_true rfl⟩ rfl rfl (Nat.le_of_ble_eq_true rfl) rfl ?_
  refine z_i2l B 30 rfl ?_
  refine z_aload_n B 31 rfl 0 2 rfl rfl ?_
  refine z_getr 6 1 14 B 32 rfl ob_14 rfl (iX6_gainAt _ (List.mem_of_getElem? (i := 0) rfl)) rfl ?_
  refine z_getr 0 1 44 B 33 rfl ob_44 rfl (iX6_gainAt _ (List.mem_of_getElem? (i := 19) rfl)) rfl ?_
  refine z_iload B 34 rfl 0 rfl ?_
  obtain ⟨r7, ec, hf⟩ := bd_e hf
  refine z_callS [.ref 64, .int r5] [.long r6.toInt64] [.int r7, .long r6.toInt64] X B 35 rfl miX6_at ⟨(iX6_gainAt _ (List.mem_of_getElem? (i := 7) rfl)), (iX6_gainAt _ (List.mem_of_getElem? (i := 8) rfl))⟩ (ctX6_at hj ob_64 ec) ⟨Nat.le_of_ble_eq_true rfl, Nat.le_of_ble_eq_true rfl⟩ rfl rfl (Nat.le_of_ble_eq_true rfl) rfl ?_
  refine z_iload_n B 36 rfl 3 5 rfl rfl ?_
  refine z_isub B 37 rfl ?_
  refine z_i2l B 38 rfl ?_
  refine z_lmul B 39 rfl ?_
  cases hf
  exact z_lret B 40 rfl hQ hr
/-! ZoneCapacity.gain(III)J -/
def tbX6_gain : Tb := [(0, .aload_n 0, 1, 1), (1, .getfield 10, 3, 4), (4, .getfield 57, 3, 7), (7, .getfield 106, 3, 10), (10, .iload_n 1, 1, 11), (11, .invokevirtual 116, 3, 14), (14, .ifCond .eq 25, 3, 17), (17, .iload_n 2, 1, 18), (18, .iconst 0, 1, 19), (19, .sipush 9999, 3, 22), (22, .invokestatic 50, 3, 25), (25, .ifCond .eq 14, 3, 28), (28, .iload_n 3, 1, 29), (29, .iconst 0, 1, 30), (30, .sipush 9999, 3, 33), (33, .invokestatic 50, 3, 36), (36, .ifCond .ne 7, 3, 39), (39, .ldc2_w 234, 3, 42), (42, .lreturn, 1, 43), (43, .aload_n 0, 1, 44), (44, .getfield 16, 3, 47), (47, .getfield 57, 3, 50), (50, .aload_n 0, 1, 51), (51, .getfield 10, 3, 54), (54, .getfield 57, 3, 57), (57, .invokevirtual 60, 3, 60), (60, .aload_n 0, 1, 61), (61, .iload_n 1, 1, 62), (62, .iload_n 2, 1, 63), (63, .iload_n 3, 1, 64), (64, .invokevirtual 267, 3, 67), (67, .lreturn, 1, 68)]
theorem dtX6_gain : ∀ q ∈ tbX6_gain, decode cX6_gain q.1 = .ok (q.2.1, q.2.2.1) ∧ q.1 + q.2.2.1 = q.2.2.2 := by decide +kernel
theorem miX6_gain : MI yX6_gain cX6_gain 4 (some .long) 3 := ⟨tw_mem (List.mem_of_getElem? (i := 843) (by decide +kernel)) rfl, by decide, by decide +kernel, tw_mem (List.mem_of_getElem? (i := 71) (by decide +kernel)) rfl⟩
abbrev rmX6_gain : Room := { frames := 6, cells := 0, slots := 0, locals := 148 }
def wX6_gain : List Cond := [.fieldLink "ZoneCapacity" 10 "ZoneCapacity" "now" "LZoneCapacity$Auction;", .fieldLink "ZoneCapacity" 57 "ZoneCapacity$Auction" "market" "LZoneCapacity$Market;", .fieldLink "ZoneCapacity" 106 "ZoneCapacity$Market" "offers" "LZoneCapacity$Offers;", .methodLink "ZoneCapacity" 116 yX2_has, .instanceMethod yX2_has, .selects "ZoneCapacity$Offers" yX2_has yX2_has, .constantLong "ZoneCapacity" 234 (-1000000000000000), .methodLink "ZoneCapacity" 50 yX6_within, .static yX6_within, .fieldLink "ZoneCapacity" 16 "ZoneCapacity" "trial" "LZoneCapacity$Auction;", .methodLink "ZoneCapacity" 60 yX1_copyFrom, .instanceMethod yX1_copyFrom, .selects "ZoneCapacity$Market" yX1_copyFrom yX1_copyFrom, .methodLink "ZoneCapacity" 267 yX6_gainAt, .instanceMethod yX6_gainAt, .selects "ZoneCapacity" yX6_gainAt yX6_gainAt]
theorem iX6_gain : ∀ w ∈ wX6_gain, w ∈ TW := tw_of (ids := [317, 222, 215, 583, 584, 585, 779, 354, 355, 318, 361, 362, 363, 844, 846, 23]) (by decide +kernel)
def f6_gain (mm : Mem) (a1 : Int32) (a2 : Int32) (a3 : Int32) : Option (Int64 × Mem) := bd (f2_has mm 24 a1) (fun r1 => if r1 = 0 then some ((-1000000000000000 : Int64), mm) else bd (f6_within mm a2 (0 : Int32) (9999 : Int32)) (fun r2 => if r2 = 0 then some ((-1000000000000000 : Int64), mm) else bd (f6_within mm a3 (0 : Int32) (9999 : Int32)) (fun r3 => if r3 = 0 then some ((-1000000000000000 : Int64), mm) else bd (f1_copyFrom mm 45 16) (fun r4 => bd (f6_gainAt r4 a1 a2 a3) (fun r5 => some (r5.1, r5.2))))))
theorem ctX6_gain {l : Launch} {C : Cfg} (hj : Dj C) {mm : Mem} {a1 : Int32} {a2 : Int32} {a3 : Int32} {x : (Int64 × Mem)} (hf : f6_gain mm a1 a2 a3 = some x) : Ct l C yX6_gain cX6_gain 4 (some .long) 6 148 [.ref 14, .int a1, .int a2, .int a3] mm (some (.long x.1)) x.2 := by
  refine Ct.of (tb := tbX6_gain) hj miX6_gain.2.1 miX6_gain.1 dtX6_gain (Nat.le_of_ble_eq_true rfl) ?_
  intro E B hQ hr X
  unfold f6_gain at hf
  show G E 4 0 [(0, .ref 14), (1, .int a1), (2, .int a2), (3, .int a3)] [] mm
  refine z_aload_n B 0 rfl 0 0 rfl rfl ?_
  refine z_getr 6 0 14 B 1 rfl ob_14 rfl (iX6_gain _ (List.mem_of_getElem? (i := 0) rfl)) rfl ?_
  refine z_getr 0 0 15 B 2 rfl ob_15 rfl (iX6_gain _ (List.mem_of_getElem? (i := 1) rfl)) rfl ?_
  refine z_getr 1 1 16 B 3 rfl ob_16 rfl (iX6_gain _ (List.mem_of_getElem? (i := 2) rfl)) rfl ?_
  refine z_iload_n B 4 rfl 1 1 rfl rfl ?_
  obtain ⟨r1, ec, hf⟩ := bd_e hf
  refine z_callV 24 2 [.int a1] [] [.int r1] X B 5 rfl ob_24 rfl rfl miX2_has ⟨(iX6_gain _ (List.mem_of_getElem? (i := 3) rfl)), (iX6_gain _ (List.mem_of_getElem? (i := 4) rfl)), (iX6_gain _ (List.mem_of_getElem? (i := 5) rfl))⟩ (ctX2_has hj ob_24 ec) ⟨Nat.le_of_ble_eq_true rfl, Nat.le_of_ble_eq_true rfl⟩ rfl rfl (Nat.le_of_ble_eq_true rfl) rfl ?_
  by_cases hc : r1 = 0
  · replace hf := (if_pos hc).symm.trans hf
    refine z_if_eq_t B 6 rfl 39 (by decide) hc ?_
    refine z_ldc2 (-1000000000000000) B 17 rfl (iX6_gain _ (List.mem_of_getElem? (i := 6) rfl)) ?_
    cases hf
    exact z_lret B 18 rfl hQ hr
  · replace hf := (if_neg hc).symm.trans hf
    refine z_if_eq_f B 6 rfl 39 (by decide) hc ?_
    refine z_iload_n B 7 rfl 2 2 rfl rfl ?_
    refine z_iconst 0 B 8 rfl (by decide) ?_
    refine z_sipush 9999 B 9 rfl (by decide) ?_
    obtain ⟨r2, ec, hf⟩ := bd_e hf
    refine z_callS [.int a2, .int (0 : Int32), .int (9999 : Int32)] [] [.int r2] X B 10 rfl miX6_within ⟨(iX6_gain _ (List.mem_of_getElem? (i := 7) rfl)), (iX6_gain _ (List.mem_of_getElem? (i := 8) rfl))⟩ (ctX6_within hj ec) ⟨Nat.le_of_ble_eq_true rfl, Nat.le_of_ble_eq_true rfl⟩ rfl rfl (Nat.le_of_ble_eq_true rfl) rfl ?_
    by_cases hc : r2 = 0
    · replace hf := (if_pos hc).symm.trans hf
      refine z_if_eq_t B 11 rfl 39 (by decide) hc ?_
      refine z_ldc2 (-1000000000000000) B 17 rfl (iX6_gain _ (List.mem_of_getElem? (i := 6) rfl)) ?_
      cases hf
      exact z_lret B 18 rfl hQ hr
    · replace hf := (if_neg hc).symm.trans hf
      refine z_if_eq_f B 11 rfl 39 (by decide) hc ?_
      refine z_iload_n B 12 rfl 3 3 rfl rfl ?_
      refine z_iconst 0 B 13 rfl (by decide) ?_
      refine z_sipush 9999 B 14 rfl (by decide) ?_
      obtain ⟨r3, ec, hf⟩ := bd_e hf
      refine z_callS [.int a3, .int (0 : Int32), .int (9999 : Int32)] [] [.int r3] X B 15 rfl miX6_within ⟨(iX6_gain _ (List.mem_of_getElem? (i := 7) rfl)), (iX6_gain _ (List.mem_of_getElem? (i := 8) rfl))⟩ (ctX6_within hj ec) ⟨Nat.le_of_ble_eq_true rfl, Nat.le_of_ble_eq_true rfl⟩ rfl rfl (Nat.le_of_ble_eq_true rfl) rfl ?_
      by_cases hc : r3 = 0
      · replace hf := (if_pos hc).symm.trans hf
        refine z_if_ne_f B 16 rfl 43 (by decide) hc ?_
        refine z_ldc2 (-1000000000000000) B 17 rfl (iX6_gain _ (List.mem_of_getElem? (i := 6) rfl)) ?_
        cases hf
        exact z_lret B 18 rfl hQ hr
      · replace hf := (if_neg hc).symm.trans hf
        refine z_if_ne_t B 16 rfl 43 (by decide) hc ?_
        refine z_aload_n B 19 rfl 0 0 rfl rfl ?_
        refine z_getr 6 1 14 B 20 rfl ob_14 rfl (iX6_gain _ (List.mem_of_getElem? (i := 9) rfl)) rfl ?_
        refine z_getr 0 0 44 B 21 rfl ob_44 rfl (iX6_gain _ (List.mem_of_getElem? (i := 1) rfl)) rfl ?_
        refine z_aload_n B 22 rfl 0 0 rfl rfl ?_
        refine z_getr 6 0 14 B 23 rfl ob_14 rfl (iX6_gain _ (List.mem_of_getElem? (i := 0) rfl)) rfl ?_
        refine z_getr 0 0 15 B 24 rfl ob_15 rfl (iX6_gain _ (List.mem_of_getElem? (i := 1) rfl)) rfl ?_
        obtain ⟨r4, ec, hf⟩ := bd_e hf
        refine z_callV 45 1 [.ref 16] [] [] X B 25 rfl ob_45 rfl rfl miX1_copyFrom ⟨(iX6_gain _ (List.mem_of_getElem? (i := 10) rfl)), (iX6_gain _ (List.mem_of_getElem? (i := 11) rfl)), (iX6_gain _ (List.mem_of_getElem? (i := 12) rfl))⟩ (ctX1_copyFrom hj ob_45 ob_16 ec) ⟨Nat.le_of_ble_eq_true rfl, Nat.le_of_ble_eq_true rfl⟩ rfl rfl (Nat.le_of_ble_eq_true rfl) rfl ?_
        refine z_aload_n B 26 rfl 0 0 rfl rfl ?_
        refine z_iload_n B 27 rfl 1 1 rfl rfl ?_
        refine z_iload_n B 28 rfl 2 2 rfl rfl ?_
        refine z_iload_n B 29 rfl 3 3 rfl rfl ?_
        obtain ⟨r5, ec, hf⟩ := bd_e hf
        refine z_callV 14 6 [.int a1, .int a2, .int a3] [] [.long r5.1] X B 30 rfl ob_14 rfl rfl miX6_gainAt ⟨(iX6_gain _ (List.mem_of_getElem? (i := 13) rfl)), (iX6_gain _ (List.mem_of_getElem? (i := 14) rfl)), (iX6_gain _ (List.mem_of_getElem? (i := 15) rfl))⟩ (ctX6_gainAt hj ec) ⟨Nat.le_of_ble_eq_true rfl, Nat.le_of_ble_eq_true rfl⟩ rfl rfl (Nat.le_of_ble_eq_true rfl) rfl ?_
        cases hf
        exact z_lret B 31 rfl hQ hr
/-! ZoneCapacity.best(II)I -/
def tbX6_best : Tb := [(0, .aload_n 0, 1, 1), (1, .getfield 10, 3, 4), (4, .getfield 57, 3, 7), (7, .getfield 106, 3, 10), (10, .iload_n 1, 1, 11), (11, .invokevirtual 116, 3, 14), (14, .ifCond .eq 14, 3, 17), (17, .iload_n 2, 1, 18), (18, .iconst 0, 1, 19), (19, .sipush 9999, 3, 22), (22, .invokestatic 50, 3, 25), (25, .ifCond .ne 5, 3, 28), (28, .iconst (-1), 1, 29), (29, .ireturn, 1, 30), (30, .aload_n 0, 1, 31), (31, .getfield 16, 3, 34), (34, .getfield 57, 3, 37), (37, .aload_n 0, 1, 38), (38, .getfield 10, 3, 41), (41, .getfield 57, 3, 44), (44, .invokevirtual 60, 3, 47), (47, .iconst 0, 1, 48), (48, .istore_n 3, 1, 49), (49, .aload_n 0, 1, 50), (50, .iload_n 1, 1, 51), (51, .iconst 0, 1, 52), (52, .iload_n 2, 1, 53), (53, .invokevirtual 267, 3, 56), (56, .lstore 4, 2, 58), (58, .bipush 25, 2, 60), (60, .istore 6, 2, 62), (62, .iload 6, 2, 64), (64, .sipush 2500, 3, 67), (67, .if_icmp .gt 34, 3, 70), (70, .aload_n 0, 1, 71), (71, .iload_n 1, 1, 72), (72, .iload 6, 2, 74), (74, .iload_n 2, 1, 75), (75, .invokevirtual 267, 3, 78), (78, .lstore 7, 2, 80), (80, .lload 7, 2, 82), (82, .lload 4, 2, 84), (84, .lcmp, 1, 85), (85, .ifCond .le 10, 3, 88), (88, .lload 7, 2, 90), (90, .lstore 4, 2, 92), (92, .iload 6, 2, 94), (94, .istore_n 3, 1, 95), (95, .iinc 6 25, 3, 98), (98, .goto (-36), 3, 101), (101, .iload_n 3, 1, 102), (102, .ireturn, 1, 103)]
theorem dtX6_best : ∀ q ∈ tbX6_best, decode cX6_best q.1 = .ok (q.2.1, q.2.2.1) ∧ q.1 + q.2.2.1 = q.2.2.2 := by decide +kernel
theorem miX6_best : MI yX6_best cX6_best 9 (some .int) 2 := ⟨tw_mem (List.mem_of_getElem? (i := 851) (by decide +kernel)) rfl, by decide, by decide +kernel, tw_mem (List.mem_of_getElem? (i := 71) (by decide +kernel)) rfl⟩
abbrev rmX6_best : Room := { frames := 6, cells := 0, slots := 0, locals := 148 }
def wX6_best : List Cond := [.fieldLink "ZoneCapacity" 10 "ZoneCapacity" "now" "LZoneCapacity$Auction;", .fieldLink "ZoneCapacity" 57 "ZoneCapacity$Auction" "market" "LZoneCapacity$Market;", .fieldLink "ZoneCapacity" 106 "ZoneCapacity$Market" "offers" "LZoneCapacity$Offers;", .methodLink "ZoneCapacity" 116 yX2_has, .instanceMethod yX2_has, .selects "ZoneCapacity$Offers" yX2_has yX2_has, .methodLink "ZoneCapacity" 50 yX6_within, .static yX6_within, .fieldLink "ZoneCapacity" 16 "ZoneCapacity" "trial" "LZoneCapacity$Auction;", .methodLink "ZoneCapacity" 60 yX1_copyFrom, .instanceMethod yX1_copyFrom, .selects "ZoneCapacity$Market" yX1_copyFrom yX1_copyFrom, .methodLink "ZoneCapacity" 267 yX6_gainAt, .instanceMethod yX6_gainAt, .selects "ZoneCapacity" yX6_gainAt yX6_gainAt]
theorem iX6_best : ∀ w ∈ wX6_best, w ∈ TW := tw_of (ids := [317, 222, 215, 583, 584, 585, 354, 355, 318, 361, 362, 363, 844, 846, 23]) (by decide +kernel)
def f6_best_j95 (k62 : Int32 → Int32 → Int32 → Int64 → Int32 → Mem → Option (Int32 × Mem)) (x1 : Int32) (x2 : Int32) (x3 : Int32) (x4 : Int64) (x6 : Int32) (mm : Mem) : Option (Int32 × Mem) := nm (x6 + 25) (fun v6 => k62 x1 x2 x3 x4 v6 mm)
theorem f6_best_j95_ok {E : Ev} {l : Launch} {C : Cfg} {x : (Int32 × Mem)} {k62 : Int32 → Int32 → Int32 → Int64 → Int32 → Mem → Option (Int32 × Mem)} (hj : Dj C) (X : Ec E l C rmX6_best) (B : Bx E RX6 tbX6_best 9 (some .int)) (hQ : Rt E) (hr : Rs E (some (.int x.1)) x.2) (hk62 : ∀ (x1 : Int32) (x2 : Int32) (x3 : Int32) (x4 : Int64) (x6 : Int32) (mm : Mem), k62 x1 x2 x3 x4 x6 mm = some x → G E 9 62 [(0, .ref 14), (1, .int x1), (2, .int x2), (3, .int x3), (4, .long x4), (6, .int x6)] [] mm) (x1 : Int32) (x2 : Int32) (x3 : Int32) (x4 : Int64) (x6 : Int32) (mm : Mem) (hf : f6_best_j95 k62 x1 x2 x3 x4 x6 mm = some x) : G E 9 95 [(0, .ref 14), (1, .int x1), (2, .int x2), (3, .int x3), (4, .long x4), (6, .int x6)] [] mm := by
  unfold f6_best_j95 at hf
  obtain ⟨v6, ex, hf⟩ := nm_x hf
  refine z_iinc v6 [(6, .int v6), (0, .ref 14), (1, .int x1), (2, .int x2), (3, .int x3), (4, .long x4)] B 48 rfl 5 rfl (ex.symm) (by decide) rfl ?_
  refine z_goto B 49 rfl 62 (by decide) ?_
  refine z_sub [(0, .ref 14), (1, .int x1), (2, .int x2), (3, .int x3), (4, .long x4), (6, .int v6)] [1, 2, 3, 4, 5, 0] rfl ?_
  exact hk62 _ _ _ _ _ _ hf
def f6_best_l62 : Nat → Int32 → Int32 → Int32 → Int64 → Int32 → Mem → Option (Int32 × Mem)
  | 0, _, _, _, _, _, _ => none
  | n + 1, x1, x2, x3, x4, x6, mm => if (2500 : Int32) < x6 then some (x3, mm) else bd (f6_gainAt mm x1 x6 x2) (fun r5 => if 0 < (lg_cmp r5.1 x4) then f6_best_j95 (fun x1 x2 x3 x4 x6 mm => f6_best_l62 n x1 x2 x3 x4 x6 mm) x1 x2 x6 r5.1 x6 r5.2 else f6_best_j95 (fun x1 x2 x3 x4 x6 mm => f6_best_l62 n x1 x2 x3 x4 x6 mm) x1 x2 x3 x4 x6 r5.2)
theorem f6_best_l62_ok {E : Ev} {l : Launch} {C : Cfg} {x : (Int32 × Mem)} (hj : Dj C) (X : Ec E l C rmX6_best) (B : Bx E RX6 tbX6_best 9 (some .int)) (hQ : Rt E) (hr : Rs E (some (.int x.1)) x.2) (n : Nat) : ∀ (x1 : Int32) (x2 : Int32) (x3 : Int32) (x4 : Int64) (x6 : Int32) (mm : Mem), f6_best_l62 n x1 x2 x3 x4 x6 mm = some x → G E 9 62 [(0, .ref 14), (1, .int x1), (2, .int x2), (3, .int x3), (4, .long x4), (6, .int x6)] [] mm := by
  induction n with
  | zero =>
    intro x1 x2 x3 x4 x6 mm hf
    rw [f6_best_l62] at hf
    cases hf
  | succ n ih =>
    intro x1 x2 x3 x4 x6 mm hf
    rw [f6_best_l62] at hf
    refine z_iload B 31 rfl 5 rfl ?_
    refine z_sipush 2500 B 32 rfl (by decide) ?_
    by_cases hc : (2500 : Int32) < x6
    · replace hf := (if_pos hc).symm.trans hf
      refine z_icmp_gt_t B 33 rfl 101 (by decide) hc ?_
      refine z_iload_n B 50 rfl 3 3 rfl rfl ?_
      cases hf
      exact z_iret B 51 rfl rfl hQ hr
    · replace hf := (if_neg hc).symm.trans hf
      refine z_icmp_gt_f B 33 rfl 101 (by decide) hc ?_
      refine z_aload_n B 34 rfl 0 0 rfl rfl ?_
      refine z_iload_n B 35 rfl 1 1 rfl rfl ?_
      refine z_iload B 36 rfl 5 rfl ?_
      refine z_iload_n B 37 rfl 2 2 rfl rfl ?_
      obtain ⟨r5, ec, hf⟩ := bd_e hf
      refine z_callV 14 6 [.int x1, .int x6, .int x2] [] [.long r5.1] X B 38 rfl ob_14 rfl rfl miX6_gainAt ⟨(iX6_best _ (List.mem_of_getElem? (i := 12) rfl)), (iX6_best _ (List.mem_of_getElem? (i := 13) rfl)), (iX6_best _ (List.mem_of_getElem? (i := 14) rfl))⟩ (ctX6_gainAt hj ec) ⟨Nat.le_of_ble_eq_true rfl, Nat.le_of_ble_eq_true rfl⟩ rfl rfl (Nat.le_of_ble_eq_true rfl) rfl ?_
      refine z_lstore [(7, .long r5.1), (0, .ref 14), (1, .int x1), (2, .int x2), (3, .int x3), (4, .long x4), (6, .int x6)] B 39 rfl (by decide) rfl ?_
      refine z_lload B 40 rfl 0 rfl ?_
      refine z_lload B 41 rfl 5 rfl ?_
      refine z_lcmp B 42 rfl ?_
      by_cases hc : 0 < (lg_cmp r5.1 x4)
      · replace hf := (if_pos hc).symm.trans hf
        refine z_if_le_f B 43 rfl 95 (by decide) hc ?_
        refine z_lload B 44 rfl 0 rfl ?_
        refine z_lstore [(4, .long r5.1), (7, .long r5.1), (0, .ref 14), (1, .int x1), (2, .int x2), (3, .int x3), (6, .int x6)] B 45 rfl (by decide) rfl ?_
        refine z_iload B 46 rfl 6 rfl ?_
        refine z_istore_n [(3, .int x6), (4, .long r5.1), (7, .long r5.1), (0, .ref 14), (1, .int x1), (2, .int x2), (6, .int x6)] B 47 rfl 3 rfl (by decide) rfl ?_
        refine z_sub [(0, .ref 14), (1, .int x1), (2, .int x2), (3, .int x6), (4, .long r5.1), (6, .int x6)] [3, 4, 5, 0, 1, 6] rfl ?_
        exact f6_best_j95_ok hj X B hQ hr ih _ _ _ _ _ _ hf
      · replace hf := (if_neg hc).symm.trans hf
        refine z_if_le_t B 43 rfl 95 (by decide) hc ?_
        refine z_sub [(0, .ref 14), (1, .int x1), (2, .int x2), (3, .int x3), (4, .long x4), (6, .int x6)] [1, 2, 3, 4, 5, 6] rfl ?_
        exact f6_best_j95_ok hj X B hQ hr ih _ _ _ _ _ _ hf
def f6_best (mm : Mem) (a1 : Int32) (a2 : Int32) : Option (Int32 × Mem) := bd (f2_has mm 24 a1) (fun r1 => if r1 = 0 then some ((-1 : Int32), mm) else bd (f6_within mm a2 (0 : Int32) (9999 : Int32)) (fun r2 => if r2 = 0 then some ((-1 : Int32), mm) else bd (f1_copyFrom mm 45 16) (fun r3 => bd (f6_gainAt r3 a1 (0 : Int32) a2) (fun r4 => f6_best_l62 FU a1 a2 (0 : Int32) r4.1 (25 : Int32) r4.2))))
theorem ctX6_best {l : Launch} {C : Cfg} (hj : Dj C) {mm : Mem} {a1 : Int32} {a2 : Int32} {x : (Int32 × Mem)} (hf : f6_best mm a1 a2 = some x) : Ct l C yX6_best cX6_best 9 (some .int) 6 148 [.ref 14, .int a1, .int a2] mm (some (.int x.1)) x.2 := by
  refine Ct.of (tb := tbX6_best) hj miX6_best.2.1 miX6_best.1 dtX6_best (Nat.le_of_ble_eq_true rfl) ?_
  intro E B hQ hr X
  unfold f6_best at hf
  show G E 9 0 [(0, .ref 14), (1, .int a1), (2, .int a2)] [] mm
  refine z_aload_n B 0 rfl 0 0 rfl rfl ?_
  refine z_getr 6 0 14 B 1 rfl ob_14 rfl (iX6_best _ (List.mem_of_getElem? (i := 0) rfl)) rfl ?_
  refine z_getr 0 0 15 B 2 rfl ob_15 rfl (iX6_best _ (List.mem_of_getElem? (i := 1) rfl)) rfl ?_
  refine z_getr 1 1 16 B 3 rfl ob_16 rfl (iX6_best _ (List.mem_of_getElem? (i := 2) rfl)) rfl ?_
  refine z_iload_n B 4 rfl 1 1 rfl rfl ?_
  obtain ⟨r1, ec, hf⟩ := bd_e hf
  refine z_callV 24 2 [.int a1] [] [.int r1] X B 5 rfl ob_24 rfl rfl miX2_has ⟨(iX6_best _ (List.mem_of_getElem? (i := 3) rfl)), (iX6_best _ (List.mem_of_getElem? (i := 4) rfl)), (iX6_best _ (List.mem_of_getElem? (i := 5) rfl))⟩ (ctX2_has hj ob_24 ec) ⟨Nat.le_of_ble_eq_true rfl, Nat.le_of_ble_eq_true rfl⟩ rfl rfl (Nat.le_of_ble_eq_true rfl) rfl ?_
  by_cases hc : r1 = 0
  · replace hf := (if_pos hc).symm.trans hf
    refine z_if_eq_t B 6 rfl 28 (by decide) hc ?_
    refine z_iconst (-1) B 12 rfl (by decide) ?_
    cases hf
    exact z_iret B 13 rfl rfl hQ hr
  · replace hf := (if_neg hc).symm.trans hf
    refine z_if_eq_f B 6 rfl 28 (by decide) hc ?_
    refine z_iload_n B 7 rfl 2 2 rfl rfl ?_
    refine z_iconst 0 B 8 rfl (by decide) ?_
    refine z_sipush 9999 B 9 rfl (by decide) ?_
    obtain ⟨r2, ec, hf⟩ := bd_e hf
    refine z_callS [.int a2, .int (0 : Int32), .int (9999 : Int32)] [] [.int r2] X B 10 rfl miX6_within ⟨(iX6_best _ (List.mem_of_getElem? (i := 6) rfl)), (iX6_best _ (List.mem_of_getElem? (i := 7) rfl))⟩ (ctX6_within hj ec) ⟨Nat.le_of_ble_eq_true rfl, Nat.le_of_ble_eq_true rfl⟩ rfl rfl (Nat.le_of_ble_eq_true rfl) rfl ?_
    by_cases hc : r2 = 0
    · replace hf := (if_pos hc).symm.trans hf
      refine z_if_ne_f B 11 rfl 30 (by decide) hc ?_
      refine z_iconst (-1) B 12 rfl (by decide) ?_
      cases hf
      exact z_iret B 13 rfl rfl hQ hr
    · replace hf := (if_neg hc).symm.trans hf
      refine z_if_ne_t B 11 rfl 30 (by decide) hc ?_
      refine z_aload_n B 14 rfl 0 0 rfl rfl ?_
      refine z_getr 6 1 14 B 15 rfl ob_14 rfl (iX6_best _ (List.mem_of_getElem? (i := 8) rfl)) rfl ?_
      refine z_getr 0 0 44 B 16 rfl ob_44 rfl (iX6_best _ (List.mem_of_getElem? (i := 1) rfl)) rfl ?_
      refine z_aload_n B 17 rfl 0 0 rfl rfl ?_
      refine z_getr 6 0 14 B 18 rfl ob_14 rfl (iX6_best _ (List.mem_of_getElem? (i := 0) rfl)) rfl ?_
      refine z_getr 0 0 15 B 19 rfl ob_15 rfl (iX6_best _ (List.mem_of_getElem? (i := 1) rfl)) rfl ?_
      obtain ⟨r3, ec, hf⟩ := bd_e hf
      refine z_callV 45 1 [.ref 16] [] [] X B 20 rfl ob_45 rfl rfl miX1_copyFrom ⟨(iX6_best _ (List.mem_of_getElem? (i := 9) rfl)), (iX6_best _ (List.mem_of_getElem? (i := 10) rfl)), (iX6_best _ (List.mem_of_getElem? (i := 11) rfl))⟩ (ctX1_copyFrom hj ob_45 ob_16 ec) ⟨Nat.le_of_ble_eq_true rfl, Nat.le_of_ble_eq_true rfl⟩ rfl rfl (Nat.le_of_ble_eq_true rfl) rfl ?_
      refine z_iconst 0 B 21 rfl (by decide) ?_
      refine z_istore_n [(3, .int (0 : Int32)), (0, .ref 14), (1, .int a1), (2, .int a2)] B 22 rfl 3 rfl (by decide) rfl ?_
      refine z_aload_n B 23 rfl 0 1 rfl rfl ?_
      refine z_iload_n B 24 rfl 1 2 rfl rfl ?_
      refine z_iconst 0 B 25 rfl (by decide) ?_
      refine z_iload_n B 26 rfl 2 3 rfl rfl ?_
      obtain ⟨r4, ec, hf⟩ := bd_e hf
      refine z_callV 14 6 [.int a1, .int (0 : Int32), .int a2] [] [.long r4.1] X B 27 rfl ob_14 rfl rfl miX6_gainAt ⟨(iX6_best _ (List.mem_of_getElem? (i := 12) rfl)), (iX6_best _ (List.mem_of_getElem? (i := 13) rfl)), (iX6_best _ (List.mem_of_getElem? (i := 14) rfl))⟩ (ctX6_gainAt hj ec) ⟨Nat.le_of_ble_eq_true rfl, Nat.le_of_ble_eq_true rfl⟩ rfl rfl (Nat.le_of_ble_eq_true rfl) rfl ?_
      refine z_lstore [(4, .long r4.1), (3, .int (0 : Int32)), (0, .ref 14), (1, .int a1), (2, .int a2)] B 28 rfl (by decide) rfl ?_
      refine z_bipush 25 B 29 rfl (by decide) ?_
      refine z_istore [(6, .int (25 : Int32)), (4, .long r4.1), (3, .int (0 : Int32)), (0, .ref 14), (1, .int a1), (2, .int a2)] B 30 rfl (by decide) rfl ?_
      refine z_sub [(0, .ref 14), (1, .int a1), (2, .int a2), (3, .int (0 : Int32)), (4, .long r4.1), (6, .int (25 : Int32))] [3, 4, 5, 2, 1, 0] rfl ?_
      exact f6_best_l62_ok hj X B hQ hr FU _ _ _ _ _ _ hf
/-! ZoneCapacityModel.thrown()I -/
def tbX7_thrown : Tb := [(0, .aload_n 0, 1, 1), (1, .getfield 50, 3, 4), (4, .ireturn, 1, 5)]
theorem dtX7_thrown : ∀ q ∈ tbX7_thrown, decode cX7_thrown q.1 = .ok (q.2.1, q.2.2.1) ∧ q.1 + q.2.2.1 = q.2.2.2 := by decide +kernel
theorem miX7_thrown : MI yX7_thrown cX7_thrown 1 (some .int) 0 := ⟨tw_mem (List.mem_of_getElem? (i := 1012) (by decide +kernel)) rfl, by decide, by decide +kernel, tw_mem (List.mem_of_getElem? (i := 78) (by decide +kernel)) rfl⟩
abbrev rmX7_thrown : Room := { frames := 0, cells := 0, slots := 0, locals := 0 }
def wX7_thrown : List Cond := [.fieldLink "ZoneCapacityModel" 50 "ZoneCapacityModel" "raised" "I"]
theorem iX7_thrown : ∀ w ∈ wX7_thrown, w ∈ TW := tw_of (ids := [938]) (by decide +kernel)
def f7_thrown (mm : Mem) : Option Int32 := some (mm 0 0)
theorem ctX7_thrown {l : Launch} {C : Cfg} (hj : Dj C) {mm : Mem} {x : Int32} (hf : f7_thrown mm = some x) : Ct l C yX7_thrown cX7_thrown 1 (some .int) 0 0 [.ref 0] mm (some (.int x)) mm := by
  refine Ct.of (tb := tbX7_thrown) hj miX7_thrown.2.1 miX7_thrown.1 dtX7_thrown (Nat.le_of_ble_eq_true rfl) ?_
  intro E B hQ hr X
  unfold f7_thrown at hf
  show G E 1 0 [(0, .ref 0)] [] mm
  refine z_aload_n B 0 rfl 0 0 rfl rfl ?_
  refine z_geti 7 0 0 B 1 rfl ob_0 rfl (iX7_thrown _ (List.mem_of_getElem? (i := 0) rfl)) rfl ?_
  cases hf
  exact z_iret B 2 rfl rfl hQ hr
/-! ZoneCapacityModel.in(III)Z -/
def tbX7_in : Tb := [(0, .iload_n 0, 1, 1), (1, .iload_n 1, 1, 2), (2, .if_icmp .lt 12, 3, 5), (5, .iload_n 0, 1, 6), (6, .iload_n 2, 1, 7), (7, .if_icmp .gt 7, 3, 10), (10, .iconst 1, 1, 11), (11, .goto 4, 3, 14), (14, .iconst 0, 1, 15), (15, .ireturn, 1, 16)]
theorem dtX7_in : ∀ q ∈ tbX7_in, decode cX7_in q.1 = .ok (q.2.1, q.2.2.1) ∧ q.1 + q.2.2.1 = q.2.2.2 := by decide +kernel
theorem miX7_in : MI yX7_in cX7_in 3 (some .boolean) 3 := ⟨tw_mem (List.mem_of_getElem? (i := 1023) (by decide +kernel)) rfl, by decide, by decide +kernel, tw_mem (List.mem_of_getElem? (i := 78) (by decide +kernel)) rfl⟩
abbrev rmX7_in : Room := { frames := 0, cells := 0, slots := 0, locals := 0 }
def f7_in (mm : Mem) (a0 : Int32) (a1 : Int32) (a2 : Int32) : Option Int32 := if a0 < a1 then some ((0 : Int32)) else if a2 < a0 then some ((0 : Int32)) else some ((1 : Int32))
theorem ctX7_in {l : Launch} {C : Cfg} (hj : Dj C) {mm : Mem} {a0 : Int32} {a1 : Int32} {a2 : Int32} {x : Int32} (hf : f7_in mm a0 a1 a2 = some x) : Ct l C yX7_in cX7_in 3 (some .boolean) 0 0 [.int a0, .int a1, .int a2] mm (some (.int x)) mm := by
  refine Ct.of (tb := tbX7_in) hj miX7_in.2.1 miX7_in.1 dtX7_in (Nat.le_of_ble_eq_true rfl) ?_
  intro E B hQ hr X
  unfold f7_in at hf
  show G E 3 0 [(0, .int a0), (1, .int a1), (2, .int a2)] [] mm
  refine z_iload_n B 0 rfl 0 0 rfl rfl ?_
  refine z_iload_n B 1 rfl 1 1 rfl rfl ?_
  by_cases hc : a0 < a1
  · replace hf := (if_pos hc).symm.trans hf
    refine z_icmp_lt_t B 2 rfl 14 (by decide) hc ?_
    refine z_iconst 0 B 8 rfl (by decide) ?_
    cases hf
    exact z_iret B 9 rfl (by decide) hQ hr
  · replace hf := (if_neg hc).symm.trans hf
    refine z_icmp_lt_f B 2 rfl 14 (by decide) hc ?_
    refine z_iload_n B 3 rfl 0 0 rfl rfl ?_
    refine z_iload_n B 4 rfl 2 2 rfl rfl ?_
    by_cases hc : a2 < a0
    · replace hf := (if_pos hc).symm.trans hf
      refine z_icmp_gt_t B 5 rfl 14 (by decide) hc ?_
      refine z_iconst 0 B 8 rfl (by decide) ?_
      cases hf
      exact z_iret B 9 rfl (by decide) hQ hr
    · replace hf := (if_neg hc).symm.trans hf
      refine z_icmp_gt_f B 5 rfl 14 (by decide) hc ?_
      refine z_iconst 1 B 6 rfl (by decide) ?_
      refine z_goto B 7 rfl 15 (by decide) ?_
      cases hf
      exact z_iret B 9 rfl (by decide) hQ hr
/-! ZoneCapacityModel.isZone(I)Z -/
def tbX7_isZone : Tb := [(0, .iload_n 1, 1, 1), (1, .iconst 0, 1, 2), (2, .aload_n 0, 1, 3), (3, .getfield 7, 3, 6), (6, .iconst 0, 1, 7), (7, .iaload, 1, 8), (8, .iconst 1, 1, 9), (9, .isub, 1, 10), (10, .invokestatic 54, 3, 13), (13, .ireturn, 1, 14)]
theorem dtX7_isZone : ∀ q ∈ tbX7_isZone, decode cX7_isZone q.1 = .ok (q.2.1, q.2.2.1) ∧ q.1 + q.2.2.1 = q.2.2.2 := by decide +kernel
theorem miX7_isZone : MI yX7_isZone cX7_isZone 2 (some .boolean) 1 := ⟨tw_mem (List.mem_of_getElem? (i := 1020) (by decide +kernel)) rfl, by decide, by decide +kernel, tw_mem (List.mem_of_getElem? (i := 78) (by decide +kernel)) rfl⟩
abbrev rmX7_isZone : Room := { frames := 1, cells := 0, slots := 0, locals := 22 }
def wX7_isZone : List Cond := [.fieldLink "ZoneCapacityModel" 7 "ZoneCapacityModel" "w" "[I", .methodLink "ZoneCapacityModel" 54 yX7_in, .static yX7_in]
theorem iX7_isZone : ∀ w ∈ wX7_isZone, w ∈ TW := tw_of (ids := [939, 1021, 1022]) (by decide +kernel)
def f7_isZone (mm : Mem) (a1 : Int32) : Option Int32 := rdc 1 (0 : Int32) (nm (mm 1 (0 : Int32).toNatClampNeg) (fun v1 => bd (f7_in mm a1 (0 : Int32) (v1 - (1 : Int32))) (fun r2 => bok r2 (some (r2)))))
theorem ctX7_isZone {l : Launch} {C : Cfg} (hj : Dj C) {mm : Mem} {a1 : Int32} {x : Int32} (hf : f7_isZone mm a1 = some x) : Ct l C yX7_isZone cX7_isZone 2 (some .boolean) 1 22 [.ref 0, .int a1] mm (some (.int x)) mm := by
  refine Ct.of (tb := tbX7_isZone) hj miX7_isZone.2.1 miX7_isZone.1 dtX7_isZone (Nat.le_of_ble_eq_true rfl) ?_
  intro E B hQ hr X
  unfold f7_isZone at hf
  show G E 2 0 [(0, .ref 0), (1, .int a1)] [] mm
  refine z_iload_n B 0 rfl 1 1 rfl rfl ?_
  refine z_iconst 0 B 1 rfl (by decide) ?_
  refine z_aload_n B 2 rfl 0 0 rfl rfl ?_
  refine z_getr 7 1 0 B 3 rfl ob_0 rfl (iX7_isZone _ (List.mem_of_getElem? (i := 0) rfl)) rfl ?_
  refine z_iconst 0 B 4 rfl (by decide) ?_
  obtain ⟨hx, hf⟩ := rdc_e hf
  refine z_iald B 5 rfl ob_1 hx ?_
  obtain ⟨v1, ex, hf⟩ := nm_x hf
  refine z_top ex ?_
  refine z_iconst 1 B 6 rfl (by decide) ?_
  refine z_isub B 7 rfl ?_
  obtain ⟨r2, ec, hf⟩ := bd_e hf
  refine z_callS [.int a1, .int (0 : Int32), .int (v1 - (1 : Int32))] [] [.int r2] X B 8 rfl miX7_in ⟨(iX7_isZone _ (List.mem_of_getElem? (i := 1) rfl)), (iX7_isZone _ (List.mem_of_getElem? (i := 2) rfl))⟩ (ctX7_in hj ec) ⟨Nat.le_of_ble_eq_true rfl, Nat.le_of_ble_eq_true rfl⟩ rfl rfl (Nat.le_of_ble_eq_true rfl) rfl ?_
  obtain ⟨hb, hf⟩ := bok_e hf
  cases hf
  exact z_iret B 9 rfl (bok_n hb) hQ hr
/-! ZoneCapacityModel.isResource(I)Z -/
def tbX7_isResource : Tb := [(0, .iload_n 1, 1, 1), (1, .iconst 0, 1, 2), (2, .aload_n 0, 1, 3), (3, .getfield 7, 3, 6), (6, .iconst 1, 1, 7), (7, .iaload, 1, 8), (8, .iconst 1, 1, 9), (9, .isub, 1, 10), (10, .invokestatic 54, 3, 13), (13, .ireturn, 1, 14)]
theorem dtX7_isResource : ∀ q ∈ tbX7_isResource, decode cX7_isResource q.1 = .ok (q.2.1, q.2.2.1) ∧ q.1 + q.2.2.1 = q.2.2.2 := by decide +kernel
theorem miX7_isResource : MI yX7_isResource cX7_isResource 2 (some .boolean) 1 := ⟨tw_mem (List.mem_of_getElem? (i := 1066) (by decide +kernel)) rfl, by decide, by decide +kernel, tw_mem (List.mem_of_getElem? (i := 78) (by decide +kernel)) rfl⟩
abbrev rmX7_isResource : Room := { frames := 1, cells := 0, slots := 0, locals := 22 }
def wX7_isResource : List Cond := [.fieldLink "ZoneCapacityModel" 7 "ZoneCapacityModel" "w" "[I", .methodLink "ZoneCapacityModel" 54 yX7_in, .static yX7_in]
theorem iX7_isResource : ∀ w ∈ wX7_isResource, w ∈ TW := tw_of (ids := [939, 1021, 1022]) (by decide +kernel)
def f7_isResource (mm : Mem) (a1 : Int32) : Option Int32 := rdc 1 (1 : Int32) (nm (mm 1 (1 : Int32).toNatClampNeg) (fun v1 => bd (f7_in mm a1 (0 : Int32) (v1 - (1 : Int32))) (fun r2 => bok r2 (some (r2)))))
theorem ctX7_isResource {l : Launch} {C : Cfg} (hj : Dj C) {mm : Mem} {a1 : Int32} {x : Int32} (hf : f7_isResource mm a1 = some x) : Ct l C yX7_isResource cX7_isResource 2 (some .boolean) 1 22 [.ref 0, .int a1] mm (some (.int x)) mm := by
  refine Ct.of (tb := tbX7_isResource) hj miX7_isResource.2.1 miX7_isResource.1 dtX7_isResource (Nat.le_of_ble_eq_true rfl) ?_
  intro E B hQ hr X
  unfold f7_isResource at hf
  show G E 2 0 [(0, .ref 0), (1, .int a1)] [] mm
  refine z_iload_n B 0 rfl 1 1 rfl rfl ?_
  refine z_iconst 0 B 1 rfl (by decide) ?_
  refine z_aload_n B 2 rfl 0 0 rfl rfl ?_
  refine z_getr 7 1 0 B 3 rfl ob_0 rfl (iX7_isResource _ (List.mem_of_getElem? (i := 0) rfl)) rfl ?_
  refine z_iconst 1 B 4 rfl (by decide) ?_
  obtain ⟨hx, hf⟩ := rdc_e hf
  refine z_iald B 5 rfl ob_1 hx ?_
  obtain ⟨v1, ex, hf⟩ := nm_x hf
  refine z_top ex ?_
  refine z_iconst 1 B 6 rfl (by decide) ?_
  refine z_isub B 7 rfl ?_
  obtain ⟨r2, ec, hf⟩ := bd_e hf
  refine z_callS [.int a1, .int (0 : Int32), .int (v1 - (1 : Int32))] [] [.int r2] X B 8 rfl miX7_in ⟨(iX7_isResource _ (List.mem_of_getElem? (i := 1) rfl)), (iX7_isResource _ (List.mem_of_getElem? (i := 2) rfl))⟩ (ctX7_in hj ec) ⟨Nat.le_of_ble_eq_true rfl, Nat.le_of_ble_eq_true rfl⟩ rfl rfl (Nat.le_of_ble_eq_true rfl) rfl ?_
  obtain ⟨hb, hf⟩ := bok_e hf
  cases hf
  exact z_iret B 9 rfl (bok_n hb) hQ hr
/-! ZoneCapacityModel.isPrice(I)Z -/
def tbX7_isPrice : Tb := [(0, .iload_n 0, 1, 1), (1, .iconst 0, 1, 2), (2, .sipush 9999, 3, 5), (5, .invokestatic 54, 3, 8), (8, .ireturn, 1, 9)]
theorem dtX7_isPrice : ∀ q ∈ tbX7_isPrice, decode cX7_isPrice q.1 = .ok (q.2.1, q.2.2.1) ∧ q.1 + q.2.2.1 = q.2.2.2 := by decide +kernel
theorem miX7_isPrice : MI yX7_isPrice cX7_isPrice 1 (some .boolean) 1 := ⟨tw_mem (List.mem_of_getElem? (i := 1026) (by decide +kernel)) rfl, by decide, by decide +kernel, tw_mem (List.mem_of_getElem? (i := 78) (by decide +kernel)) rfl⟩
abbrev rmX7_isPrice : Room := { frames := 1, cells := 0, slots := 0, locals := 22 }
def wX7_isPrice : List Cond := [.methodLink "ZoneCapacityModel" 54 yX7_in, .static yX7_in]
theorem iX7_isPrice : ∀ w ∈ wX7_isPrice, w ∈ TW := tw_of (ids := [1021, 1022]) (by decide +kernel)
def f7_isPrice (mm : Mem) (a0 : Int32) : Option Int32 := bd (f7_in mm a0 (0 : Int32) (9999 : Int32)) (fun r1 => bok r1 (some (r1)))
theorem ctX7_isPrice {l : Launch} {C : Cfg} (hj : Dj C) {mm : Mem} {a0 : Int32} {x : Int32} (hf : f7_isPrice mm a0 = some x) : Ct l C yX7_isPrice cX7_isPrice 1 (some .boolean) 1 22 [.int a0] mm (some (.int x)) mm := by
  refine Ct.of (tb := tbX7_isPrice) hj miX7_isPrice.2.1 miX7_isPrice.1 dtX7_isPrice (Nat.le_of_ble_eq_true rfl) ?_
  intro E B hQ hr X
  unfold f7_isPrice at hf
  show G E 1 0 [(0, .int a0)] [] mm
  refine z_iload_n B 0 rfl 0 0 rfl rfl ?_
  refine z_iconst 0 B 1 rfl (by decide) ?_
  refine z_sipush 9999 B 2 rfl (by decide) ?_
  obtain ⟨r1, ec, hf⟩ := bd_e hf
  refine z_callS [.int a0, .int (0 : Int32), .int (9999 : Int32)] [] [.int r1] X B 3 rfl miX7_in ⟨(iX7_isPrice _ (List.mem_of_getElem? (i := 0) rfl)), (iX7_isPrice _ (List.mem_of_getElem? (i := 1) rfl))⟩ (ctX7_in hj ec) ⟨Nat.le_of_ble_eq_true rfl, Nat.le_of_ble_eq_true rfl⟩ rfl rfl (Nat.le_of_ble_eq_true rfl) rfl ?_
  obtain ⟨hb, hf⟩ := bok_e hf
  cases hf
  exact z_iret B 4 rfl (bok_n hb) hQ hr
/-! ZoneCapacityModel.ofZone(II)I -/
def tbX7_ofZone : Tb := [(0, .aload_n 0, 1, 1), (1, .getfield 7, 3, 4), (4, .bipush 7, 2, 6), (6, .bipush 12, 2, 8), (8, .iload_n 1, 1, 9), (9, .imul, 1, 10), (10, .iadd, 1, 11), (11, .iload_n 2, 1, 12), (12, .iadd, 1, 13), (13, .iaload, 1, 14), (14, .ireturn, 1, 15)]
theorem dtX7_ofZone : ∀ q ∈ tbX7_ofZone, decode cX7_ofZone q.1 = .ok (q.2.1, q.2.2.1) ∧ q.1 + q.2.2.1 = q.2.2.2 := by decide +kernel
theorem miX7_ofZone : MI yX7_ofZone cX7_ofZone 3 (some .int) 2 := ⟨tw_mem (List.mem_of_getElem? (i := 1034) (by decide +kernel)) rfl, by decide, by decide +kernel, tw_mem (List.mem_of_getElem? (i := 78) (by decide +kernel)) rfl⟩
abbrev rmX7_ofZone : Room := { frames := 0, cells := 0, slots := 0, locals := 0 }
def wX7_ofZone : List Cond := [.fieldLink "ZoneCapacityModel" 7 "ZoneCapacityModel" "w" "[I"]
theorem iX7_ofZone : ∀ w ∈ wX7_ofZone, w ∈ TW := tw_of (ids := [939]) (by decide +kernel)
def f7_ofZone (mm : Mem) (a1 : Int32) (a2 : Int32) : Option Int32 := rdc 1 (((7 : Int32) + ((12 : Int32) * a1)) + a2) (nm (mm 1 (((7 : Int32) + ((12 : Int32) * a1)) + a2).toNatClampNeg) (fun v1 => some (v1)))
theorem ctX7_ofZone {l : Launch} {C : Cfg} (hj : Dj C) {mm : Mem} {a1 : Int32} {a2 : Int32} {x : Int32} (hf : f7_ofZone mm a1 a2 = some x) : Ct l C yX7_ofZone cX7_ofZone 3 (some .int) 0 0 [.ref 0, .int a1, .int a2] mm (some (.int x)) mm := by
  refine Ct.of (tb := tbX7_ofZone) hj miX7_ofZone.2.1 miX7_ofZone.1 dtX7_ofZone (Nat.le_of_ble_eq_true rfl) ?_
  intro E B hQ hr X
  unfold f7_ofZone at hf
  show G E 3 0 [(0, .ref 0), (1, .int a1), (2, .int a2)] [] mm
  refine z_aload_n B 0 rfl 0 0 rfl rfl ?_
  refine z_getr 7 1 0 B 1 rfl ob_0 rfl (iX7_ofZone _ (List.mem_of_getElem? (i := 0) rfl)) rfl ?_
  refine z_bipush 7 B 2 rfl (by decide) ?_
  refine z_bipush 12 B 3 rfl (by decide) ?_
  refine z_iload_n B 4 rfl 1 1 rfl rfl ?_
  refine z_imul B 5 rfl ?_
  refine z_iadd B 6 rfl ?_
  refine z_iload_n B 7 rfl 2 2 rfl rfl ?_
  refine z_iadd B 8 rfl ?_
  obtain ⟨hx, hf⟩ := rdc_e hf
  refine z_iald B 9 rfl ob_1 hx ?_
  obtain ⟨v1, ex, hf⟩ := nm_x hf
  refine z_top ex ?_
  cases hf
  exact z_iret B 10 rfl rfl hQ hr
/-! ZoneCapacityModel.ofResource(II)I -/
def tbX7_ofResource : Tb := [(0, .aload_n 0, 1, 1), (1, .getfield 7, 3, 4), (4, .bipush 79, 2, 6), (6, .bipush 13, 2, 8), (8, .iload_n 1, 1, 9), (9, .imul, 1, 10), (10, .iadd, 1, 11), (11, .iload_n 2, 1, 12), (12, .iadd, 1, 13), (13, .iaload, 1, 14), (14, .ireturn, 1, 15)]
theorem dtX7_ofResource : ∀ q ∈ tbX7_ofResource, decode cX7_ofResource q.1 = .ok (q.2.1, q.2.2.1) ∧ q.1 + q.2.2.1 = q.2.2.2 := by decide +kernel
theorem miX7_ofResource : MI yX7_ofResource cX7_ofResource 3 (some .int) 2 := ⟨tw_mem (List.mem_of_getElem? (i := 1070) (by decide +kernel)) rfl, by decide, by decide +kernel, tw_mem (List.mem_of_getElem? (i := 78) (by decide +kernel)) rfl⟩
abbrev rmX7_ofResource : Room := { frames := 0, cells := 0, slots := 0, locals := 0 }
def wX7_ofResource : List Cond := [.fieldLink "ZoneCapacityModel" 7 "ZoneCapacityModel" "w" "[I"]
theorem iX7_ofResource : ∀ w ∈ wX7_ofResource, w ∈ TW := tw_of (ids := [939]) (by decide +kernel)
def f7_ofResource (mm : Mem) (a1 : Int32) (a2 : Int32) : Option Int32 := rdc 1 (((79 : Int32) + ((13 : Int32) * a1)) + a2) (nm (mm 1 (((79 : Int32) + ((13 : Int32) * a1)) + a2).toNatClampNeg) (fun v1 => some (v1)))
theorem ctX7_ofResource {l : Launch} {C : Cfg} (hj : Dj C) {mm : Mem} {a1 : Int32} {a2 : Int32} {x : Int32} (hf : f7_ofResource mm a1 a2 = some x) : Ct l C yX7_ofResource cX7_ofResource 3 (some .int) 0 0 [.ref 0, .int a1, .int a2] mm (some (.int x)) mm := by
  refine Ct.of (tb := tbX7_ofResource) hj miX7_ofResource.2.1 miX7_ofResource.1 dtX7_ofResource (Nat.le_of_ble_eq_true rfl) ?_
  intro E B hQ hr X
  unfold f7_ofResource at hf
  show G E 3 0 [(0, .ref 0), (1, .int a1), (2, .int a2)] [] mm
  refine z_aload_n B 0 rfl 0 0 rfl rfl ?_
  refine z_getr 7 1 0 B 1 rfl ob_0 rfl (iX7_ofResource _ (List.mem_of_getElem? (i := 0) rfl)) rfl ?_
  refine z_bipush 79 B 2 rfl (by decide) ?_
  refine z_bipush 13 B 3 rfl (by decide) ?_
  refine z_iload_n B 4 rfl 1 1 rfl rfl ?_
  refine z_imul B 5 rfl ?_
  refine z_iadd B 6 rfl ?_
  refine z_iload_n B 7 rfl 2 2 rfl rfl ?_
  refine z_iadd B 8 rfl ?_
  obtain ⟨hx, hf⟩ := rdc_e hf
  refine z_iald B 9 rfl ob_1 hx ?_
  obtain ⟨v1, ex, hf⟩ := nm_x hf
  refine z_top ex ?_
  cases hf
  exact z_iret B 10 rfl rfl hQ hr
/-! ZoneCapacityModel.pointUnits(II)I -/
def tbX7_pointUnits : Tb := [(0, .aload_n 0, 1, 1), (1, .getfield 7, 3, 4), (4, .bipush 7, 2, 6), (6, .bipush 12, 2, 8), (8, .iload_n 1, 1, 9), (9, .imul, 1, 10), (10, .iadd, 1, 11), (11, .iconst 4, 1, 12), (12, .iadd, 1, 13), (13, .iconst 2, 1, 14), (14, .iload_n 2, 1, 15), (15, .imul, 1, 16), (16, .iadd, 1, 17), (17, .iaload, 1, 18), (18, .ireturn, 1, 19)]
theorem dtX7_pointUnits : ∀ q ∈ tbX7_pointUnits, decode cX7_pointUnits q.1 = .ok (q.2.1, q.2.2.1) ∧ q.1 + q.2.2.1 = q.2.2.2 := by decide +kernel
theorem miX7_pointUnits : MI yX7_pointUnits cX7_pointUnits 3 (some .int) 2 := ⟨tw_mem (List.mem_of_getElem? (i := 1042) (by decide +kernel)) rfl, by decide, by decide +kernel, tw_mem (List.mem_of_getElem? (i := 78) (by decide +kernel)) rfl⟩
abbrev rmX7_pointUnits : Room := { frames := 0, cells := 0, slots := 0, locals := 0 }
def wX7_pointUnits : List Cond := [.fieldLink "ZoneCapacityModel" 7 "ZoneCapacityModel" "w" "[I"]
theorem iX7_pointUnits : ∀ w ∈ wX7_pointUnits, w ∈ TW := tw_of (ids := [939]) (by decide +kernel)
def f7_pointUnits (mm : Mem) (a1 : Int32) (a2 : Int32) : Option Int32 := rdc 1 ((((7 : Int32) + ((12 : Int32) * a1)) + (4 : Int32)) + ((2 : Int32) * a2)) (nm (mm 1 ((((7 : Int32) + ((12 : Int32) * a1)) + (4 : Int32)) + ((2 : Int32) * a2)).toNatClampNeg) (fun v1 => some (v1)))
theorem ctX7_pointUnits {l : Launch} {C : Cfg} (hj : Dj C) {mm : Mem} {a1 : Int32} {a2 : Int32} {x : Int32} (hf : f7_pointUnits mm a1 a2 = some x) : Ct l C yX7_pointUnits cX7_pointUnits 3 (some .int) 0 0 [.ref 0, .int a1, .int a2] mm (some (.int x)) mm := by
  refine Ct.of (tb := tbX7_pointUnits) hj miX7_pointUnits.2.1 miX7_pointUnits.1 dtX7_pointUnits (Nat.le_of_ble_eq_true rfl) ?_
  intro E B hQ hr X
  unfold f7_pointUnits at hf
  show G E 3 0 [(0, .ref 0), (1, .int a1), (2, .int a2)] [] mm
  refine z_aload_n B 0 rfl 0 0 rfl rfl ?_
  refine z_getr 7 1 0 B 1 rfl ob_0 rfl (iX7_pointUnits _ (List.mem_of_getElem? (i := 0) rfl)) rfl ?_
  refine z_bipush 7 B 2 rfl (by decide) ?_
  refine z_bipush 12 B 3 rfl (by decide) ?_
  refine z_iload_n B 4 rfl 1 1 rfl rfl ?_
  refine z_imul B 5 rfl ?_
  refine z_iadd B 6 rfl ?_
  refine z_iconst 4 B 7 rfl (by decide) ?_
  refine z_iadd B 8 rfl ?_
  refine z_iconst 2 B 9 rfl (by decide) ?_
  refine z_iload_n B 10 rfl 2 2 rfl rfl ?_
  refine z_imul B 11 rfl ?_
  refine z_iadd B 12 rfl ?_
  obtain ⟨hx, hf⟩ := rdc_e hf
  refine z_iald B 13 rfl ob_1 hx ?_
  obtain ⟨v1, ex, hf⟩ := nm_x hf
  refine z_top ex ?_
  cases hf
  exact z_iret B 14 rfl rfl hQ hr
/-! ZoneCapacityModel.pointPrice(II)I -/
def tbX7_pointPrice : Tb := [(0, .aload_n 0, 1, 1), (1, .getfield 7, 3, 4), (4, .bipush 7, 2, 6), (6, .bipush 12, 2, 8), (8, .iload_n 1, 1, 9), (9, .imul, 1, 10), (10, .iadd, 1, 11), (11, .iconst 5, 1, 12), (12, .iadd, 1, 13), (13, .iconst 2, 1, 14), (14, .iload_n 2, 1, 15), (15, .imul, 1, 16), (16, .iadd, 1, 17), (17, .iaload, 1, 18), (18, .ireturn, 1, 19)]
theorem dtX7_pointPrice : ∀ q ∈ tbX7_pointPrice, decode cX7_pointPrice q.1 = .ok (q.2.1, q.2.2.1) ∧ q.1 + q.2.2.1 = q.2.2.2 := by decide +kernel
theorem miX7_pointPrice : MI yX7_pointPrice cX7_pointPrice 3 (some .int) 2 := ⟨tw_mem (List.mem_of_getElem? (i := 1046) (by decide +kernel)) rfl, by decide, by decide +kernel, tw_mem (List.mem_of_getElem? (i := 78) (by decide +kernel)) rfl⟩
abbrev rmX7_pointPrice : Room := { frames := 0, cells := 0, slots := 0, locals := 0 }
def wX7_pointPrice : List Cond := [.fieldLink "ZoneCapacityModel" 7 "ZoneCapacityModel" "w" "[I"]
theorem iX7_pointPrice : ∀ w ∈ wX7_pointPrice, w ∈ TW := tw_of (ids := [939]) (by decide +kernel)
def f7_pointPrice (mm : Mem) (a1 : Int32) (a2 : Int32) : Option Int32 := rdc 1 ((((7 : Int32) + ((12 : Int32) * a1)) + (5 : Int32)) + ((2 : Int32) * a2)) (nm (mm 1 ((((7 : Int32) + ((12 : Int32) * a1)) + (5 : Int32)) + ((2 : Int32) * a2)).toNatClampNeg) (fun v1 => some (v1)))
theorem ctX7_pointPrice {l : Launch} {C : Cfg} (hj : Dj C) {mm : Mem} {a1 : Int32} {a2 : Int32} {x : Int32} (hf : f7_pointPrice mm a1 a2 = some x) : Ct l C yX7_pointPrice cX7_pointPrice 3 (some .int) 0 0 [.ref 0, .int a1, .int a2] mm (some (.int x)) mm := by
  refine Ct.of (tb := tbX7_pointPrice) hj miX7_pointPrice.2.1 miX7_pointPrice.1 dtX7_pointPrice (Nat.le_of_ble_eq_true rfl) ?_
  intro E B hQ hr X
  unfold f7_pointPrice at hf
  show G E 3 0 [(0, .ref 0), (1, .int a1), (2, .int a2)] [] mm
  refine z_aload_n B 0 rfl 0 0 rfl rfl ?_
  refine z_getr 7 1 0 B 1 rfl ob_0 rfl (iX7_pointPrice _ (List.mem_of_getElem? (i := 0) rfl)) rfl ?_
  refine z_bipush 7 B 2 rfl (by decide) ?_
  refine z_bipush 12 B 3 rfl (by decide) ?_
  refine z_iload_n B 4 rfl 1 1 rfl rfl ?_
  refine z_imul B 5 rfl ?_
  refine z_iadd B 6 rfl ?_
  refine z_iconst 5 B 7 rfl (by decide) ?_
  refine z_iadd B 8 rfl ?_
  refine z_iconst 2 B 9 rfl (by decide) ?_
  refine z_iload_n B 10 rfl 2 2 rfl rfl ?_
  refine z_imul B 11 rfl ?_
  refine z_iadd B 12 rfl ?_
  obtain ⟨hx, hf⟩ := rdc_e hf
  refine z_iald B 13 rfl ob_1 hx ?_
  obtain ⟨v1, ex, hf⟩ := nm_x hf
  refine z_top ex ?_
  cases hf
  exact z_iret B 14 rfl rfl hQ hr
/-! ZoneCapacityModel.wanted(I)I -/
def tbX7_wanted : Tb := [(0, .aload_n 0, 1, 1), (1, .iload_n 1, 1, 2), (2, .iconst 3, 1, 3), (3, .invokevirtual 58, 3, 6), (6, .ifCond .ne 7, 3, 9), (9, .iconst 0, 1, 10), (10, .goto 16, 3, 13), (13, .aload_n 0, 1, 14), (14, .iload_n 1, 1, 15), (15, .aload_n 0, 1, 16), (16, .iload_n 1, 1, 17), (17, .iconst 3, 1, 18), (18, .invokevirtual 58, 3, 21), (21, .iconst 1, 1, 22), (22, .isub, 1, 23), (23, .invokevirtual 62, 3, 26), (26, .ireturn, 1, 27)]
theorem dtX7_wanted : ∀ q ∈ tbX7_wanted, decode cX7_wanted q.1 = .ok (q.2.1, q.2.2.1) ∧ q.1 + q.2.2.1 = q.2.2.2 := by decide +kernel
theorem miX7_wanted : MI yX7_wanted cX7_wanted 2 (some .int) 1 := ⟨tw_mem (List.mem_of_getElem? (i := 1114) (by decide +kernel)) rfl, by decide, by decide +kernel, tw_mem (List.mem_of_getElem? (i := 78) (by decide +kernel)) rfl⟩
abbrev rmX7_wanted : Room := { frames := 1, cells := 0, slots := 0, locals := 22 }
def wX7_wanted : List Cond := [.methodLink "ZoneCapacityModel" 58 yX7_ofZone, .instanceMethod yX7_ofZone, .selects "ZoneCapacityModel" yX7_ofZone yX7_ofZone, .methodLink "ZoneCapacityModel" 62 yX7_pointUnits, .instanceMethod yX7_pointUnits, .selects "ZoneCapacityModel" yX7_pointUnits yX7_pointUnits]
theorem iX7_wanted : ∀ w ∈ wX7_wanted, w ∈ TW := tw_of (ids := [1031, 1033, 26, 1039, 1041, 28]) (by decide +kernel)
def f7_wanted (mm : Mem) (a1 : Int32) : Option Int32 := bd (f7_ofZone mm a1 (3 : Int32)) (fun r1 => if r1 = 0 then some ((0 : Int32)) else bd (f7_ofZone mm a1 (3 : Int32)) (fun r2 => bd (f7_pointUnits mm a1 (r2 - (1 : Int32))) (fun r3 => some (r3))))
theorem ctX7_wanted {l : Launch} {C : Cfg} (hj : Dj C) {mm : Mem} {a1 : Int32} {x : Int32} (hf : f7_wanted mm a1 = some x) : Ct l C yX7_wanted cX7_wanted 2 (some .int) 1 22 [.ref 0, .int a1] mm (some (.int x)) mm := by
  refine Ct.of (tb := tbX7_wanted) hj miX7_wanted.2.1 miX7_wanted.1 dtX7_wanted (Nat.le_of_ble_eq_true rfl) ?_
  intro E B hQ hr X
  unfold f7_wanted at hf
  show G E 2 0 [(0, .ref 0), (1, .int a1)] [] mm
  refine z_aload_n B 0 rfl 0 0 rfl rfl ?_
  refine z_iload_n B 1 rfl 1 1 rfl rfl ?_
  refine z_iconst 3 B 2 rfl (by decide) ?_
  obtain ⟨r1, ec, hf⟩ := bd_e hf
  refine z_callV 0 7 [.int a1, .int (3 : Int32)] [] [.int r1] X B 3 rfl ob_0 rfl rfl miX7_ofZone ⟨(iX7_wanted _ (List.mem_of_getElem? (i := 0) rfl)), (iX7_wanted _ (List.mem_of_getElem? (i := 1) rfl)), (iX7_wanted _ (List.mem_of_getElem? (i := 2) rfl))⟩ (ctX7_ofZone hj ec) ⟨Nat.le_of_ble_eq_true rfl, Nat.le_of_ble_eq_true rfl⟩ rfl rfl (Nat.le_of_ble_eq_true rfl) rfl ?_
  by_cases hc : r1 = 0
  · replace hf := (if_pos hc).symm.trans hf
    refine z_if_ne_f B 4 rfl 13 (by decide) hc ?_
    refine z_iconst 0 B 5 rfl (by decide) ?_
    refine z_goto B 6 rfl 26 (by decide) ?_
    cases hf
    exact z_iret B 16 rfl rfl hQ hr
  · replace hf := (if_neg hc).symm.trans hf
    refine z_if_ne_t B 4 rfl 13 (by decide) hc ?_
    refine z_aload_n B 7 rfl 0 0 rfl rfl ?_
    refine z_iload_n B 8 rfl 1 1 rfl rfl ?_
    refine z_aload_n B 9 rfl 0 0 rfl rfl ?_
    refine z_iload_n B 10 rfl 1 1 rfl rfl ?_
    refine z_iconst 3 B 11 rfl (by decide) ?_
    obtain ⟨r2, ec, hf⟩ := bd_e hf
    refine z_callV 0 7 [.int a1, .int (3 : Int32)] [.int a1, .ref 0] [.int r2, .int a1, .ref 0] X B 12 rfl ob_0 rfl rfl miX7_ofZone ⟨(iX7_wanted _ (List.mem_of_getElem? (i := 0) rfl)), (iX7_wanted _ (List.mem_of_getElem? (i := 1) rfl)), (iX7_wanted _ (List.mem_of_getElem? (i := 2) rfl))⟩ (ctX7_ofZone hj ec) ⟨Nat.le_of_ble_eq_true rfl, Nat.le_of_ble_eq_true rfl⟩ rfl rfl (Nat.le_of_ble_eq_true rfl) rfl ?_
    refine z_iconst 1 B 13 rfl (by decide) ?_
    refine z_isub B 14 rfl ?_
    obtain ⟨r3, ec, hf⟩ := bd_e hf
    refine z_callV 0 7 [.int a1, .int (r2 - (1 : Int32))] [] [.int r3] X B 15 rfl ob_0 rfl rfl miX7_pointUnits ⟨(iX7_wanted _ (List.mem_of_getElem? (i := 3) rfl)), (iX7_wanted _ (List.mem_of_getElem? (i := 4) rfl)), (iX7_wanted _ (List.mem_of_getElem? (i := 5) rfl))⟩ (ctX7_pointUnits hj ec) ⟨Nat.le_of_ble_eq_true rfl, Nat.le_of_ble_eq_true rfl⟩ rfl rfl (Nat.le_of_ble_eq_true rfl) rfl ?_
    cases hf
    exact z_iret B 16 rfl rfl hQ hr
/-! ZoneCapacityModel.worthOf(II)I -/
def tbX7_worthOf : Tb := [(0, .aload_n 0, 1, 1), (1, .iload_n 1, 1, 2), (2, .iconst 3, 1, 3), (3, .invokevirtual 58, 3, 6), (6, .istore_n 3, 1, 7), (7, .iconst 0, 1, 8), (8, .istore 4, 2, 10), (10, .iload 4, 2, 12), (12, .iload_n 3, 1, 13), (13, .if_icmp .ge 20, 3, 16), (16, .aload_n 0, 1, 17), (17, .iload_n 1, 1, 18), (18, .iload 4, 2, 20), (20, .invokevirtual 62, 3, 23), (23, .iload_n 2, 1, 24), (24, .if_icmp .ge 9, 3, 27), (27, .iinc 4 1, 3, 30), (30, .goto (-20), 3, 33), (33, .iload 4, 2, 35), (35, .iload_n 3, 1, 36), (36, .if_icmp .eq 8, 3, 39), (39, .iload_n 2, 1, 40), (40, .iconst 1, 1, 41), (41, .if_icmp .ge 5, 3, 44), (44, .iconst (-1), 1, 45), (45, .ireturn, 1, 46), (46, .iload 4, 2, 48), (48, .ifCond .ne 10, 3, 51), (51, .aload_n 0, 1, 52), (52, .iload_n 1, 1, 53), (53, .iconst 0, 1, 54), (54, .invokevirtual 65, 3, 57), (57, .ireturn, 1, 58), (58, .aload_n 0, 1, 59), (59, .iload_n 1, 1, 60), (60, .iload 4, 2, 62), (62, .iconst 1, 1, 63), (63, .isub, 1, 64), (64, .invokevirtual 62, 3, 67), (67, .istore 5, 2, 69), (69, .aload_n 0, 1, 70), (70, .iload_n 1, 1, 71), (71, .iload 4, 2, 73), (73, .iconst 1, 1, 74), (74, .isub, 1, 75), (75, .invokevirtual 65, 3, 78), (78, .istore 6, 2, 80), (80, .iload 6, 2, 82), (82, .iload 6, 2, 84), (84, .aload_n 0, 1, 85), (85, .iload_n 1, 1, 86), (86, .iload 4, 2, 88), (88, .invokevirtual 65, 3, 91), (91, .isub, 1, 92), (92, .iload_n 2, 1, 93), (93, .iload 5, 2, 95), (95, .isub, 1, 96), (96, .imul, 1, 97), (97, .aload_n 0, 1, 98), (98, .iload_n 1, 1, 99), (99, .iload 4, 2, 101), (101, .invokevirtual 62, 3, 104), (104, .iload 5, 2, 106), (106, .isub, 1, 107), (107, .idiv, 1, 108), (108, .isub, 1, 109), (109, .ireturn, 1, 110)]
theorem dtX7_worthOf : ∀ q ∈ tbX7_worthOf, decode cX7_worthOf q.1 = .ok (q.2.1, q.2.2.1) ∧ q.1 + q.2.2.1 = q.2.2.2 := by decide +kernel
theorem miX7_worthOf : MI yX7_worthOf cX7_worthOf 7 (some .int) 2 := ⟨tw_mem (List.mem_of_getElem? (i := 1138) (by decide +kernel)) rfl, by decide, by decide +kernel, tw_mem (List.mem_of_getElem? (i := 78) (by decide +kernel)) rfl⟩
abbrev rmX7_worthOf : Room := { frames := 1, cells := 0, slots := 0, locals := 22 }
def wX7_worthOf : List Cond := [.methodLink "ZoneCapacityModel" 58 yX7_ofZone, .instanceMethod yX7_ofZone, .selects "ZoneCapacityModel" yX7_ofZone yX7_ofZone, .methodLink "ZoneCapacityModel" 62 yX7_pointUnits, .instanceMethod yX7_pointUnits, .selects "ZoneCapacityModel" yX7_pointUnits yX7_pointUnits, .methodLink "ZoneCapacityModel" 65 yX7_pointPrice, .instanceMethod yX7_pointPrice, .selects "ZoneCapacityModel" yX7_pointPrice yX7_pointPrice]
theorem iX7_worthOf : ∀ w ∈ wX7_worthOf, w ∈ TW := tw_of (ids := [1031, 1033, 26, 1039, 1041, 28, 1043, 1045, 29]) (by decide +kernel)
def f7_worthOf_j33 (mm : Mem) (x1 : Int32) (x2 : Int32) (x3 : Int32) (x4 : Int32) : Option Int32 := if x4 = x3 then some ((-1 : Int32)) else if x2 < (1 : Int32) then some ((-1 : Int32)) else if x4 = 0 then bd (f7_pointPrice mm x1 (0 : Int32)) (fun r6 => some (r6)) else bd (f7_pointUnits mm x1 (x4 - (1 : Int32))) (fun r2 => bd (f7_pointPrice mm x1 (x4 - (1 : Int32))) (fun r3 => bd (f7_pointPrice mm x1 x4) (fun r4 => bd (f7_pointUnits mm x1 x4) (fun r5 => dvz (r5 - r2) (some (r3 - (((r3 - r4) * (x2 - r2)) / (r5 - r2))))))))
theorem f7_worthOf_j33_ok {E : Ev} {l : Launch} {C : Cfg} {mm : Mem} {x : Int32} (hj : Dj C) (X : Ec E l C rmX7_worthOf) (B : Bx E RX7 tbX7_worthOf 7 (some .int)) (hQ : Rt E) (hr : Rs E (some (.int x)) mm) (x1 : Int32) (x2 : Int32) (x3 : Int32) (x4 : Int32) (hf : f7_worthOf_j33 mm x1 x2 x3 x4 = some x) : G E 7 33 [(0, .ref 0), (1, .int x1), (2, .int x2), (3, .int x3), (4, .int x4)] [] mm := by
  unfold f7_worthOf_j33 at hf
  refine z_iload B 18 rfl 4 rfl ?_
  refine z_iload_n B 19 rfl 3 3 rfl rfl ?_
  by_cases hc : x4 = x3
  · replace hf := (if_pos hc).symm.trans hf
    refine z_icmp_eq_t B 20 rfl 44 (by decide) hc ?_
    refine z_iconst (-1) B 24 rfl (by decide) ?_
    cases hf
    exact z_iret B 25 rfl rfl hQ hr
  · replace hf := (if_neg hc).symm.trans hf
    refine z_icmp_eq_f B 20 rfl 44 (by decide) hc ?_
    refine z_iload_n B 21 rfl 2 2 rfl rfl ?_
    refine z_iconst 1 B 22 rfl (by decide) ?_
    by_cases hc : x2 < (1 : Int32)
    · replace hf := (if_pos hc).symm.trans hf
      refine z_icmp_ge_f B 23 rfl 46 (by decide) hc ?_
      refine z_iconst (-1) B 24 rfl (by decide) ?_
      cases hf
      exact z_iret B 25 rfl rfl hQ hr
    · replace hf := (if_neg hc).symm.trans hf
      refine z_icmp_ge_t B 23 rfl 46 (by decide) hc ?_
      refine z_iload B 26 rfl 4 rfl ?_
      by_cases hc : x4 = 0
      · replace hf := (if_pos hc).symm.trans hf
        refine z_if_ne_f B 27 rfl 58 (by decide) hc ?_
        refine z_aload_n B 28 rfl 0 0 rfl rfl ?_
        refine z_iload_n B 29 rfl 1 1 rfl rfl ?_
        refine z_iconst 0 B 30 rfl (by decide) ?_
        obtain ⟨r6, ec, hf⟩ := bd_e hf
        refine z_callV 0 7 [.int x1, .int (0 : Int32)] [] [.int r6] X B 31 rfl ob_0 rfl rfl miX7_pointPrice ⟨(iX7_worthOf _ (List.mem_of_getElem? (i := 6) rfl)), (iX7_worthOf _ (List.mem_of_getElem? (i := 7) rfl)), (iX7_worthOf _ (List.mem_of_getElem? (i := 8) rfl))⟩ (ctX7_pointPrice hj ec) ⟨Nat.le_of_ble_eq_true rfl, Nat.le_of_ble_eq_true rfl⟩ rfl rfl (Nat.le_of_ble_eq_true rfl) rfl ?_
        cases hf
        exact z_iret B 32 rfl rfl hQ hr
      · replace hf := (if_neg hc).symm.trans hf
        refine z_if_ne_t B 27 rfl 58 (by decide) hc ?_
        refine z_aload_n B 33 rfl 0 0 rfl rfl ?_
        refine z_iload_n B 34 rfl 1 1 rfl rfl ?_
        refine z_iload B 35 rfl 4 rfl ?_
        refine z_iconst 1 B 36 rfl (by decide) ?_
        refine z_isub B 37 rfl ?_
        obtain ⟨r2, ec, hf⟩ := bd_e hf
        refine z_callV 0 7 [.int x1, .int (x4 - (1 : Int32))] [] [.int r2] X B 38 rfl ob_0 rfl rfl miX7_pointUnits ⟨(iX7_worthOf _ (List.mem_of_getElem? (i := 3) rfl)), (iX7_worthOf _ (List.mem_of_getElem? (i := 4) rfl)), (iX7_worthOf _ (List.mem_of_getElem? (i := 5) rfl))⟩ (ctX7_pointUnits hj ec) ⟨Nat.le_of_ble_eq_true rfl, Nat.le_of_ble_eq_true rfl⟩ rfl rfl (Nat.le_of_ble_eq_true rfl) rfl ?_
        refine z_istore [(5, .int r2), (0, .ref 0), (1, .int x1), (2, .int x2), (3, .int x3), (4, .int x4)] B 39 rfl (by decide) rfl ?_
        refine z_aload_n B 40 rfl 0 1 rfl rfl ?_
        refine z_iload_n B 41 rfl 1 2 rfl rfl ?_
        refine z_iload B 42 rfl 5 rfl ?_
        refine z_iconst 1 B 43 rfl (by decide) ?_
        refine z_isub B 44 rfl ?_
        obtain ⟨r3, ec, hf⟩ := bd_e hf
        refine z_callV 0 7 [.int x1, .int (x4 - (1 : Int32))] [] [.int r3] X B 45 rfl ob_0 rfl rfl miX7_pointPrice ⟨(iX7_worthOf _ (List.mem_of_getElem? (i := 6) rfl)), (iX7_worthOf _ (List.mem_of_getElem? (i := 7) rfl)), (iX7_worthOf _ (List.mem_of_getElem? (i := 8) rfl))⟩ (ctX7_pointPrice hj ec) ⟨Nat.le_of_ble_eq_true rfl, Nat.le_of_ble_eq_true rfl⟩ rfl rfl (Nat.le_of_ble_eq_true rfl) rfl ?_
        refine z_istore [(6, .int r3), (5, .int r2), (0, .ref 0), (1, .int x1), (2, .int x2), (3, .int x3), (4, .int x4)] B 46 rfl (by decide) rfl ?_
        refine z_iload B 47 rfl 0 rfl ?_
        refine z_iload B 48 rfl 0 rfl ?_
        refine z_aload_n B 49 rfl 0 2 rfl rfl ?_
        refine z_iload_n B 50 rfl 1 3 rfl rfl ?_
        refine z_iload B 51 rfl 6 rfl ?_
        obtain ⟨r4, ec, hf⟩ := bd_e hf
        refine z_callV 0 7 [.int x1, .int x4] [.int r3, .int r3] [.int r4, .int r3, .int r3] X B 52 rfl ob_0 rfl rfl miX7_pointPrice ⟨(iX7_worthOf _ (List.mem_of_getElem? (i := 6) rfl)), (iX7_worthOf _ (List.mem_of_getElem? (i := 7) rfl)), (iX7_worthOf _ (List.mem_of_getElem? (i := 8) rfl))⟩ (ctX7_pointPrice hj ec) ⟨Nat.le_of_ble_eq_true rfl, Nat.le_of_ble_eq_true rfl⟩ rfl rfl (Nat.le_of_ble_eq_true rfl) rfl ?_
        refine z_isub B 53 rfl ?_
        refine z_iload_n B 54 rfl 2 4 rfl rfl ?_
        refine z_iload B 55 rfl 1 rfl ?_
        refine z_isub B 56 rfl ?_
        refine z_imul B 57 rfl ?_
        refine z_aload_n B 58 rfl 0 2 rfl rfl ?_
        refine z_iload_n B 59 rfl 1 3 rfl rfl ?_
        refine z_iload B 60 rfl 6 rfl ?_
        obtain ⟨r5, ec, hf⟩ := bd_e hf
        refine z_callV 0 7 [.int x1, .int x4] [.int ((r3 - r4) * (x2 - r2)), .int r3] [.int r5, .int ((r3 - r4) * (x2 - r2)), .int r3] X B 61 rfl ob_0 rfl rfl miX7_pointUnits ⟨(iX7_worthOf _ (List.mem_of_getElem? (i := 3) rfl)), (iX7_worthOf _ (List.mem_of_getElem? (i := 4) rfl)), (iX7_worthOf _ (List.mem_of_getElem? (i := 5) rfl))⟩ (ctX7_pointUnits hj ec) ⟨Nat.le_of_ble_eq_true rfl, Nat.le_of_ble_eq_true rfl⟩ rfl rfl (Nat.le_of_ble_eq_true rfl) rfl ?_
        refine z_iload B 62 rfl 1 rfl ?_
        refine z_isub B 63 rfl ?_
        obtain ⟨hz, hf⟩ := dvz_e hf
        refine z_idiv B 64 rfl hz ?_
        refine z_isub B 65 rfl ?_
        cases hf
        exact z_iret B 66 rfl rfl hQ hr
def f7_worthOf_l10 (mm : Mem) : Nat → Int32 → Int32 → Int32 → Int32 → Option Int32
  | 0, _, _, _, _ => none
  | n + 1, x1, x2, x3, x4 => if x4 < x3 then bd (f7_pointUnits mm x1 x4) (fun r7 => if r7 < x2 then nm (x4 + 1) (fun v8 => f7_worthOf_l10 mm n x1 x2 x3 v8) else f7_worthOf_j33 mm x1 x2 x3 x4) else f7_worthOf_j33 mm x1 x2 x3 x4
theorem f7_worthOf_l10_ok {E : Ev} {l : Launch} {C : Cfg} {mm : Mem} {x : Int32} (hj : Dj C) (X : Ec E l C rmX7_worthOf) (B : Bx E RX7 tbX7_worthOf 7 (some .int)) (hQ : Rt E) (hr : Rs E (some (.int x)) mm) (n : Nat) : ∀ (x1 : Int32) (x2 : Int32) (x3 : Int32) (x4 : Int32), f7_worthOf_l10 mm n x1 x2 x3 x4 = some x → G E 7 10 [(0, .ref 0), (1, .int x1), (2, .int x2), (3, .int x3), (4, .int x4)] [] mm := by
  induction n with
  | zero =>
    intro x1 x2 x3 x4 hf
    rw [f7_worthOf_l10] at hf
    cases hf
  | succ n ih =>
    intro x1 x2 x3 x4 hf
    rw [f7_worthOf_l10] at hf
    refine z_iload B 7 rfl 4 rfl ?_
    refine z_iload_n B 8 rfl 3 3 rfl rfl ?_
    by_cases hc : x4 < x3
    · replace hf := (if_pos hc).symm.trans hf
      refine z_icmp_ge_f B 9 rfl 33 (by decide) hc ?_
      refine z_aload_n B 10 rfl 0 0 rfl rfl ?_
      refine z_iload_n B 11 rfl 1 1 rfl rfl ?_
      refine z_iload B 12 rfl 4 rfl ?_
      obtain ⟨r7, ec, hf⟩ := bd_e hf
      refine z_callV 0 7 [.int x1, .int x4] [] [.int r7] X B 13 rfl ob_0 rfl rfl miX7_pointUnits ⟨(iX7_worthOf _ (List.mem_of_getElem? (i := 3) rfl)), (iX7_worthOf _ (List.mem_of_getElem? (i := 4) rfl)), (iX7_worthOf _ (List.mem_of_getElem? (i := 5) rfl))⟩ (ctX7_pointUnits hj ec) ⟨Nat.le_of_ble_eq_true rfl, Nat.le_of_ble_eq_true rfl⟩ rfl rfl (Nat.le_of_ble_eq_true rfl) rfl ?_
      refine z_iload_n B 14 rfl 2 2 rfl rfl ?_
      by_cases hc : r7 < x2
      · replace hf := (if_pos hc).symm.trans hf
        refine z_icmp_ge_f B 15 rfl 33 (by decide) hc ?_
        obtain ⟨v8, ex, hf⟩ := nm_x hf
        refine z_iinc v8 [(4, .int v8), (0, .ref 0), (1, .int x1), (2, .int x2), (3, .int x3)] B 16 rfl 4 rfl (ex.symm) (by decide) rfl ?_
        refine z_goto B 17 rfl 10 (by decide) ?_
        refine z_sub [(0, .ref 0), (1, .int x1), (2, .int x2), (3, .int x3), (4, .int v8)] [1, 2, 3, 4, 0] rfl ?_
        exact ih _ _ _ _ hf
      · replace hf := (if_neg hc).symm.trans hf
        refine z_icmp_ge_t B 15 rfl 33 (by decide) hc ?_
        exact f7_worthOf_j33_ok hj X B hQ hr _ _ _ _ hf
    · replace hf := (if_neg hc).symm.trans hf
      refine z_icmp_ge_t B 9 rfl 33 (by decide) hc ?_
      exact f7_worthOf_j33_ok hj X B hQ hr _ _ _ _ hf
def f7_worthOf (mm : Mem) (a1 : Int32) (a2 : Int32) : Option Int32 := bd (f7_ofZone mm a1 (3 : Int32)) (fun r1 => f7_worthOf_l10 mm FU a1 a2 r1 (0 : Int32))
theorem ctX7_worthOf {l : Launch} {C : Cfg} (hj : Dj C) {mm : Mem} {a1 : Int32} {a2 : Int32} {x : Int32} (hf : f7_worthOf mm a1 a2 = some x) : Ct l C yX7_worthOf cX7_worthOf 7 (some .int) 1 22 [.ref 0, .int a1, .int a2] mm (some (.int x)) mm := by
  refine Ct.of (tb := tbX7_worthOf) hj miX7_worthOf.2.1 miX7_worthOf.1 dtX7_worthOf (Nat.le_of_ble_eq_true rfl) ?_
  intro E B hQ hr X
  unfold f7_worthOf at hf
  show G E 7 0 [(0, .ref 0), (1, .int a1), (2, .int a2)] [] mm
  refine z_aload_n B 0 rfl 0 0 rfl rfl ?_
  refine z_iload_n B 1 rfl 1 1 rfl rfl ?_
  refine z_iconst 3 B 2 rfl (by decide) ?_
  obtain ⟨r1, ec, hf⟩ := bd_e hf
  refine z_callV 0 7 [.int a1, .int (3 : Int32)] [] [.int r1] X B 3 rfl ob_0 rfl rfl miX7_ofZone ⟨(iX7_worthOf _ (List.mem_of_getElem? (i := 0) rfl)), (iX7_worthOf _ (List.mem_of_getElem? (i := 1) rfl)), (iX7_worthOf _ (List.mem_of_getElem? (i := 2) rfl))⟩ (ctX7_ofZone hj ec) ⟨Nat.le_of_ble_eq_true rfl, Nat.le_of_ble_eq_true rfl⟩ rfl rfl (Nat.le_of_ble_eq_true rfl) rfl ?_
  refine z_istore_n [(3, .int r1), (0, .ref 0), (1, .int a1), (2, .int a2)] B 4 rfl 3 rfl (by decide) rfl ?_
  refine z_iconst 0 B 5 rfl (by decide) ?_
  refine z_istore [(4, .int (0 : Int32)), (3, .int r1), (0, .ref 0), (1, .int a1), (2, .int a2)] B 6 rfl (by decide) rfl ?_
  refine z_sub [(0, .ref 0), (1, .int a1), (2, .int a2), (3, .int r1), (4, .int (0 : Int32))] [2, 3, 4, 1, 0] rfl ?_
  exact f7_worthOf_l10_ok hj X B hQ hr FU _ _ _ _ hf
/-! ZoneCapacityModel.wantedAt(II)I -/
def tbX7_wantedAt : Tb := [(0, .iconst 0, 1, 1), (1, .istore_n 3, 1, 2), (2, .aload_n 0, 1, 3), (3, .iload_n 1, 1, 4), (4, .invokevirtual 68, 3, 7), (7, .istore 4, 2, 9), (9, .iload_n 3, 1, 10), (10, .iload 4, 2, 12), (12, .if_icmp .ge 39, 3, 15), (15, .iload_n 3, 1, 16), (16, .iload 4, 2, 18), (18, .iadd, 1, 19), (19, .iconst 1, 1, 20), (20, .iadd, 1, 21), (21, .iconst 2, 1, 22), (22, .idiv, 1, 23), (23, .istore 5, 2, 25), (25, .aload_n 0, 1, 26), (26, .iload_n 1, 1, 27), (27, .iload 5, 2, 29), (29, .invokevirtual 72, 3, 32), (32, .iload_n 2, 1, 33), (33, .if_icmp .lt 9, 3, 36), (36, .iload 5, 2, 38), (38, .istore_n 3, 1, 39), (39, .goto 9, 3, 42), (42, .iload 5, 2, 44), (44, .iconst 1, 1, 45), (45, .isub, 1, 46), (46, .istore 4, 2, 48), (48, .goto (-39), 3, 51), (51, .iload_n 3, 1, 52), (52, .ireturn, 1, 53)]
theorem dtX7_wantedAt : ∀ q ∈ tbX7_wantedAt, decode cX7_wantedAt q.1 = .ok (q.2.1, q.2.2.1) ∧ q.1 + q.2.2.1 = q.2.2.2 := by decide +kernel
theorem miX7_wantedAt : MI yX7_wantedAt cX7_wantedAt 6 (some .int) 2 := ⟨tw_mem (List.mem_of_getElem? (i := 1146) (by decide +kernel)) rfl, by decide, by decide +kernel, tw_mem (List.mem_of_getElem? (i := 78) (by decide +kernel)) rfl⟩
abbrev rmX7_wantedAt : Room := { frames := 2, cells := 0, slots := 0, locals := 48 }
def wX7_wantedAt : List Cond := [.methodLink "ZoneCapacityModel" 68 yX7_wanted, .instanceMethod yX7_wanted, .selects "ZoneCapacityModel" yX7_wanted yX7_wanted, .methodLink "ZoneCapacityModel" 72 yX7_worthOf, .instanceMethod yX7_worthOf, .selects "ZoneCapacityModel" yX7_worthOf yX7_worthOf]
theorem iX7_wantedAt : ∀ w ∈ wX7_wantedAt, w ∈ TW := tw_of (ids := [1111, 1113, 38, 1135, 1137, 41]) (by decide +kernel)
def f7_wantedAt_j48 (k9 : Int32 → Int32 → Int32 → Int32 → Option Int32) (mm : Mem) (x1 : Int32) (x2 : Int32) (x3 : Int32) (x4 : Int32) : Option Int32 := k9 x1 x2 x3 x4
theorem f7_wantedAt_j48_ok {E : Ev} {l : Launch} {C : Cfg} {mm : Mem} {x : Int32} {k9 : Int32 → Int32 → Int32 → Int32 → Option Int32} (hj : Dj C) (X : Ec E l C rmX7_wantedAt) (B : Bx E RX7 tbX7_wantedAt 6 (some .int)) (hQ : Rt E) (hr : Rs E (some (.int x)) mm) (hk9 : ∀ (x1 : Int32) (x2 : Int32) (x3 : Int32) (x4 : Int32), k9 x1 x2 x3 x4 = some x → G E 6 9 [(0, .ref 0), (1, .int x1), (2, .int x2), (3, .int x3), (4, .int x4)] [] mm) (x1 : Int32) (x2 : Int32) (x3 : Int32) (x4 : Int32) (hf : f7_wantedAt_j48 k9 mm x1 x2 x3 x4 = some x) : G E 6 48 [(0, .ref 0), (1, .int x1), (2, .int x2), (3, .int x3), (4, .int x4)] [] mm := by
  unfold f7_wantedAt_j48 at hf
  refine z_goto B 30 rfl 9 (by decide) ?_
  exact hk9 _ _ _ _ hf
def f7_wantedAt_l9 (mm : Mem) : Nat → Int32 → Int32 → Int32 → Int32 → Option Int32
  | 0, _, _, _, _ => none
  | n + 1, x1, x2, x3, x4 => if x3 < x4 then dvz (2 : Int32) (nm (((x3 + x4) + (1 : Int32)) / (2 : Int32)) (fun v2 => bd (f7_worthOf mm x1 v2) (fun r3 => if r3 < x2 then nm (v2 - (1 : Int32)) (fun v4 => f7_wantedAt_j48 (fun x1 x2 x3 x4 => f7_wantedAt_l9 mm n x1 x2 x3 x4) mm x1 x2 x3 v4) else f7_wantedAt_j48 (fun x1 x2 x3 x4 => f7_wantedAt_l9 mm n x1 x2 x3 x4) mm x1 x2 v2 x4))) else some (x3)
theorem f7_wantedAt_l9_ok {E : Ev} {l : Launch} {C : Cfg} {mm : Mem} {x : Int32} (hj : Dj C) (X : Ec E l C rmX7_wantedAt) (B : Bx E RX7 tbX7_wantedAt 6 (some .int)) (hQ : Rt E) (hr : Rs E (some (.int x)) mm) (n : Nat) : ∀ (x1 : Int32) (x2 : Int32) (x3 : Int32) (x4 : Int32), f7_wantedAt_l9 mm n x1 x2 x3 x4 = some x → G E 6 9 [(0, .ref 0), (1, .int x1), (2, .int x2), (3, .int x3), (4, .int x4)] [] mm := by
  induction n with
  | zero =>
    intro x1 x2 x3 x4 hf
    rw [f7_wantedAt_l9] at hf
    cases hf
  | succ n ih =>
    intro x1 x2 x3 x4 hf
    rw [f7_wantedAt_l9] at hf
    refine z_iload_n B 6 rfl 3 3 rfl rfl ?_
    refine z_iload B 7 rfl 4 rfl ?_
    by_cases hc : x3 < x4
    · replace hf := (if_pos hc).symm.trans hf
      refine z_icmp_ge_f B 8 rfl 51 (by decide) hc ?_
      refine z_iload_n B 9 rfl 3 3 rfl rfl ?_
      refine z_iload B 10 rfl 4 rfl ?_
      refine z_iadd B 11 rfl ?_
      refine z_iconst 1 B 12 rfl (by decide) ?_
      refine z_iadd B 13 rfl ?_
      refine z_iconst 2 B 14 rfl (by decide) ?_
      obtain ⟨hz, hf⟩ := dvz_e hf
      refine z_idiv B 15 rfl hz ?_
      obtain ⟨v2, ex, hf⟩ := nm_x hf
      refine z_top ex ?_
      refine z_istore [(5, .int v2), (0, .ref 0), (1, .int x1), (2, .int x2), (3, .int x3), (4, .int x4)] B 16 rfl (by decide) rfl ?_
      refine z_aload_n B 17 rfl 0 1 rfl rfl ?_
      refine z_iload_n B 18 rfl 1 2 rfl rfl ?_
      refine z_iload B 19 rfl 0 rfl ?_
      obtain ⟨r3, ec, hf⟩ := bd_e hf
      refine z_callV 0 7 [.int x1, .int v2] [] [.int r3] X B 20 rfl ob_0 rfl rfl miX7_worthOf ⟨(iX7_wantedAt _ (List.mem_of_getElem? (i := 3) rfl)), (iX7_wantedAt _ (List.mem_of_getElem? (i := 4) rfl)), (iX7_wantedAt _ (List.mem_of_getElem? (i := 5) rfl))⟩ (ctX7_worthOf hj ec) ⟨Nat.le_of_ble_eq_true rfl, Nat.le_of_ble_eq_true rfl⟩ rfl rfl (Nat.le_of_ble_eq_true rfl) rfl ?_
      refine z_iload_n B 21 rfl 2 3 rfl rfl ?_
      by_cases hc : r3 < x2
      · replace hf := (if_pos hc).symm.trans hf
        refine z_icmp_lt_t B 22 rfl 42 (by decide) hc ?_
        refine z_iload B 26 rfl 0 rfl ?_
        refine z_iconst 1 B 27 rfl (by decide) ?_
        refine z_isub B 28 rfl ?_
        obtain ⟨v4, ex, hf⟩ := nm_x hf
        refine z_top ex ?_
        refine z_istore [(4, .int v4), (5, .int v2), (0, .ref 0), (1, .int x1), (2, .int x2), (3, .int x3)] B 29 rfl (by decide) rfl ?_
        refine z_sub [(0, .ref 0), (1, .int x1), (2, .int x2), (3, .int x3), (4, .int v4)] [2, 3, 4, 5, 0] rfl ?_
        exact f7_wantedAt_j48_ok hj X B hQ hr ih _ _ _ _ hf
      · replace hf := (if_neg hc).symm.trans hf
        refine z_icmp_lt_f B 22 rfl 42 (by decide) hc ?_
        refine z_iload B 23 rfl 0 rfl ?_
        refine z_istore_n [(3, .int v2), (5, .int v2), (0, .ref 0), (1, .int x1), (2, .int x2), (4, .int x4)] B 24 rfl 3 rfl (by decide) rfl ?_
        refine z_goto B 25 rfl 48 (by decide) ?_
        refine z_sub [(0, .ref 0), (1, .int x1), (2, .int x2), (3, .int v2), (4, .int x4)] [2, 3, 4, 0, 5] rfl ?_
        exact f7_wantedAt_j48_ok hj X B hQ hr ih _ _ _ _ hf
    · replace hf := (if_neg hc).symm.trans hf
      refine z_icmp_ge_t B 8 rfl 51 (by decide) hc ?_
      refine z_iload_n B 31 rfl 3 3 rfl rfl ?_
      cases hf
      exact z_iret B 32 rfl rfl hQ hr
def f7_wantedAt (mm : Mem) (a1 : Int32) (a2 : Int32) : Option Int32 := bd (f7_wanted mm a1) (fun r1 => f7_wantedAt_l9 mm FU a1 a2 (0 : Int32) r1)
theorem ctX7_wantedAt {l : Launch} {C : Cfg} (hj : Dj C) {mm : Mem} {a1 : Int32} {a2 : Int32} {x : Int32} (hf : f7_wantedAt mm a1 a2 = some x) : Ct l C yX7_wantedAt cX7_wantedAt 6 (some .int) 2 48 [.ref 0, .int a1, .int a2] mm (some (.int x)) mm := by
  refine Ct.of (tb := tbX7_wantedAt) hj miX7_wantedAt.2.1 miX7_wantedAt.1 dtX7_wantedAt (Nat.le_of_ble_eq_true rfl) ?_
  intro E B hQ hr X
  unfold f7_wantedAt at hf
  show G E 6 0 [(0, .ref 0), (1, .int a1), (2, .int a2)] [] mm
  refine z_iconst 0 B 0 rfl (by decide) ?_
  refine z_istore_n [(3, .int (0 : Int32)), (0, .ref 0), (1, .int a1), (2, .int a2)] B 1 rfl 3 rfl (by decide) rfl ?_
  refine z_aload_n B 2 rfl 0 1 rfl rfl ?_
  refine z_iload_n B 3 rfl 1 2 rfl rfl ?_
  obtain ⟨r1, ec, hf⟩ := bd_e hf
  refine z_callV 0 7 [.int a1] [] [.int r1] X B 4 rfl ob_0 rfl rfl miX7_wanted ⟨(iX7_wantedAt _ (List.mem_of_getElem? (i := 0) rfl)), (iX7_wantedAt _ (List.mem_of_getElem? (i := 1) rfl)), (iX7_wantedAt _ (List.mem_of_getElem? (i := 2) rfl))⟩ (ctX7_wanted hj ec) ⟨Nat.le_of_ble_eq_true rfl, Nat.le_of_ble_eq_true rfl⟩ rfl rfl (Nat.le_of_ble_eq_true rfl) rfl ?_
  refine z_istore [(4, .int r1), (3, .int (0 : Int32)), (0, .ref 0), (1, .int a1), (2, .int a2)] B 5 rfl (by decide) rfl ?_
  refine z_sub [(0, .ref 0), (1, .int a1), (2, .int a2), (3, .int (0 : Int32)), (4, .int r1)] [2, 3, 4, 1, 0] rfl ?_
  exact f7_wantedAt_l9_ok hj X B hQ hr FU _ _ _ _ hf
/-! ZoneCapacityModel.lineUnits(II)I -/
def tbX7_lineUnits : Tb := [(0, .aload_n 0, 1, 1), (1, .iload_n 1, 1, 2), (2, .bipush 6, 2, 4), (4, .invokevirtual 75, 3, 7), (7, .istore_n 3, 1, 8), (8, .iload_n 2, 1, 9), (9, .iload_n 3, 1, 10), (10, .if_icmp .ge 23, 3, 13), (13, .aload_n 0, 1, 14), (14, .getfield 7, 3, 17), (17, .bipush 79, 2, 19), (19, .bipush 13, 2, 21), (21, .iload_n 1, 1, 22), (22, .imul, 1, 23), (23, .iadd, 1, 24), (24, .bipush 7, 2, 26), (26, .iadd, 1, 27), (27, .iconst 2, 1, 28), (28, .iload_n 2, 1, 29), (29, .imul, 1, 30), (30, .iadd, 1, 31), (31, .iaload, 1, 32), (32, .ireturn, 1, 33), (33, .iload_n 2, 1, 34), (34, .iconst 3, 1, 35), (35, .if_icmp .ne 12, 3, 38), (38, .aload_n 0, 1, 39), (39, .iload_n 1, 1, 40), (40, .iconst 4, 1, 41), (41, .invokevirtual 75, 3, 44), (44, .ifCond .ne 5, 3, 47), (47, .iconst 0, 1, 48), (48, .ireturn, 1, 49), (49, .aload_n 0, 1, 50), (50, .iload_n 1, 1, 51), (51, .iconst 1, 1, 52), (52, .invokevirtual 75, 3, 55), (55, .istore 4, 2, 57), (57, .iconst 0, 1, 58), (58, .istore 5, 2, 60), (60, .iload 5, 2, 62), (62, .iload_n 3, 1, 63), (63, .if_icmp .ge 34, 3, 66), (66, .iload 4, 2, 68), (68, .aload_n 0, 1, 69), (69, .getfield 7, 3, 72), (72, .bipush 79, 2, 74), (74, .bipush 13, 2, 76), (76, .iload_n 1, 1, 77), (77, .imul, 1, 78), (78, .iadd, 1, 79), (79, .bipush 7, 2, 81), (81, .iadd, 1, 82), (82, .iconst 2, 1, 83), (83, .iload 5, 2, 85), (85, .imul, 1, 86), (86, .iadd, 1, 87), (87, .iaload, 1, 88), (88, .isub, 1, 89), (89, .istore 4, 2, 91), (91, .iinc 5 1, 3, 94), (94, .goto (-34), 3, 97), (97, .iload 4, 2, 99), (99, .ireturn, 1, 100)]
theorem dtX7_lineUnits : ∀ q ∈ tbX7_lineUnits, decode cX7_lineUnits q.1 = .ok (q.2.1, q.2.2.1) ∧ q.1 + q.2.2.1 = q.2.2.2 := by decide +kernel
theorem miX7_lineUnits : MI yX7_lineUnits cX7_lineUnits 6 (some .int) 2 := ⟨tw_mem (List.mem_of_getElem? (i := 1078) (by decide +kernel)) rfl, by decide, by decide +kernel, tw_mem (List.mem_of_getElem? (i := 78) (by decide +kernel)) rfl⟩
abbrev rmX7_lineUnits : Room := { frames := 1, cells := 0, slots := 0, locals := 22 }
def wX7_lineUnits : List Cond := [.methodLink "ZoneCapacityModel" 75 yX7_ofResource, .instanceMethod yX7_ofResource, .selects "ZoneCapacityModel" yX7_ofResource yX7_ofResource, .fieldLink "ZoneCapacityModel" 7 "ZoneCapacityModel" "w" "[I"]
theorem iX7_lineUnits : ∀ w ∈ wX7_lineUnits, w ∈ TW := tw_of (ids := [1067, 1069, 33, 939]) (by decide +kernel)
def f7_lineUnits_l60 (mm : Mem) : Nat → Int32 → Int32 → Int32 → Int32 → Option Int32
  | 0, _, _, _, _ => none
  | n + 1, x1, x3, x4, x5 => if x5 < x3 then rdc 1 ((((79 : Int32) + ((13 : Int32) * x1)) + (7 : Int32)) + ((2 : Int32) * x5)) (nm (mm 1 ((((79 : Int32) + ((13 : Int32) * x1)) + (7 : Int32)) + ((2 : Int32) * x5)).toNatClampNeg) (fun v4 => nm (x4 - v4) (fun v5 => nm (x5 + 1) (fun v6 => f7_lineUnits_l60 mm n x1 x3 v5 v6)))) else some (x4)
theorem f7_lineUnits_l60_ok {E : Ev} {l : Launch} {C : Cfg} {mm : Mem} {x : Int32} (hj : Dj C) (X : Ec E l C rmX7_lineUnits) (B : Bx E RX7 tbX7_lineUnits 6 (some .int)) (hQ : Rt E) (hr : Rs E (some (.int x)) mm) (n : Nat) : ∀ (x1 : Int32) (x3 : Int32) (x4 : Int32) (x5 : Int32), f7_lineUnits_l60 mm n x1 x3 x4 x5 = some x → G E 6 60 [(0, .ref 0), (1, .int x1), (3, .int x3), (4, .int x4), (5, .int x5)] [] mm := by
  induction n with
  | zero =>
    intro x1 x3 x4 x5 hf
    rw [f7_lineUnits_l60] at hf
    cases hf
  | succ n ih =>
    intro x1 x3 x4 x5 hf
    rw [f7_lineUnits_l60] at hf
    refine z_iload B 40 rfl 4 rfl ?_
    refine z_iload_n B 41 rfl 3 2 rfl rfl ?_
    by_cases hc : x5 < x3
    · replace hf := (if_pos hc).symm.trans hf
      refine z_icmp_ge_f B 42 rfl 97 (by decide) hc ?_
      refine z_iload B 43 rfl 3 rfl ?_
      refine z_aload_n B 44 rfl 0 0 rfl rfl ?_
      refine z_getr 7 1 0 B 45 rfl ob_0 rfl (iX7_lineUnits _ (List.mem_of_getElem? (i := 3) rfl)) rfl ?_
      refine z_bipush 79 B 46 rfl (by decide) ?_
      refine z_bipush 13 B 47 rfl (by decide) ?_
      refine z_iload_n B 48 rfl 1 1 rfl rfl ?_
      refine z_imul B 49 rfl ?_
      refine z_iadd B 50 rfl ?_
      refine z_bipush 7 B 51 rfl (by decide) ?_
      refine z_iadd B 52 rfl ?_
      refine z_iconst 2 B 53 rfl (by decide) ?_
      refine z_iload B 54 rfl 4 rfl ?_
      refine z_imul B 55 rfl ?_
      refine z_iadd B 56 rfl ?_
      obtain ⟨hx, hf⟩ := rdc_e hf
      refine z_iald B 57 rfl ob_1 hx ?_
      obtain ⟨v4, ex, hf⟩ := nm_x hf
      refine z_top ex ?_
      refine z_isub B 58 rfl ?_
      obtain ⟨v5, ex, hf⟩ := nm_x hf
      refine z_top ex ?_
      refine z_istore [(4, .int v5), (0, .ref 0), (1, .int x1), (3, .int x3), (5, .int x5)] B 59 rfl (by decide) rfl ?_
      obtain ⟨v6, ex, hf⟩ := nm_x hf
      refine z_iinc v6 [(5, .int v6), (4, .int v5), (0, .ref 0), (1, .int x1), (3, .int x3)] B 60 rfl 4 rfl (ex.symm) (by decide) rfl ?_
      refine z_goto B 61 rfl 60 (by decide) ?_
      refine z_sub [(0, .ref 0), (1, .int x1), (3, .int x3), (4, .int v5), (5, .int v6)] [2, 3, 4, 1, 0] rfl ?_
      exact ih _ _ _ _ hf
    · replace hf := (if_neg hc).symm.trans hf
      refine z_icmp_ge_t B 42 rfl 97 (by decide) hc ?_
      refine z_iload B 62 rfl 3 rfl ?_
      cases hf
      exact z_iret B 63 rfl rfl hQ hr
def f7_lineUnits (mm : Mem) (a1 : Int32) (a2 : Int32) : Option Int32 := bd (f7_ofResource mm a1 (6 : Int32)) (fun r1 => if a2 < r1 then rdc 1 ((((79 : Int32) + ((13 : Int32) * a1)) + (7 : Int32)) + ((2 : Int32) * a2)) (nm (mm 1 ((((79 : Int32) + ((13 : Int32) * a1)) + (7 : Int32)) + ((2 : Int32) * a2)).toNatClampNeg) (fun v7 => some (v7))) else if a2 = (3 : Int32) then bd (f7_ofResource mm a1 (4 : Int32)) (fun r2 => if r2 = 0 then some ((0 : Int32)) else bd (f7_ofResource mm a1 (1 : Int32)) (fun r3 => f7_lineUnits_l60 mm FU a1 r1 r3 (0 : Int32))) else some ((0 : Int32)))
theorem ctX7_lineUnits {l : Launch} {C : Cfg} (hj : Dj C) {mm : Mem} {a1 : Int32} {a2 : Int32} {x : Int32} (hf : f7_lineUnits mm a1 a2 = some x) : Ct l C yX7_lineUnits cX7_lineUnits 6 (some .int) 1 22 [.ref 0, .int a1, .int a2] mm (some (.int x)) mm := by
  refine Ct.of (tb := tbX7_lineUnits) hj miX7_lineUnits.2.1 miX7_lineUnits.1 dtX7_lineUnits (Nat.le_of_ble_eq_true rfl) ?_
  intro E B hQ hr X
  unfold f7_lineUnits at hf
  show G E 6 0 [(0, .ref 0), (1, .int a1), (2, .int a2)] [] mm
  refine z_aload_n B 0 rfl 0 0 rfl rfl ?_
  refine z_iload_n B 1 rfl 1 1 rfl rfl ?_
  refine z_bipush 6 B 2 rfl (by decide) ?_
  obtain ⟨r1, ec, hf⟩ := bd_e hf
  refine z_callV 0 7 [.int a1, .int (6 : Int32)] [] [.int r1] X B 3 rfl ob_0 rfl rfl miX7_ofResource ⟨(iX7_lineUnits _ (List.mem_of_getElem? (i := 0) rfl)), (iX7_lineUnits _ (List.mem_of_getElem? (i := 1) rfl)), (iX7_lineUnits _ (List.mem_of_getElem? (i := 2) rfl))⟩ (ctX7_ofResource hj ec) ⟨Nat.le_of_ble_eq_true rfl, Nat.le_of_ble_eq_true rfl⟩ rfl rfl (Nat.le_of_ble_eq_true rfl) rfl ?_
  refine z_istore_n [(3, .int r1), (0, .ref 0), (1, .int a1), (2, .int a2)] B 4 rfl 3 rfl (by decide) rfl ?_
  refine z_iload_n B 5 rfl 2 3 rfl rfl ?_
  refine z_iload_n B 6 rfl 3 0 rfl rfl ?_
  by_cases hc : a2 < r1
  · replace hf := (if_pos hc).symm.trans hf
    refine z_icmp_ge_f B 7 rfl 33 (by decide) hc ?_
    refine z_aload_n B 8 rfl 0 1 rfl rfl ?_
    refine z_getr 7 1 0 B 9 rfl ob_0 rfl (iX7_lineUnits _ (List.mem_of_getElem? (i := 3) rfl)) rfl ?_
    refine z_bipush 79 B 10 rfl (by decide) ?_
    refine z_bipush 13 B 11 rfl (by decide) ?_
    refine z_iload_n B 12 rfl 1 2 rfl rfl ?_
    refine z_imul B 13 rfl ?_
    refine z_iadd B 14 rfl ?_
    refine z_bipush 7 B 15 rfl (by decide) ?_
    refine z_iadd B 16 rfl ?_
    refine z_iconst 2 B 17 rfl (by decide) ?_
    refine z_iload_n B 18 rfl 2 3 rfl rfl ?_
    refine z_imul B 19 rfl ?_
    refine z_iadd B 20 rfl ?_
    obtain ⟨hx, hf⟩ := rdc_e hf
    refine z_iald B 21 rfl ob_1 hx ?_
    obtain ⟨v7, ex, hf⟩ := nm_x hf
    refine z_top ex ?_
    cases hf
    exact z_iret B 22 rfl rfl hQ hr
  · replace hf := (if_neg hc).symm.trans hf
    refine z_icmp_ge_t B 7 rfl 33 (by decide) hc ?_
    refine z_iload_n B 23 rfl 2 3 rfl rfl ?_
    refine z_iconst 3 B 24 rfl (by decide) ?_
    by_cases hc : a2 = (3 : Int32)
    · replace hf := (if_pos hc).symm.trans hf
      refine z_icmp_ne_f B 25 rfl 47 (by decide) hc ?_
      refine z_aload_n B 26 rfl 0 1 rfl rfl ?_
      refine z_iload_n B 27 rfl 1 2 rfl rfl ?_
      refine z_iconst 4 B 28 rfl (by decide) ?_
      obtain ⟨r2, ec, hf⟩ := bd_e hf
      refine z_callV 0 7 [.int a1, .int (4 : Int32)] [] [.int r2] X B 29 rfl ob_0 rfl rfl miX7_ofResource ⟨(iX7_lineUnits _ (List.mem_of_getElem? (i := 0) rfl)), (iX7_lineUnits _ (List.mem_of_getElem? (i := 1) rfl)), (iX7_lineUnits _ (List.mem_of_getElem? (i := 2) rfl))⟩ (ctX7_ofResource hj ec) ⟨Nat.le_of_ble_eq_true rfl, Nat.le_of_ble_eq_true rfl⟩ rfl rfl (Nat.le_of_ble_eq_true rfl) rfl ?_
      by_cases hc : r2 = 0
      · replace hf := (if_pos hc).symm.trans hf
        refine z_if_ne_f B 30 rfl 49 (by decide) hc ?_
        refine z_iconst 0 B 31 rfl (by decide) ?_
        cases hf
        exact z_iret B 32 rfl rfl hQ hr
      · replace hf := (if_neg hc).symm.trans hf
        refine z_if_ne_t B 30 rfl 49 (by decide) hc ?_
        refine z_aload_n B 33 rfl 0 1 rfl rfl ?_
        refine z_iload_n B 34 rfl 1 2 rfl rfl ?_
        refine z_iconst 1 B 35 rfl (by decide) ?_
        obtain ⟨r3, ec, hf⟩ := bd_e hf
        refine z_callV 0 7 [.int a1, .int (1 : Int32)] [] [.int r3] X B 36 rfl ob_0 rfl rfl miX7_ofResource ⟨(iX7_lineUnits _ (List.mem_of_getElem? (i := 0) rfl)), (iX7_lineUnits _ (List.mem_of_getElem? (i := 1) rfl)), (iX7_lineUnits _ (List.mem_of_getElem? (i := 2) rfl))⟩ (ctX7_ofResource hj ec) ⟨Nat.le_of_ble_eq_true rfl, Nat.le_of_ble_eq_true rfl⟩ rfl rfl (Nat.le_of_ble_eq_true rfl) rfl ?_
        refine z_istore [(4, .int r3), (3, .int r1), (0, .ref 0), (1, .int a1), (2, .int a2)] B 37 rfl (by decide) rfl ?_
        refine z_iconst 0 B 38 rfl (by decide) ?_
        refine z_istore [(5, .int (0 : Int32)), (4, .int r3), (3, .int r1), (0, .ref 0), (1, .int a1), (2, .int a2)] B 39 rfl (by decide) rfl ?_
        refine z_sub [(0, .ref 0), (1, .int a1), (3, .int r1), (4, .int r3), (5, .int (0 : Int32))] [3, 4, 2, 1, 0] rfl ?_
        exact f7_lineUnits_l60_ok hj X B hQ hr FU _ _ _ _ hf
    · replace hf := (if_neg hc).symm.trans hf
      refine z_icmp_ne_t B 25 rfl 47 (by decide) hc ?_
      refine z_iconst 0 B 31 rfl (by decide) ?_
      cases hf
      exact z_iret B 32 rfl rfl hQ hr
/-! ZoneCapacityModel.lineIts(II)I -/
def tbX7_lineIts : Tb := [(0, .iload_n 2, 1, 1), (1, .iconst 3, 1, 2), (2, .if_icmp .ne 5, 3, 5), (5, .iconst 0, 1, 6), (6, .ireturn, 1, 7), (7, .aload_n 0, 1, 8), (8, .getfield 7, 3, 11), (11, .bipush 79, 2, 13), (13, .bipush 13, 2, 15), (15, .iload_n 1, 1, 16), (16, .imul, 1, 17), (17, .iadd, 1, 18), (18, .bipush 8, 2, 20), (20, .iadd, 1, 21), (21, .iconst 2, 1, 22), (22, .iload_n 2, 1, 23), (23, .imul, 1, 24), (24, .iadd, 1, 25), (25, .iaload, 1, 26), (26, .istore_n 3, 1, 27), (27, .aload_n 0, 1, 28), (28, .getfield 78, 3, 31), (31, .ifCond .eq 7, 3, 34), (34, .iconst 0, 1, 35), (35, .goto 16, 3, 38), (38, .aload_n 0, 1, 39), (39, .getfield 7, 3, 42), (42, .iconst 3, 1, 43), (43, .aload_n 0, 1, 44), (44, .iload_n 1, 1, 45), (45, .iconst 2, 1, 46), (46, .invokevirtual 75, 3, 49), (49, .iadd, 1, 50), (50, .iaload, 1, 51), (51, .istore 4, 2, 53), (53, .aload_n 0, 1, 54), (54, .iload_n 1, 1, 55), (55, .iconst 5, 1, 56), (56, .invokevirtual 75, 3, 59), (59, .ifCond .ne 14, 3, 62), (62, .iload 4, 2, 64), (64, .iload_n 3, 1, 65), (65, .if_icmp .le 8, 3, 68), (68, .iload 4, 2, 70), (70, .goto 4, 3, 73), (73, .iload_n 3, 1, 74), (74, .istore_n 3, 1, 75), (75, .aload_n 0, 1, 76), (76, .iload_n 1, 1, 77), (77, .iconst 4, 1, 78), (78, .invokevirtual 75, 3, 81), (81, .iconst 1, 1, 82), (82, .if_icmp .ne 22, 3, 85), (85, .aload_n 0, 1, 86), (86, .getfield 7, 3, 89), (89, .iconst 2, 1, 90), (90, .iaload, 1, 91), (91, .iload_n 3, 1, 92), (92, .if_icmp .ge 12, 3, 95), (95, .aload_n 0, 1, 96), (96, .getfield 7, 3, 99), (99, .iconst 2, 1, 100), (100, .iaload, 1, 101), (101, .goto 4, 3, 104), (104, .iload_n 3, 1, 105), (105, .ireturn, 1, 106)]
theorem dtX7_lineIts : ∀ q ∈ tbX7_lineIts, decode cX7_lineIts q.1 = .ok (q.2.1, q.2.2.1) ∧ q.1 + q.2.2.1 = q.2.2.2 := by decide +kernel
theorem miX7_lineIts : MI yX7_lineIts cX7_lineIts 5 (some .int) 2 := ⟨tw_mem (List.mem_of_getElem? (i := 1130) (by decide +kernel)) rfl, by decide, by decide +kernel, tw_mem (List.mem_of_getElem? (i := 78) (by decide +kernel)) rfl⟩
abbrev rmX7_lineIts : Room := { frames := 1, cells := 0, slots := 0, locals := 22 }
def wX7_lineIts : List Cond := [.fieldLink "ZoneCapacityModel" 7 "ZoneCapacityModel" "w" "[I", .fieldLink "ZoneCapacityModel" 78 "ZoneCapacityModel" "noFloors" "Z", .methodLink "ZoneCapacityModel" 75 yX7_ofResource, .instanceMethod yX7_ofResource, .selects "ZoneCapacityModel" yX7_ofResource yX7_ofResource]
theorem iX7_lineIts : ∀ w ∈ wX7_lineIts, w ∈ TW := tw_of (ids := [939, 944, 1067, 1069, 33]) (by decide +kernel)
def f7_lineIts_j74 (mm : Mem) (x1 : Int32) (s0 : Int32) : Option Int32 := bd (f7_ofResource mm x1 (4 : Int32)) (fun r5 => if r5 = (1 : Int32) then rdc 1 (2 : Int32) (nm (mm 1 (2 : Int32).toNatClampNeg) (fun v6 => if v6 < s0 then rdc 1 (2 : Int32) (nm (mm 1 (2 : Int32).toNatClampNeg) (fun v7 => some (v7))) else some (s0))) else some (s0))
theorem f7_lineIts_j74_ok {E : Ev} {l : Launch} {C : Cfg} {mm : Mem} {x : Int32} (hj : Dj C) (X : Ec E l C rmX7_lineIts) (B : Bx E RX7 tbX7_lineIts 5 (some .int)) (hQ : Rt E) (hr : Rs E (some (.int x)) mm) (x1 : Int32) (s0 : Int32) (hf : f7_lineIts_j74 mm x1 s0 = some x) : G E 5 74 [(0, .ref 0), (1, .int x1)] [.int s0] mm := by
  unfold f7_lineIts_j74 at hf
  refine z_istore_n [(3, .int s0), (0, .ref 0), (1, .int x1)] B 46 rfl 3 rfl (by decide) rfl ?_
  refine z_aload_n B 47 rfl 0 1 rfl rfl ?_
  refine z_iload_n B 48 rfl 1 2 rfl rfl ?_
  refine z_iconst 4 B 49 rfl (by decide) ?_
  obtain ⟨r5, ec, hf⟩ := bd_e hf
  refine z_callV 0 7 [.int x1, .int (4 : Int32)] [] [.int r5] X B 50 rfl ob_0 rfl rfl miX7_ofResource ⟨(iX7_lineIts _ (List.mem_of_getElem? (i := 2) rfl)), (iX7_lineIts _ (List.mem_of_getElem? (i := 3) rfl)), (iX7_lineIts _ (List.mem_of_getElem? (i := 4) rfl))⟩ (ctX7_ofResource hj ec) ⟨Nat.le_of_ble_eq_true rfl, Nat.le_of_ble_eq_true rfl⟩ rfl rfl (Nat.le_of_ble_eq_true rfl) rfl ?_
  refine z_iconst 1 B 51 rfl (by decide) ?_
  by_cases hc : r5 = (1 : Int32)
  · replace hf := (if_pos hc).symm.trans hf
    refine z_icmp_ne_f B 52 rfl 104 (by decide) hc ?_
    refine z_aload_n B 53 rfl 0 1 rfl rfl ?_
    refine z_getr 7 1 0 B 54 rfl ob_0 rfl (iX7_lineIts _ (List.mem_of_getElem? (i := 0) rfl)) rfl ?_
    refine z_iconst 2 B 55 rfl (by decide) ?_
    obtain ⟨hx, hf⟩ := rdc_e hf
    refine z_iald B 56 rfl ob_1 hx ?_
    obtain ⟨v6, ex, hf⟩ := nm_x hf
    refine z_top ex ?_
    refine z_iload_n B 57 rfl 3 0 rfl rfl ?_
    by_cases hc : v6 < s0
    · replace hf := (if_pos hc).symm.trans hf
      refine z_icmp_ge_f B 58 rfl 104 (by decide) hc ?_
      refine z_aload_n B 59 rfl 0 1 rfl rfl ?_
      refine z_getr 7 1 0 B 60 rfl ob_0 rfl (iX7_lineIts _ (List.mem_of_getElem? (i := 0) rfl)) rfl ?_
      refine z_iconst 2 B 61 rfl (by decide) ?_
      obtain ⟨hx, hf⟩ := rdc_e hf
      refine z_iald B 62 rfl ob_1 hx ?_
      obtain ⟨v7, ex, hf⟩ := nm_x hf
      refine z_top ex ?_
      refine z_goto B 63 rfl 105 (by decide) ?_
      cases hf
      exact z_iret B 65 rfl rfl hQ hr
    · replace hf := (if_neg hc).symm.trans hf
      refine z_icmp_ge_t B 58 rfl 104 (by decide) hc ?_
      refine z_iload_n B 64 rfl 3 0 rfl rfl ?_
      cases hf
      exact z_iret B 65 rfl rfl hQ hr
  · replace hf := (if_neg hc).symm.trans hf
    refine z_icmp_ne_t B 52 rfl 104 (by decide) hc ?_
    refine z_iload_n B 64 rfl 3 0 rfl rfl ?_
    cases hf
    exact z_iret B 65 rfl rfl hQ hr
def f7_lineIts_j73 (mm : Mem) (x1 : Int32) (x3 : Int32) : Option Int32 := f7_lineIts_j74 mm x1 x3
theorem f7_lineIts_j73_ok {E : Ev} {l : Launch} {C : Cfg} {mm : Mem} {x : Int32} (hj : Dj C) (X : Ec E l C rmX7_lineIts) (B : Bx E RX7 tbX7_lineIts 5 (some .int)) (hQ : Rt E) (hr : Rs E (some (.int x)) mm) (x1 : Int32) (x3 : Int32) (hf : f7_lineIts_j73 mm x1 x3 = some x) : G E 5 73 [(0, .ref 0), (1, .int x1), (3, .int x3)] [] mm := by
  unfold f7_lineIts_j73 at hf
  refine z_iload_n B 45 rfl 3 2 rfl rfl ?_
  refine z_sub [(0, .ref 0), (1, .int x1)] [0, 1] rfl ?_
  exact f7_lineIts_j74_ok hj X B hQ hr _ _ hf
def f7_lineIts_j51 (mm : Mem) (x1 : Int32) (x3 : Int32) (s0 : Int32) : Option Int32 := bd (f7_ofResource mm x1 (5 : Int32)) (fun r4 => if r4 = 0 then if x3 < s0 then f7_lineIts_j74 mm x1 s0 else f7_lineIts_j73 mm x1 x3 else f7_lineIts_j73 mm x1 x3)
theorem f7_lineIts_j51_ok {E : Ev} {l : Launch} {C : Cfg} {mm : Mem} {x : Int32} (hj : Dj C) (X : Ec E l C rmX7_lineIts) (B : Bx E RX7 tbX7_lineIts 5 (some .int)) (hQ : Rt E) (hr : Rs E (some (.int x)) mm) (x1 : Int32) (x3 : Int32) (s0 : Int32) (hf : f7_lineIts_j51 mm x1 x3 s0 = some x) : G E 5 51 [(0, .ref 0), (1, .int x1), (3, .int x3)] [.int s0] mm := by
  unfold f7_lineIts_j51 at hf
  refine z_istore [(4, .int s0), (0, .ref 0), (1, .int x1), (3, .int x3)] B 34 rfl (by decide) rfl ?_
  refine z_aload_n B 35 rfl 0 1 rfl rfl ?_
  refine z_iload_n B 36 rfl 1 2 rfl rfl ?_
  refine z_iconst 5 B 37 rfl (by decide) ?_
  obtain ⟨r4, ec, hf⟩ := bd_e hf
  refine z_callV 0 7 [.int x1, .int (5 : Int32)] [] [.int r4] X B 38 rfl ob_0 rfl rfl miX7_ofResource ⟨(iX7_lineIts _ (List.mem_of_getElem? (i := 2) rfl)), (iX7_lineIts _ (List.mem_of_getElem? (i := 3) rfl)), (iX7_lineIts _ (List.mem_of_getElem? (i := 4) rfl))⟩ (ctX7_ofResource hj ec) ⟨Nat.le_of_ble_eq_true rfl, Nat.le_of_ble_eq_true rfl⟩ rfl rfl (Nat.le_of_ble_eq_true rfl) rfl ?_
  by_cases hc : r4 = 0
  · replace hf := (if_pos hc).symm.trans hf
    refine z_if_ne_f B 39 rfl 73 (by decide) hc ?_
    refine z_iload B 40 rfl 0 rfl ?_
    refine z_iload_n B 41 rfl 3 3 rfl rfl ?_
    by_cases hc : x3 < s0
    · replace hf := (if_pos hc).symm.trans hf
      refine z_icmp_le_f B 42 rfl 73 (by decide) hc ?_
      refine z_iload B 43 rfl 0 rfl ?_
      refine z_goto B 44 rfl 74 (by decide) ?_
      refine z_sub [(0, .ref 0), (1, .int x1)] [1, 2] rfl ?_
      exact f7_lineIts_j74_ok hj X B hQ hr _ _ hf
    · replace hf := (if_neg hc).symm.trans hf
      refine z_icmp_le_t B 42 rfl 73 (by decide) hc ?_
      refine z_sub [(0, .ref 0), (1, .int x1), (3, .int x3)] [1, 2, 3] rfl ?_
      exact f7_lineIts_j73_ok hj X B hQ hr _ _ hf
  · replace hf := (if_neg hc).symm.trans hf
    refine z_if_ne_t B 39 rfl 73 (by decide) hc ?_
    refine z_sub [(0, .ref 0), (1, .int x1), (3, .int x3)] [1, 2, 3] rfl ?_
    exact f7_lineIts_j73_ok hj X B hQ hr _ _ hf
def f7_lineIts (mm : Mem) (a1 : Int32) (a2 : Int32) : Option Int32 := if a2 = (3 : Int32) then some ((0 : Int32)) else rdc 1 ((((79 : Int32) + ((13 : Int32) * a1)) + (8 : Int32)) + ((2 : Int32) * a2)) (nm (mm 1 ((((79 : Int32) + ((13 : Int32) * a1)) + (8 : Int32)) + ((2 : Int32) * a2)).toNatClampNeg) (fun v1 => if (mm 0 6) = 0 then bd (f7_ofResource mm a1 (2 : Int32)) (fun r2 => rdc 1 ((3 : Int32) + r2) (nm (mm 1 ((3 : Int32) + r2).toNatClampNeg) (fun v3 => f7_lineIts_j51 mm a1 v1 v3))) else f7_lineIts_j51 mm a1 v1 (0 : Int32)))
theorem ctX7_lineIts {l : Launch} {C : Cfg} (hj : Dj C) {mm : Mem} {a1 : Int32} {a2 : Int32} {x : Int32} (hf : f7_lineIts mm a1 a2 = some x) : Ct l C yX7_lineIts cX7_lineIts 5 (some .int) 1 22 [.ref 0, .int a1, .int a2] mm (some (.int x)) mm := by
  refine Ct.of (tb := tbX7_lineIts) hj miX7_lineIts.2.1 miX7_lineIts.1 dtX7_lineIts (Nat.le_of_ble_eq_true rfl) ?_
  intro E B hQ hr X
  unfold f7_lineIts at hf
  show G E 5 0 [(0, .ref 0), (1, .int a1), (2, .int a2)] [] mm
  refine z_iload_n B 0 rfl 2 2 rfl rfl ?_
  refine z_iconst 3 B 1 rfl (by decide) ?_
  by_cases hc : a2 = (3 : Int32)
  · replace hf := (if_pos hc).symm.trans hf
    refine z_icmp_ne_f B 2 rfl 7 (by decide) hc ?_
    refine z_iconst 0 B 3 rfl (by decide) ?_
    cases hf
    exact z_iret B 4 rfl rfl hQ hr
  · replace hf := (if_neg hc).symm.trans hf
    refine z_icmp_ne_t B 2 rfl 7 (by decide) hc ?_
    refine z_aload_n B 5 rfl 0 0 rfl rfl ?_
    refine z_getr 7 1 0 B 6 rfl ob_0 rfl (iX7_lineIts _ (List.mem_of_getElem? (i := 0) rfl)) rfl ?_
    refine z_bipush 79 B 7 rfl (by decide) ?_
    refine z_bipush 13 B 8 rfl (by decide) ?_
    refine z_iload_n B 9 rfl 1 1 rfl rfl ?_
    refine z_imul B 10 rfl ?_
    refine z_iadd B 11 rfl ?_
    refine z_bipush 8 B 12 rfl (by decide) ?_
    refine z_iadd B 13 rfl ?_
    refine z_iconst 2 B 14 rfl (by decide) ?_
    refine z_iload_n B 15 rfl 2 2 rfl rfl ?_
    refine z_imul B 16 rfl ?_
    refine z_iadd B 17 rfl ?_
    obtain ⟨hx, hf⟩ := rdc_e hf
    refine z_iald B 18 rfl ob_1 hx ?_
    obtain ⟨v1, ex, hf⟩ := nm_x hf
    refine z_top ex ?_
    refine z_istore_n [(3, .int v1), (0, .ref 0), (1, .int a1), (2, .int a2)] B 19 rfl 3 rfl (by decide) rfl ?_
    refine z_aload_n B 20 rfl 0 1 rfl rfl ?_
    refine z_geti 7 6 0 B 21 rfl ob_0 rfl (iX7_lineIts _ (List.mem_of_getElem? (i := 1) rfl)) rfl ?_
    by_cases hc : (mm 0 6) = 0
    · replace hf := (if_pos hc).symm.trans hf
      refine z_if_eq_t B 22 rfl 38 (by decide) hc ?_
      refine z_aload_n B 25 rfl 0 1 rfl rfl ?_
      refine z_getr 7 1 0 B 26 rfl ob_0 rfl (iX7_lineIts _ (List.mem_of_getElem? (i := 0) rfl)) rfl ?_
      refine z_iconst 3 B 27 rfl (by decide) ?_
      refine z_aload_n B 28 rfl 0 1 rfl rfl ?_
      refine z_iload_n B 29 rfl 1 2 rfl rfl ?_
      refine z_iconst 2 B 30 rfl (by decide) ?_
      obtain ⟨r2, ec, hf⟩ := bd_e hf
      refine z_callV 0 7 [.int a1, .int (2 : Int32)] [.int (3 : Int32), .ref 1] [.int r2, .int (3 : Int32), .ref 1] X B 31 rfl ob_0 rfl rfl miX7_ofResource ⟨(iX7_lineIts _ (List.mem_of_getElem? (i := 2) rfl)), (iX7_lineIts _ (List.mem_of_getElem? (i := 3) rfl)), (iX7_lineIts _ (List.mem_of_getElem? (i := 4) rfl))⟩ (ctX7_ofResource hj ec) ⟨Nat.le_of_ble_eq_true rfl, Nat.le_of_ble_eq_true rfl⟩ rfl rfl (Nat.le_of_ble_eq_true rfl) rfl ?_
      refine z_iadd B 32 rfl ?_
      obtain ⟨hx, hf⟩ := rdc_e hf
      refine z_iald B 33 rfl ob_1 hx ?_
      obtain ⟨v3, ex, hf⟩ := nm_x hf
      refine z_top ex ?_
      refine z_sub [(0, .ref 0), (1, .int a1), (3, .int v1)] [1, 2, 0] rfl ?_
      exact f7_lineIts_j51_ok hj X B hQ hr _ _ _ hf
    · replace hf := (if_neg hc).symm.trans hf
      refine z_if_eq_f B 22 rfl 38 (by decide) hc ?_
      refine z_iconst 0 B 23 rfl (by decide) ?_
      refine z_goto B 24 rfl 51 (by decide) ?_
      refine z_sub [(0, .ref 0), (1, .int a1), (3, .int v1)] [1, 2, 0] rfl ?_
      exact f7_lineIts_j51_ok hj X B hQ hr _ _ _ hf
/-! ZoneCapacityModel.isLine(II)Z -/
def tbX7_isLine : Tb := [(0, .iload_n 2, 1, 1), (1, .iconst 0, 1, 2), (2, .iconst 3, 1, 3), (3, .invokestatic 54, 3, 6), (6, .ifCond .eq 16, 3, 9), (9, .aload_n 0, 1, 10), (10, .iload_n 1, 1, 11), (11, .iload_n 2, 1, 12), (12, .invokevirtual 82, 3, 15), (15, .ifCond .le 7, 3, 18), (18, .iconst 1, 1, 19), (19, .goto 4, 3, 22), (22, .iconst 0, 1, 23), (23, .ireturn, 1, 24)]
theorem dtX7_isLine : ∀ q ∈ tbX7_isLine, decode cX7_isLine q.1 = .ok (q.2.1, q.2.2.1) ∧ q.1 + q.2.2.1 = q.2.2.2 := by decide +kernel
theorem miX7_isLine : MI yX7_isLine cX7_isLine 3 (some .boolean) 2 := ⟨tw_mem (List.mem_of_getElem? (i := 1126) (by decide +kernel)) rfl, by decide, by decide +kernel, tw_mem (List.mem_of_getElem? (i := 78) (by decide +kernel)) rfl⟩
abbrev rmX7_isLine : Room := { frames := 2, cells := 0, slots := 0, locals := 47 }
def wX7_isLine : List Cond := [.methodLink "ZoneCapacityModel" 54 yX7_in, .static yX7_in, .methodLink "ZoneCapacityModel" 82 yX7_lineUnits, .instanceMethod yX7_lineUnits, .selects "ZoneCapacityModel" yX7_lineUnits yX7_lineUnits]
theorem iX7_isLine : ∀ w ∈ wX7_isLine, w ∈ TW := tw_of (ids := [1021, 1022, 1075, 1077, 35]) (by decide +kernel)
def f7_isLine (mm : Mem) (a1 : Int32) (a2 : Int32) : Option Int32 := bd (f7_in mm a2 (0 : Int32) (3 : Int32)) (fun r1 => if r1 = 0 then some ((0 : Int32)) else bd (f7_lineUnits mm a1 a2) (fun r2 => if 0 < r2 then some ((1 : Int32)) else some ((0 : Int32))))
theorem ctX7_isLine {l : Launch} {C : Cfg} (hj : Dj C) {mm : Mem} {a1 : Int32} {a2 : Int32} {x : Int32} (hf : f7_isLine mm a1 a2 = some x) : Ct l C yX7_isLine cX7_isLine 3 (some .boolean) 2 47 [.ref 0, .int a1, .int a2] mm (some (.int x)) mm := by
  refine Ct.of (tb := tbX7_isLine) hj miX7_isLine.2.1 miX7_isLine.1 dtX7_isLine (Nat.le_of_ble_eq_true rfl) ?_
  intro E B hQ hr X
  unfold f7_isLine at hf
  show G E 3 0 [(0, .ref 0), (1, .int a1), (2, .int a2)] [] mm
  refine z_iload_n B 0 rfl 2 2 rfl rfl ?_
  refine z_iconst 0 B 1 rfl (by decide) ?_
  refine z_iconst 3 B 2 rfl (by decide) ?_
  obtain ⟨r1, ec, hf⟩ := bd_e hf
  refine z_callS [.int a2, .int (0 : Int32), .int (3 : Int32)] [] [.int r1] X B 3 rfl miX7_in ⟨(iX7_isLine _ (List.mem_of_getElem? (i := 0) rfl)), (iX7_isLine _ (List.mem_of_getElem? (i := 1) rfl))⟩ (ctX7_in hj ec) ⟨Nat.le_of_ble_eq_true rfl, Nat.le_of_ble_eq_true rfl⟩ rfl rfl (Nat.le_of_ble_eq_true rfl) rfl ?_
  by_cases hc : r1 = 0
  · replace hf := (if_pos hc).symm.trans hf
    refine z_if_eq_t B 4 rfl 22 (by decide) hc ?_
    refine z_iconst 0 B 12 rfl (by decide) ?_
    cases hf
    exact z_iret B 13 rfl (by decide) hQ hr
  · replace hf := (if_neg hc).symm.trans hf
    refine z_if_eq_f B 4 rfl 22 (by decide) hc ?_
    refine z_aload_n B 5 rfl 0 0 rfl rfl ?_
    refine z_iload_n B 6 rfl 1 1 rfl rfl ?_
    refine z_iload_n B 7 rfl 2 2 rfl rfl ?_
    obtain ⟨r2, ec, hf⟩ := bd_e hf
    refine z_callV 0 7 [.int a1, .int a2] [] [.int r2] X B 8 rfl ob_0 rfl rfl miX7_lineUnits ⟨(iX7_isLine _ (List.mem_of_getElem? (i := 2) rfl)), (iX7_isLine _ (List.mem_of_getElem? (i := 3) rfl)), (iX7_isLine _ (List.mem_of_getElem? (i := 4) rfl))⟩ (ctX7_lineUnits hj ec) ⟨Nat.le_of_ble_eq_true rfl, Nat.le_of_ble_eq_true rfl⟩ rfl rfl (Nat.le_of_ble_eq_true rfl) rfl ?_
    by_cases hc : 0 < r2
    · replace hf := (if_pos hc).symm.trans hf
      refine z_if_le_f B 9 rfl 22 (by decide) hc ?_
      refine z_iconst 1 B 10 rfl (by decide) ?_
      refine z_goto B 11 rfl 23 (by decide) ?_
      cases hf
      exact z_iret B 13 rfl (by decide) hQ hr
    · replace hf := (if_neg hc).symm.trans hf
      refine z_if_le_t B 9 rfl 22 (by decide) hc ?_
      refine z_iconst 0 B 12 rfl (by decide) ?_
      cases hf
      exact z_iret B 13 rfl (by decide) hQ hr
/-! ZoneCapacityModel.offered(IIZ)I -/
def tbX7_offered : Tb := [(0, .iconst 0, 1, 1), (1, .istore 4, 2, 3), (3, .iconst 0, 1, 4), (4, .istore 5, 2, 6), (6, .iload 5, 2, 8), (8, .aload_n 0, 1, 9), (9, .getfield 7, 3, 12), (12, .iconst 1, 1, 13), (13, .iaload, 1, 14), (14, .if_icmp .ge 101, 3, 17), (17, .aload_n 0, 1, 18), (18, .iload 5, 2, 20), (20, .iconst 0, 1, 21), (21, .invokevirtual 75, 3, 24), (24, .iload_n 1, 1, 25), (25, .if_icmp .ne 84, 3, 28), (28, .aload_n 0, 1, 29), (29, .getfield 85, 3, 32), (32, .iload 5, 2, 34), (34, .ishr, 1, 35), (35, .iconst 1, 1, 36), (36, .iand, 1, 37), (37, .iconst 1, 1, 38), (38, .if_icmp .ne 6, 3, 41), (41, .goto 68, 3, 44), (44, .iconst 0, 1, 45), (45, .istore 6, 2, 47), (47, .iload 6, 2, 49), (49, .iconst 3, 1, 50), (50, .if_icmp .gt 59, 3, 53), (53, .aload_n 0, 1, 54), (54, .iload 5, 2, 56), (56, .iload 6, 2, 58), (58, .invokevirtual 82, 3, 61), (61, .istore 7, 2, 63), (63, .iload 7, 2, 65), (65, .ifCond .le 38, 3, 68), (68, .aload_n 0, 1, 69), (69, .iload 5, 2, 71), (71, .iload 6, 2, 73), (73, .invokevirtual 88, 3, 76), (76, .iload_n 2, 1, 77), (77, .if_icmp .lt 19, 3, 80), (80, .iload_n 3, 1, 81), (81, .ifCond .eq 22, 3, 84), (84, .aload_n 0, 1, 85), (85, .iload 5, 2, 87), (87, .iload 6, 2, 89), (89, .invokevirtual 88, 3, 92), (92, .iload_n 2, 1, 93), (93, .if_icmp .ne 10, 3, 96), (96, .iload 4, 2, 98), (98, .iload 7, 2, 100), (100, .iadd, 1, 101), (101, .istore 4, 2, 103), (103, .iinc 6 1, 3, 106), (106, .goto (-59), 3, 109), (109, .iinc 5 1, 3, 112), (112, .goto (-106), 3, 115), (115, .iload 4, 2, 117), (117, .ireturn, 1, 118)]
theorem dtX7_offered : ∀ q ∈ tbX7_offered, decode cX7_offered q.1 = .ok (q.2.1, q.2.2.1) ∧ q.1 + q.2.2.1 = q.2.2.2 := by decide +kernel
theorem miX7_offered : MI yX7_offered cX7_offered 8 (some .int) 3 := ⟨tw_mem (List.mem_of_getElem? (i := 1159) (by decide +kernel)) rfl, by decide, by decide +kernel, tw_mem (List.mem_of_getElem? (i := 78) (by decide +kernel)) rfl⟩
abbrev rmX7_offered : Room := { frames := 2, cells := 0, slots := 0, locals := 47 }
def wX7_offered : List Cond := [.fieldLink "ZoneCapacityModel" 7 "ZoneCapacityModel" "w" "[I", .methodLink "ZoneCapacityModel" 75 yX7_ofResource, .instanceMethod yX7_ofResource, .selects "ZoneCapacityModel" yX7_ofResource yX7_ofResource, .fieldLink "ZoneCapacityModel" 85 "ZoneCapacityModel" "gone" "I", .methodLink "ZoneCapacityModel" 82 yX7_lineUnits, .instanceMethod yX7_lineUnits, .selects "ZoneCapacityModel" yX7_lineUnits yX7_lineUnits, .methodLink "ZoneCapacityModel" 88 yX7_lineIts, .instanceMethod yX7_lineIts, .selects "ZoneCapacityModel" yX7_lineIts yX7_lineIts]
theorem iX7_offered : ∀ w ∈ wX7_offered, w ∈ TW := tw_of (ids := [939, 1067, 1069, 33, 943, 1075, 1077, 35, 1127, 1129, 40]) (by decide +kernel)
def f7_offered_j109 (k6 : Int32 → Int32 → Int32 → Int32 → Int32 → Option Int32) (mm : Mem) (x1 : Int32) (x2 : Int32) (x3 : Int32) (x4 : Int32) (x5 : Int32) : Option Int32 := nm (x5 + 1) (fun v3 => k6 x1 x2 x3 x4 v3)
theorem f7_offered_j109_ok {E : Ev} {l : Launch} {C : Cfg} {mm : Mem} {x : Int32} {k6 : Int32 → Int32 → Int32 → Int32 → Int32 → Option Int32} (hj : Dj C) (X : Ec E l C rmX7_offered) (B : Bx E RX7 tbX7_offered 8 (some .int)) (hQ : Rt E) (hr : Rs E (some (.int x)) mm) (hk6 : ∀ (x1 : Int32) (x2 : Int32) (x3 : Int32) (x4 : Int32) (x5 : Int32), k6 x1 x2 x3 x4 x5 = some x → G E 8 6 [(0, .ref 0), (1, .int x1), (2, .int x2), (3, .int x3), (4, .int x4), (5, .int x5)] [] mm) (x1 : Int32) (x2 : Int32) (x3 : Int32) (x4 : Int32) (x5 : Int32) (hf : f7_offered_j109 k6 mm x1 x2 x3 x4 x5 = some x) : G E 8 109 [(0, .ref 0), (1, .int x1), (2, .int x2), (3, .int x3), (4, .int x4), (5, .int x5)] [] mm := by
  unfold f7_offered_j109 at hf
  obtain ⟨v3, ex, hf⟩ := nm_x hf
  refine z_iinc v3 [(5, .int v3), (0, .ref 0), (1, .int x1), (2, .int x2), (3, .int x3), (4, .int x4)] B 57 rfl 5 rfl (ex.symm) (by decide) rfl ?_
  refine z_goto B 58 rfl 6 (by decide) ?_
  refine z_sub [(0, .ref 0), (1, .int x1), (2, .int x2), (3, .int x3), (4, .int x4), (5, .int v3)] [1, 2, 3, 4, 5, 0] rfl ?_
  exact hk6 _ _ _ _ _ hf
def f7_offered_j103 (k6 : Int32 → Int32 → Int32 → Int32 → Int32 → Option Int32) (k47 : Int32 → Int32 → Int32 → Int32 → Int32 → Int32 → Option Int32) (mm : Mem) (x1 : Int32) (x2 : Int32) (x3 : Int32) (x4 : Int32) (x5 : Int32) (x6 : Int32) : Option Int32 := nm (x6 + 1) (fun v5 => k47 x1 x2 x3 x4 x5 v5)
theorem f7_offered_j103_ok {E : Ev} {l : Launch} {C : Cfg} {mm : Mem} {x : Int32} {k6 : Int32 → Int32 → Int32 → Int32 → Int32 → Option Int32} {k47 : Int32 → Int32 → Int32 → Int32 → Int32 → Int32 → Option Int32} (hj : Dj C) (X : Ec E l C rmX7_offered) (B : Bx E RX7 tbX7_offered 8 (some .int)) (hQ : Rt E) (hr : Rs E (some (.int x)) mm) (hk6 : ∀ (x1 : Int32) (x2 : Int32) (x3 : Int32) (x4 : Int32) (x5 : Int32), k6 x1 x2 x3 x4 x5 = some x → G E 8 6 [(0, .ref 0), (1, .int x1), (2, .int x2), (3, .int x3), (4, .int x4), (5, .int x5)] [] mm) (hk47 : ∀ (x1 : Int32) (x2 : Int32) (x3 : Int32) (x4 : Int32) (x5 : Int32) (x6 : Int32), k47 x1 x2 x3 x4 x5 x6 = some x → G E 8 47 [(0, .ref 0), (1, .int x1), (2, .int x2), (3, .int x3), (4, .int x4), (5, .int x5), (6, .int x6)] [] mm) (x1 : Int32) (x2 : Int32) (x3 : Int32) (x4 : Int32) (x5 : Int32) (x6 : Int32) (hf : f7_offered_j103 k6 k47 mm x1 x2 x3 x4 x5 x6 = some x) : G E 8 103 [(0, .ref 0), (1, .int x1), (2, .int x2), (3, .int x3), (4, .int x4), (5, .int x5), (6, .int x6)] [] mm := by
  unfold f7_offered_j103 at hf
  obtain ⟨v5, ex, hf⟩ := nm_x hf
  refine z_iinc v5 [(6, .int v5), (0, .ref 0), (1, .int x1), (2, .int x2), (3, .int x3), (4, .int x4), (5, .int x5)] B 55 rfl 6 rfl (ex.symm) (by decide) rfl ?_
  refine z_goto B 56 rfl 47 (by decide) ?_
  refine z_sub [(0, .ref 0), (1, .int x1), (2, .int x2), (3, .int x3), (4, .int x4), (5, .int x5), (6, .int v5)] [1, 2, 3, 4, 5, 6, 0] rfl ?_
  exact hk47 _ _ _ _ _ _ hf
def f7_offered_j96 (k6 : Int32 → Int32 → Int32 → Int32 → Int32 → Option Int32) (k47 : Int32 → Int32 → Int32 → Int32 → Int32 → Int32 → Option Int32) (mm : Mem) (x1 : Int32) (x2 : Int32) (x3 : Int32) (x4 : Int32) (x5 : Int32) (x6 : Int32) (x7 : Int32) : Option Int32 := nm (x4 + x7) (fun v7 => f7_offered_j103 k6 k47 mm x1 x2 x3 v7 x5 x6)
theorem f7_offered_j96_ok {E : Ev} {l : Launch} {C : Cfg} {mm : Mem} {x : Int32} {k6 : Int32 → Int32 → Int32 → Int32 → Int32 → Option Int32} {k47 : Int32 → Int32 → Int32 → Int32 → Int32 → Int32 → Option Int32} (hj : Dj C) (X : Ec E l C rmX7_offered) (B : Bx E RX7 tbX7_offered 8 (some .int)) (hQ : Rt E) (hr : Rs E (some (.int x)) mm) (hk6 : ∀ (x1 : Int32) (x2 : Int32) (x3 : Int32) (x4 : Int32) (x5 : Int32), k6 x1 x2 x3 x4 x5 = some x → G E 8 6 [(0, .ref 0), (1, .int x1), (2, .int x2), (3, .int x3), (4, .int x4), (5, .int x5)] [] mm) (hk47 : ∀ (x1 : Int32) (x2 : Int32) (x3 : Int32) (x4 : Int32) (x5 : Int32) (x6 : Int32), k47 x1 x2 x3 x4 x5 x6 = some x → G E 8 47 [(0, .ref 0), (1, .int x1), (2, .int x2), (3, .int x3), (4, .int x4), (5, .int x5), (6, .int x6)] [] mm) (x1 : Int32) (x2 : Int32) (x3 : Int32) (x4 : Int32) (x5 : Int32) (x6 : Int32) (x7 : Int32) (hf : f7_offered_j96 k6 k47 mm x1 x2 x3 x4 x5 x6 x7 = some x) : G E 8 96 [(0, .ref 0), (1, .int x1), (2, .int x2), (3, .int x3), (4, .int x4), (5, .int x5), (6, .int x6), (7, .int x7)] [] mm := by
  unfold f7_offered_j96 at hf
  refine z_iload B 51 rfl 4 rfl ?_
  refine z_iload B 52 rfl 7 rfl ?_
  refine z_iadd B 53 rfl ?_
  obtain ⟨v7, ex, hf⟩ := nm_x hf
  refine z_top ex ?_
  refine z_istore [(4, .int v7), (0, .ref 0), (1, .int x1), (2, .int x2), (3, .int x3), (5, .int x5), (6, .int x6), (7, .int x7)] B 54 rfl (by decide) rfl ?_
  refine z_sub [(0, .ref 0), (1, .int x1), (2, .int x2), (3, .int x3), (4, .int v7), (5, .int x5), (6, .int x6)] [1, 2, 3, 4, 0, 5, 6] rfl ?_
  exact f7_offered_j103_ok hj X B hQ hr hk6 hk47 _ _ _ _ _ _ hf
def f7_offered_l47 (k6 : Int32 → Int32 → Int32 → Int32 → Int32 → Option Int32) (mm : Mem) : Nat → Int32 → Int32 → Int32 → Int32 → Int32 → Int32 → Option Int32
  | 0, _, _, _, _, _, _ => none
  | n + 1, x1, x2, x3, x4, x5, x6 => if (3 : Int32) < x6 then f7_offered_j109 k6 mm x1 x2 x3 x4 x5 else bd (f7_lineUnits mm x5 x6) (fun r4 => if 0 < r4 then bd (f7_lineIts mm x5 x6) (fun r6 => if r6 < x2 then f7_offered_j96 k6 (fun x1 x2 x3 x4 x5 x6 => f7_offered_l47 k6 mm n x1 x2 x3 x4 x5 x6) mm x1 x2 x3 x4 x5 x6 r4 else if x3 = 0 then f7_offered_j103 k6 (fun x1 x2 x3 x4 x5 x6 => f7_offered_l47 k6 mm n x1 x2 x3 x4 x5 x6) mm x1 x2 x3 x4 x5 x6 else bd (f7_lineIts mm x5 x6) (fun r8 => if r8 = x2 then f7_offered_j96 k6 (fun x1 x2 x3 x4 x5 x6 => f7_offered_l47 k6 mm n x1 x2 x3 x4 x5 x6) mm x1 x2 x3 x4 x5 x6 r4 else f7_offered_j103 k6 (fun x1 x2 x3 x4 x5 x6 => f7_offered_l47 k6 mm n x1 x2 x3 x4 x5 x6) mm x1 x2 x3 x4 x5 x6)) else f7_offered_j103 k6 (fun x1 x2 x3 x4 x5 x6 => f7_offered_l47 k6 mm n x1 x2 x3 x4 x5 x6) mm x1 x2 x3 x4 x5 x6)
theorem f7_offered_l47_ok {E : Ev} {l : Launch} {C : Cfg} {mm : Mem} {x : Int32} {k6 : Int32 → Int32 → Int32 → Int32 → Int32 → Option Int32} (hj : Dj C) (X : Ec E l C rmX7_offered) (B : Bx E RX7 tbX7_offered 8 (some .int)) (hQ : Rt E) (hr : Rs E (some (.int x)) mm) (hk6 : ∀ (x1 : Int32) (x2 : Int32) (x3 : Int32) (x4 : Int32) (x5 : Int32), k6 x1 x2 x3 x4 x5 = some x → G E 8 6 [(0, .ref 0), (1, .int x1), (2, .int x2), (3, .int x3), (4, .int x4), (5, .int x5)] [] mm) (n : Nat) : ∀ (x1 : Int32) (x2 : Int32) (x3 : Int32) (x4 : Int32) (x5 : Int32) (x6 : Int32), f7_offered_l47 k6 mm n x1 x2 x3 x4 x5 x6 = some x → G E 8 47 [(0, .ref 0), (1, .int x1), (2, .int x2), (3, .int x3), (4, .int x4), (5, .int x5), (6, .int x6)] [] mm := by
  induction n with
  | zero =>
    intro x1 x2 x3 x4 x5 x6 hf
    rw [f7_offered_l47] at hf
    cases hf
  | succ n ih =>
    intro x1 x2 x3 x4 x5 x6 hf
    rw [f7_offered_l47] at hf
    refine z_iload B 27 rfl 6 rfl ?_
    refine z_iconst 3 B 28 rfl (by decide) ?_
    by_cases hc : (3 : Int32) < x6
    · replace hf := (if_pos hc).symm.trans hf
      refine z_icmp_gt_t B 29 rfl 109 (by decide) hc ?_
      refine z_sub [(0, .ref 0), (1, .int x1), (2, .int x2), (3, .int x3), (4, .int x4), (5, .int x5)] [0, 1, 2, 3, 4, 5] rfl ?_
      exact f7_offered_j109_ok hj X B hQ hr hk6 _ _ _ _ _ hf
    · replace hf := (if_neg hc).symm.trans hf
      refine z_icmp_gt_f B 29 rfl 109 (by decide) hc ?_
      refine z_aload_n B 30 rfl 0 0 rfl rfl ?_
      refine z_iload B 31 rfl 5 rfl ?_
      refine z_iload B 32 rfl 6 rfl ?_
      obtain ⟨r4, ec, hf⟩ := bd_e hf
      refine z_callV 0 7 [.int x5, .int x6] [] [.int r4] X B 33 rfl ob_0 rfl rfl miX7_lineUnits ⟨(iX7_offered _ (List.mem_of_getElem? (i := 5) rfl)), (iX7_offered _ (List.mem_of_getElem? (i := 6) rfl)), (iX7_offered _ (List.mem_of_getElem? (i := 7) rfl))⟩ (ctX7_lineUnits hj ec) ⟨Nat.le_of_ble_eq_true rfl, Nat.le_of_ble_eq_true rfl⟩ rfl rfl (Nat.le_of_ble_eq_true rfl) rfl ?_
      refine z_istore [(7, .int r4), (0, .ref 0), (1, .int x1), (2, .int x2), (3, .int x3), (4, .int x4), (5, .int x5), (6, .int x6)] B 34 rfl (by decide) rfl ?_
      refine z_iload B 35 rfl 0 rfl ?_
      by_cases hc : 0 < r4
      · replace hf := (if_pos hc).symm.trans hf
        refine z_if_le_f B 36 rfl 103 (by decide) hc ?_
        refine z_aload_n B 37 rfl 0 1 rfl rfl ?_
        refine z_iload B 38 rfl 6 rfl ?_
        refine z_iload B 39 rfl 7 rfl ?_
        obtain ⟨r6, ec, hf⟩ := bd_e hf
        refine z_callV 0 7 [.int x5, .int x6] [] [.int r6] X B 40 rfl ob_0 rfl rfl miX7_lineIts ⟨(iX7_offered _ (List.mem_of_getElem? (i := 8) rfl)), (iX7_offered _ (List.mem_of_getElem? (i := 9) rfl)), (iX7_offered _ (List.mem_of_getElem? (i := 10) rfl))⟩ (ctX7_lineIts hj ec) ⟨Nat.le_of_ble_eq_true rfl, Nat.le_of_ble_eq_true rfl⟩ rfl rfl (Nat.le_of_ble_eq_true rfl) rfl ?_
        refine z_iload_n B 41 rfl 2 3 rfl rfl ?_
        by_cases hc : r6 < x2
        · replace hf := (if_pos hc).symm.trans hf
          refine z_icmp_lt_t B 42 rfl 96 (by decide) hc ?_
          refine z_sub [(0, .ref 0), (1, .int x1), (2, .int x2), (3, .int x3), (4, .int x4), (5, .int x5), (6, .int x6), (7, .int r4)] [1, 2, 3, 4, 5, 6, 7, 0] rfl ?_
          exact f7_offered_j96_ok hj X B hQ hr hk6 ih _ _ _ _ _ _ _ hf
        · replace hf := (if_neg hc).symm.trans hf
          refine z_icmp_lt_f B 42 rfl 96 (by decide) hc ?_
          refine z_iload_n B 43 rfl 3 4 rfl rfl ?_
          by_cases hc : x3 = 0
          · replace hf := (if_pos hc).symm.trans hf
            refine z_if_eq_t B 44 rfl 103 (by decide) hc ?_
            refine z_sub [(0, .ref 0), (1, .int x1), (2, .int x2), (3, .int x3), (4, .int x4), (5, .int x5), (6, .int x6)] [1, 2, 3, 4, 5, 6, 7] rfl ?_
            exact f7_offered_j103_ok hj X B hQ hr hk6 ih _ _ _ _ _ _ hf
          · replace hf := (if_neg hc).symm.trans hf
            refine z_if_eq_f B 44 rfl 103 (by decide) hc ?_
            refine z_aload_n B 45 rfl 0 1 rfl rfl ?_
            refine z_iload B 46 rfl 6 rfl ?_
            refine z_iload B 47 rfl 7 rfl ?_
            obtain ⟨r8, ec, hf⟩ := bd_e hf
            refine z_callV 0 7 [.int x5, .int x6] [] [.int r8] X B 48 rfl ob_0 rfl rfl miX7_lineIts ⟨(iX7_offered _ (List.mem_of_getElem? (i := 8) rfl)), (iX7_offered _ (List.mem_of_getElem? (i := 9) rfl)), (iX7_offered _ (List.mem_of_getElem? (i := 10) rfl))⟩ (ctX7_lineIts hj ec) ⟨Nat.le_of_ble_eq_true rfl, Nat.le_of_ble_eq_true rfl⟩ rfl rfl (Nat.le_of_ble_eq_true rfl) rfl ?_
            refine z_iload_n B 49 rfl 2 3 rfl rfl ?_
            by_cases hc : r8 = x2
            · replace hf := (if_pos hc).symm.trans hf
              refine z_icmp_ne_f B 50 rfl 103 (by decide) hc ?_
              refine z_sub [(0, .ref 0), (1, .int x1), (2, .int x2), (3, .int x3), (4, .int x4), (5, .int x5), (6, .int x6), (7, .int r4)] [1, 2, 3, 4, 5, 6, 7, 0] rfl ?_
              exact f7_offered_j96_ok hj X B hQ hr hk6 ih _ _ _ _ _ _ _ hf
            · replace hf := (if_neg hc).symm.trans hf
              refine z_icmp_ne_t B 50 rfl 103 (by decide) hc ?_
              refine z_sub [(0, .ref 0), (1, .int x1), (2, .int x2), (3, .int x3), (4, .int x4), (5, .int x5), (6, .int x6)] [1, 2, 3, 4, 5, 6, 7] rfl ?_
              exact f7_offered_j103_ok hj X B hQ hr hk6 ih _ _ _ _ _ _ hf
      · replace hf := (if_neg hc).symm.trans hf
        refine z_if_le_t B 36 rfl 103 (by decide) hc ?_
        refine z_sub [(0, .ref 0), (1, .int x1), (2, .int x2), (3, .int x3), (4, .int x4), (5, .int x5), (6, .int x6)] [1, 2, 3, 4, 5, 6, 7] rfl ?_
        exact f7_offered_j103_ok hj X B hQ hr hk6 ih _ _ _ _ _ _ hf
def f7_offered_l6 (mm : Mem) : Nat → Int32 → Int32 → Int32 → Int32 → Int32 → Option Int32
  | 0, _, _, _, _, _ => none
  | n + 1, x1, x2, x3, x4, x5 => rdc 1 (1 : Int32) (nm (mm 1 (1 : Int32).toNatClampNeg) (fun v1 => if x5 < v1 then bd (f7_ofResource mm x5 (0 : Int32)) (fun r2 => if r2 = x1 then if (((mm 0 5) >>> (x5 &&& 31)) &&& (1 : Int32)) = (1 : Int32) then f7_offered_j109 (fun x1 x2 x3 x4 x5 => f7_offered_l6 mm n x1 x2 x3 x4 x5) mm x1 x2 x3 x4 x5 else f7_offered_l47 (fun x1 x2 x3 x4 x5 => f7_offered_l6 mm n x1 x2 x3 x4 x5) mm FU x1 x2 x3 x4 x5 (0 : Int32) else f7_offered_j109 (fun x1 x2 x3 x4 x5 => f7_offered_l6 mm n x1 x2 x3 x4 x5) mm x1 x2 x3 x4 x5) else some (x4)))
theorem f7_offered_l6_ok {E : Ev} {l : Launch} {C : Cfg} {mm : Mem} {x : Int32} (hj : Dj C) (X : Ec E l C rmX7_offered) (B : Bx E RX7 tbX7_offered 8 (some .int)) (hQ : Rt E) (hr : Rs E (some (.int x)) mm) (n : Nat) : ∀ (x1 : Int32) (x2 : Int32) (x3 : Int32) (x4 : Int32) (x5 : Int32), f7_offered_l6 mm n x1 x2 x3 x4 x5 = some x → G E 8 6 [(0, .ref 0), (1, .int x1), (2, .int x2), (3, .int x3), (4, .int x4), (5, .int x5)] [] mm := by
  induction n with
  | zero =>
    intro x1 x2 x3 x4 x5 hf
    rw [f7_offered_l6] at hf
    cases hf
  | succ n ih =>
    intro x1 x2 x3 x4 x5 hf
    rw [f7_offered_l6] at hf
    refine z_iload B 4 rfl 5 rfl ?_
    refine z_aload_n B 5 rfl 0 0 rfl rfl ?_
    refine z_getr 7 1 0 B 6 rfl ob_0 rfl (iX7_offered _ (List.mem_of_getElem? (i := 0) rfl)) rfl ?_
    refine z_iconst 1 B 7 rfl (by decide) ?_
    obtain ⟨hx, hf⟩ := rdc_e hf
    refine z_iald B 8 rfl ob_1 hx ?_
    obtain ⟨v1, ex, hf⟩ := nm_x hf
    refine z_top ex ?_
    by_cases hc : x5 < v1
    · replace hf := (if_pos hc).symm.trans hf
      refine z_icmp_ge_f B 9 rfl 115 (by decide) hc ?_
      refine z_aload_n B 10 rfl 0 0 rfl rfl ?_
      refine z_iload B 11 rfl 5 rfl ?_
      refine z_iconst 0 B 12 rfl (by decide) ?_
      obtain ⟨r2, ec, hf⟩ := bd_e hf
      refine z_callV 0 7 [.int x5, .int (0 : Int32)] [] [.int r2] X B 13 rfl ob_0 rfl rfl miX7_ofResource ⟨(iX7_offered _ (List.mem_of_getElem? (i := 1) rfl)), (iX7_offered _ (List.mem_of_getElem? (i := 2) rfl)), (iX7_offered _ (List.mem_of_getElem? (i := 3) rfl))⟩ (ctX7_ofResource hj ec) ⟨Nat.le_of_ble_eq_true rfl, Nat.le_of_ble_eq_true rfl⟩ rfl rfl (Nat.le_of_ble_eq_true rfl) rfl ?_
      refine z_iload_n B 14 rfl 1 1 rfl rfl ?_
      by_cases hc : r2 = x1
      · replace hf := (if_pos hc).symm.trans hf
        refine z_icmp_ne_f B 15 rfl 109 (by decide) hc ?_
        refine z_aload_n B 16 rfl 0 0 rfl rfl ?_
        refine z_geti 7 5 0 B 17 rfl ob_0 rfl (iX7_offered _ (List.mem_of_getElem? (i := 4) rfl)) rfl ?_
        refine z_iload B 18 rfl 5 rfl ?_
        refine z_ishr B 19 rfl ?_
        refine z_iconst 1 B 20 rfl (by decide) ?_
        refine z_iand B 21 rfl ?_
        refine z_iconst 1 B 22 rfl (by decide) ?_
        by_cases hc : (((mm 0 5) >>> (x5 &&& 31)) &&& (1 : Int32)) = (1 : Int32)
        · replace hf := (if_pos hc).symm.trans hf
          refine z_icmp_ne_f B 23 rfl 44 (by decide) hc ?_
          refine z_goto B 24 rfl 109 (by decide) ?_
          exact f7_offered_j109_ok hj X B hQ hr ih _ _ _ _ _ hf
        · replace hf := (if_neg hc).symm.trans hf
          refine z_icmp_ne_t B 23 rfl 44 (by decide) hc ?_
          refine z_iconst 0 B 25 rfl (by decide) ?_
          refine z_istore [(6, .int (0 : Int32)), (0, .ref 0), (1, .int x1), (2, .int x2), (3, .int x3), (4, .int x4), (5, .int x5)] B 26 rfl (by decide) rfl ?_
          refine z_sub [(0, .ref 0), (1, .int x1), (2, .int x2), (3, .int x3), (4, .int x4), (5, .int x5), (6, .int (0 : Int32))] [1, 2, 3, 4, 5, 6, 0] rfl ?_
          exact f7_offered_l47_ok hj X B hQ hr ih FU _ _ _ _ _ _ hf
      · replace hf := (if_neg hc).symm.trans hf
        refine z_icmp_ne_t B 15 rfl 109 (by decide) hc ?_
        exact f7_offered_j109_ok hj X B hQ hr ih _ _ _ _ _ hf
    · replace hf := (if_neg hc).symm.trans hf
      refine z_icmp_ge_t B 9 rfl 115 (by decide) hc ?_
      refine z_iload B 59 rfl 4 rfl ?_
      cases hf
      exact z_iret B 60 rfl rfl hQ hr
def f7_offered (mm : Mem) (a1 : Int32) (a2 : Int32) (a3 : Int32) : Option Int32 := f7_offered_l6 mm FU a1 a2 a3 (0 : Int32) (0 : Int32)
theorem ctX7_offered {l : Launch} {C : Cfg} (hj : Dj C) {mm : Mem} {a1 : Int32} {a2 : Int32} {a3 : Int32} {x : Int32} (hf : f7_offered mm a1 a2 a3 = some x) : Ct l C yX7_offered cX7_offered 8 (some .int) 2 47 [.ref 0, .int a1, .int a2, .int a3] mm (some (.int x)) mm := by
  refine Ct.of (tb := tbX7_offered) hj miX7_offered.2.1 miX7_offered.1 dtX7_offered (Nat.le_of_ble_eq_true rfl) ?_
  intro E B hQ hr X
  unfold f7_offered at hf
  show G E 8 0 [(0, .ref 0), (1, .int a1), (2, .int a2), (3, .int a3)] [] mm
  refine z_iconst 0 B 0 rfl (by decide) ?_
  refine z_istore [(4, .int (0 : Int32)), (0, .ref 0), (1, .int a1), (2, .int a2), (3, .int a3)] B 1 rfl (by decide) rfl ?_
  refine z_iconst 0 B 2 rfl (by decide) ?_
  refine z_istore [(5, .int (0 : Int32)), (4, .int (0 : Int32)), (0, .ref 0), (1, .int a1), (2, .int a2), (3, .int a3)] B 3 rfl (by decide) rfl ?_
  refine z_sub [(0, .ref 0), (1, .int a1), (2, .int a2), (3, .int a3), (4, .int (0 : Int32)), (5, .int (0 : Int32))] [2, 3, 4, 5, 1, 0] rfl ?_
  exact f7_offered_l6_ok hj X B hQ hr FU _ _ _ _ _ hf
/-! ZoneCapacityModel.cut(II)I -/
def tbX7_cut : Tb := [(0, .iload_n 2, 1, 1), (1, .aload_n 0, 1, 2), (2, .iload_n 1, 1, 3), (3, .iconst 1, 1, 4), (4, .invokevirtual 58, 3, 7), (7, .ineg, 1, 8), (8, .if_icmp .ge 13, 3, 11), (11, .aload_n 0, 1, 12), (12, .iload_n 1, 1, 13), (13, .iconst 1, 1, 14), (14, .invokevirtual 58, 3, 17), (17, .ineg, 1, 18), (18, .goto 23, 3, 21), (21, .iload_n 2, 1, 22), (22, .aload_n 0, 1, 23), (23, .iload_n 1, 1, 24), (24, .iconst 2, 1, 25), (25, .invokevirtual 58, 3, 28), (28, .if_icmp .le 12, 3, 31), (31, .aload_n 0, 1, 32), (32, .iload_n 1, 1, 33), (33, .iconst 2, 1, 34), (34, .invokevirtual 58, 3, 37), (37, .goto 4, 3, 40), (40, .iload_n 2, 1, 41), (41, .ireturn, 1, 42)]
theorem dtX7_cut : ∀ q ∈ tbX7_cut, decode cX7_cut q.1 = .ok (q.2.1, q.2.2.1) ∧ q.1 + q.2.2.1 = q.2.2.2 := by decide +kernel
theorem miX7_cut : MI yX7_cut cX7_cut 3 (some .int) 2 := ⟨tw_mem (List.mem_of_getElem? (i := 1163) (by decide +kernel)) rfl, by decide, by decide +kernel, tw_mem (List.mem_of_getElem? (i := 78) (by decide +kernel)) rfl⟩
abbrev rmX7_cut : Room := { frames := 1, cells := 0, slots := 0, locals := 22 }
def wX7_cut : List Cond := [.methodLink "ZoneCapacityModel" 58 yX7_ofZone, .instanceMethod yX7_ofZone, .selects "ZoneCapacityModel" yX7_ofZone yX7_ofZone]
theorem iX7_cut : ∀ w ∈ wX7_cut, w ∈ TW := tw_of (ids := [1031, 1033, 26]) (by decide +kernel)
def f7_cut (mm : Mem) (a1 : Int32) (a2 : Int32) : Option Int32 := bd (f7_ofZone mm a1 (1 : Int32)) (fun r1 => if a2 < (-r1) then bd (f7_ofZone mm a1 (1 : Int32)) (fun r4 => some (-r4)) else bd (f7_ofZone mm a1 (2 : Int32)) (fun r2 => if r2 < a2 then bd (f7_ofZone mm a1 (2 : Int32)) (fun r3 => some (r3)) else some (a2)))
theorem ctX7_cut {l : Launch} {C : Cfg} (hj : Dj C) {mm : Mem} {a1 : Int32} {a2 : Int32} {x : Int32} (hf : f7_cut mm a1 a2 = some x) : Ct l C yX7_cut cX7_cut 3 (some .int) 1 22 [.ref 0, .int a1, .int a2] mm (some (.int x)) mm := by
  refine Ct.of (tb := tbX7_cut) hj miX7_cut.2.1 miX7_cut.1 dtX7_cut (Nat.le_of_ble_eq_true rfl) ?_
  intro E B hQ hr X
  unfold f7_cut at hf
  show G E 3 0 [(0, .ref 0), (1, .int a1), (2, .int a2)] [] mm
  refine z_iload_n B 0 rfl 2 2 rfl rfl ?_
  refine z_aload_n B 1 rfl 0 0 rfl rfl ?_
  refine z_iload_n B 2 rfl 1 1 rfl rfl ?_
  refine z_iconst 1 B 3 rfl (by decide) ?_
  obtain ⟨r1, ec, hf⟩ := bd_e hf
  refine z_callV 0 7 [.int a1, .int (1 : Int32)] [.int a2] [.int r1, .int a2] X B 4 rfl ob_0 rfl rfl miX7_ofZone ⟨(iX7_cut _ (List.mem_of_getElem? (i := 0) rfl)), (iX7_cut _ (List.mem_of_getElem? (i := 1) rfl)), (iX7_cut _ (List.mem_of_getElem? (i := 2) rfl))⟩ (ctX7_ofZone hj ec) ⟨Nat.le_of_ble_eq_true rfl, Nat.le_of_ble_eq_true rfl⟩ rfl rfl (Nat.le_of_ble_eq_true rfl) rfl ?_
  refine z_ineg B 5 rfl ?_
  by_cases hc : a2 < (-r1)
  · replace hf := (if_pos hc).symm.trans hf
    refine z_icmp_ge_f B 6 rfl 21 (by decide) hc ?_
    refine z_aload_n B 7 rfl 0 0 rfl rfl ?_
    refine z_iload_n B 8 rfl 1 1 rfl rfl ?_
    refine z_iconst 1 B 9 rfl (by decide) ?_
    obtain ⟨r4, ec, hf⟩ := bd_e hf
    refine z_callV 0 7 [.int a1, .int (1 : Int32)] [] [.int r4] X B 10 rfl ob_0 rfl rfl miX7_ofZone ⟨(iX7_cut _ (List.mem_of_getElem? (i := 0) rfl)), (iX7_cut _ (List.mem_of_getElem? (i := 1) rfl)), (iX7_cut _ (List.mem_of_getElem? (i := 2) rfl))⟩ (ctX7_ofZone hj ec) ⟨Nat.le_of_ble_eq_true rfl, Nat.le_of_ble_eq_true rfl⟩ rfl rfl (Nat.le_of_ble_eq_true rfl) rfl ?_
    refine z_ineg B 11 rfl ?_
    refine z_goto B 12 rfl 41 (by decide) ?_
    cases hf
    exact z_iret B 25 rfl rfl hQ hr
  · replace hf := (if_neg hc).symm.trans hf
    refine z_icmp_ge_t B 6 rfl 21 (by decide) hc ?_
    refine z_iload_n B 13 rfl 2 2 rfl rfl ?_
    refine z_aload_n B 14 rfl 0 0 rfl rfl ?_
    refine z_iload_n B 15 rfl 1 1 rfl rfl ?_
    refine z_iconst 2 B 16 rfl (by decide) ?_
    obtain ⟨r2, ec, hf⟩ := bd_e hf
    refine z_callV 0 7 [.int a1, .int (2 : Int32)] [.int a2] [.int r2, .int a2] X B 17 rfl ob_0 rfl rfl miX7_ofZone ⟨(iX7_cut _ (List.mem_of_getElem? (i := 0) rfl)), (iX7_cut _ (List.mem_of_getElem? (i := 1) rfl)), (iX7_cut _ (List.mem_of_getElem? (i := 2) rfl))⟩ (ctX7_ofZone hj ec) ⟨Nat.le_of_ble_eq_true rfl, Nat.le_of_ble_eq_true rfl⟩ rfl rfl (Nat.le_of_ble_eq_true rfl) rfl ?_
    by_cases hc : r2 < a2
    · replace hf := (if_pos hc).symm.trans hf
      refine z_icmp_le_f B 18 rfl 40 (by decide) hc ?_
      refine z_aload_n B 19 rfl 0 0 rfl rfl ?_
      refine z_iload_n B 20 rfl 1 1 rfl rfl ?_
      refine z_iconst 2 B 21 rfl (by decide) ?_
      obtain ⟨r3, ec, hf⟩ := bd_e hf
      refine z_callV 0 7 [.int a1, .int (2 : Int32)] [] [.int r3] X B 22 rfl ob_0 rfl rfl miX7_ofZone ⟨(iX7_cut _ (List.mem_of_getElem? (i := 0) rfl)), (iX7_cut _ (List.mem_of_getElem? (i := 1) rfl)), (iX7_cut _ (List.mem_of_getElem? (i := 2) rfl))⟩ (ctX7_ofZone hj ec) ⟨Nat.le_of_ble_eq_true rfl, Nat.le_of_ble_eq_true rfl⟩ rfl rfl (Nat.le_of_ble_eq_true rfl) rfl ?_
      refine z_goto B 23 rfl 41 (by decide) ?_
      cases hf
      exact z_iret B 25 rfl rfl hQ hr
    · replace hf := (if_neg hc).symm.trans hf
      refine z_icmp_le_t B 18 rfl 40 (by decide) hc ?_
      refine z_iload_n B 24 rfl 2 2 rfl rfl ?_
      cases hf
      exact z_iret B 25 rfl rfl hQ hr
/-! ZoneCapacityModel.laysLevels(II)V -/
def tbX7_laysLevels : Tb := [(0, .aload_n 0, 1, 1), (1, .getfield 7, 3, 4), (4, .iconst 0, 1, 5), (5, .iaload, 1, 6), (6, .iconst 1, 1, 7), (7, .isub, 1, 8), (8, .istore_n 3, 1, 9), (9, .iload_n 3, 1, 10), (10, .iload_n 1, 1, 11), (11, .if_icmp .lt 128, 3, 14), (14, .aload_n 0, 1, 15), (15, .getfield 23, 3, 18), (18, .iload_n 3, 1, 19), (19, .aload_n 0, 1, 20), (20, .iload_n 3, 1, 21), (21, .iload_n 2, 1, 22), (22, .iconst 0, 1, 23), (23, .invokevirtual 91, 3, 26), (26, .aload_n 0, 1, 27), (27, .iload_n 3, 1, 28), (28, .iload_n 2, 1, 29), (29, .invokevirtual 95, 3, 32), (32, .isub, 1, 33), (33, .iastore, 1, 34), (34, .aload_n 0, 1, 35), (35, .getfield 26, 3, 38), (38, .iload_n 3, 1, 39), (39, .aload_n 0, 1, 40), (40, .iload_n 3, 1, 41), (41, .iload_n 2, 1, 42), (42, .iconst 1, 1, 43), (43, .invokevirtual 91, 3, 46), (46, .aload_n 0, 1, 47), (47, .iload_n 3, 1, 48), (48, .iload_n 2, 1, 49), (49, .iconst 1, 1, 50), (50, .iadd, 1, 51), (51, .invokevirtual 95, 3, 54), (54, .isub, 1, 55), (55, .iastore, 1, 56), (56, .iload_n 3, 1, 57), (57, .iconst 1, 1, 58), (58, .iadd, 1, 59), (59, .istore 4, 2, 61), (61, .iload 4, 2, 63), (63, .aload_n 0, 1, 64), (64, .getfield 7, 3, 67), (67, .iconst 0, 1, 68), (68, .iaload, 1, 69), (69, .if_icmp .ge 64, 3, 72), (72, .aload_n 0, 1, 73), (73, .iload 4, 2, 75), (75, .iconst 0, 1, 76), (76, .invokevirtual 58, 3, 79), (79, .iload_n 3, 1, 80), (80, .if_icmp .ne 47, 3, 83), (83, .aload_n 0, 1, 84), (84, .getfield 23, 3, 87), (87, .iload_n 3, 1, 88), (88, .dup2, 1, 89), (89, .iaload, 1, 90), (90, .aload_n 0, 1, 91), (91, .iload 4, 2, 93), (93, .aload_n 0, 1, 94), (94, .getfield 23, 3, 97), (97, .iload 4, 2, 99), (99, .iaload, 1, 100), (100, .invokevirtual 98, 3, 103), (103, .iadd, 1, 104), (104, .iastore, 1, 105), (105, .aload_n 0, 1, 106), (106, .getfield 26, 3, 109), (109, .iload_n 3, 1, 110), (110, .dup2, 1, 111), (111, .iaload, 1, 112), (112, .aload_n 0, 1, 113), (113, .iload 4, 2, 115), (115, .aload_n 0, 1, 116), (116, .getfield 26, 3, 119), (119, .iload 4, 2, 121), (121, .iaload, 1, 122), (122, .invokevirtual 98, 3, 125), (125, .iadd, 1, 126), (126, .iastore, 1, 127), (127, .iinc 4 1, 3, 130), (130, .goto (-69), 3, 133), (133, .iinc 3 (-1), 3, 136), (136, .goto (-127), 3, 139), (139, .return_, 1, 140)]
theorem dtX7_laysLevels : ∀ q ∈ tbX7_laysLevels, decode cX7_laysLevels q.1 = .ok (q.2.1, q.2.2.1) ∧ q.1 + q.2.2.1 = q.2.2.2 := by decide +kernel
theorem miX7_laysLevels : MI yX7_laysLevels cX7_laysLevels 5 none 2 := ⟨tw_mem (List.mem_of_getElem? (i := 1155) (by decide +kernel)) rfl, by decide, by decide +kernel, tw_mem (List.mem_of_getElem? (i := 78) (by decide +kernel)) rfl⟩
abbrev rmX7_laysLevels : Room := { frames := 3, cells := 0, slots := 0, locals := 74 }
def wX7_laysLevels : List Cond := [.fieldLink "ZoneCapacityModel" 7 "ZoneCapacityModel" "w" "[I", .fieldLink "ZoneCapacityModel" 23 "ZoneCapacityModel" "low" "[I", .methodLink "ZoneCapacityModel" 91 yX7_offered, .instanceMethod yX7_offered, .selects "ZoneCapacityModel" yX7_offered yX7_offered, .methodLink "ZoneCapacityModel" 95 yX7_wantedAt, .instanceMethod yX7_wantedAt, .selects "ZoneCapacityModel" yX7_wantedAt yX7_wantedAt, .fieldLink "ZoneCapacityModel" 26 "ZoneCapacityModel" "high" "[I", .methodLink "ZoneCapacityModel" 58 yX7_ofZone, .instanceMethod yX7_ofZone, .selects "ZoneCapacityModel" yX7_ofZone yX7_ofZone, .methodLink "ZoneCapacityModel" 98 yX7_cut, .instanceMethod yX7_cut, .selects "ZoneCapacityModel" yX7_cut yX7_cut]
theorem iX7_laysLevels : ∀ w ∈ wX7_laysLevels, w ∈ TW := tw_of (ids := [939, 945, 1156, 1158, 44, 1143, 1145, 42, 946, 1031, 1033, 26, 1160, 1162, 45]) (by decide +kernel)
def f7_laysLevels_j127 (k9 : Int32 → Int32 → Int32 → Mem → Option Mem) (k61 : Int32 → Int32 → Int32 → Int32 → Mem → Option Mem) (x1 : Int32) (x2 : Int32) (x3 : Int32) (x4 : Int32) (mm : Mem) : Option Mem := nm (x4 + 1) (fun v13 => k61 x1 x2 x3 v13 mm)
theorem f7_laysLevels_j127_ok {E : Ev} {l : Launch} {C : Cfg} {x : Mem} {k9 : Int32 → Int32 → Int32 → Mem → Option Mem} {k61 : Int32 → Int32 → Int32 → Int32 → Mem → Option Mem} (hj : Dj C) (X : Ec E l C rmX7_laysLevels) (B : Bx E RX7 tbX7_laysLevels 5 none) (hQ : Rt E) (hr : Rs E none x) (hk9 : ∀ (x1 : Int32) (x2 : Int32) (x3 : Int32) (mm : Mem), k9 x1 x2 x3 mm = some x → G E 5 9 [(0, .ref 0), (1, .int x1), (2, .int x2), (3, .int x3)] [] mm) (hk61 : ∀ (x1 : Int32) (x2 : Int32) (x3 : Int32) (x4 : Int32) (mm : Mem), k61 x1 x2 x3 x4 mm = some x → G E 5 61 [(0, .ref 0), (1, .int x1), (2, .int x2), (3, .int x3), (4, .int x4)] [] mm) (x1 : Int32) (x2 : Int32) (x3 : Int32) (x4 : Int32) (mm : Mem) (hf : f7_laysLevels_j127 k9 k61 x1 x2 x3 x4 mm = some x) : G E 5 127 [(0, .ref 0), (1, .int x1), (2, .int x2), (3, .int x3), (4, .int x4)] [] mm := by
  unfold f7_laysLevels_j127 at hf
  obtain ⟨v13, ex, hf⟩ := nm_x hf
  refine z_iinc v13 [(4, .int v13), (0, .ref 0), (1, .int x1), (2, .int x2), (3, .int x3)] B 84 rfl 4 rfl (ex.symm) (by decide) rfl ?_
  refine z_goto B 85 rfl 61 (by decide) ?_
  refine z_sub [(0, .ref 0), (1, .int x1), (2, .int x2), (3, .int x3), (4, .int v13)] [1, 2, 3, 4, 0] rfl ?_
  exact hk61 _ _ _ _ _ hf
def f7_laysLevels_l61 (k9 : Int32 → Int32 → Int32 → Mem → Option Mem) : Nat → Int32 → Int32 → Int32 → Int32 → Mem → Option Mem
  | 0, _, _, _, _, _ => none
  | n + 1, x1, x2, x3, x4, mm => rdc 1 (0 : Int32) (nm (mm 1 (0 : Int32).toNatClampNeg) (fun v10 => if x4 < v10 then bd (f7_ofZone mm x4 (0 : Int32)) (fun r12 => if r12 = x3 then rdc 5 x3 (nm (mm 5 x3.toNatClampNeg) (fun v14 => rdc 5 x4 (nm (mm 5 x4.toNatClampNeg) (fun v15 => bd (f7_cut mm x4 v15) (fun r16 => rdc 5 x3 (nm (up2 mm 5 x3.toNatClampNeg (v14 + r16)) (fun m17 => rdc 6 x3 (nm (m17 6 x3.toNatClampNeg) (fun v18 => rdc 6 x4 (nm (m17 6 x4.toNatClampNeg) (fun v19 => bd (f7_cut m17 x4 v19) (fun r20 => rdc 6 x3 (nm (up2 m17 6 x3.toNatClampNeg (v18 + r20)) (fun m21 => f7_laysLevels_j127 k9 (fun x1 x2 x3 x4 mm => f7_laysLevels_l61 k9 n x1 x2 x3 x4 mm) x1 x2 x3 x4 m21)))))))))))))) else f7_laysLevels_j127 k9 (fun x1 x2 x3 x4 mm => f7_laysLevels_l61 k9 n x1 x2 x3 x4 mm) x1 x2 x3 x4 mm) else nm (x3 + (-1)) (fun v11 => k9 x1 x2 v11 mm)))
theorem f7_laysLevels_l61_ok {E : Ev} {l : Launch} {C : Cfg} {x : Mem} {k9 : Int32 → Int32 → Int32 → Mem → Option Mem} (hj : Dj C) (X : Ec E l C rmX7_laysLevels) (B : Bx E RX7 tbX7_laysLevels 5 none) (hQ : Rt E) (hr : Rs E none x) (hk9 : ∀ (x1 : Int32) (x2 : Int32) (x3 : Int32) (mm : Mem), k9 x1 x2 x3 mm = some x → G E 5 9 [(0, .ref 0), (1, .int x1), (2, .int x2), (3, .int x3)] [] mm) (n : Nat) : ∀ (x1 : Int32) (x2 : Int32) (x3 : Int32) (x4 : Int32) (mm : Mem), f7_laysLevels_l61 k9 n x1 x2 x3 x4 mm = some x → G E 5 61 [(0, .ref 0), (1, .int x1), (2, .int x2), (3, .int x3), (4, .int x4)] [] mm := by
  induction n with
  | zero =>
    intro x1 x2 x3 x4 mm hf
    rw [f7_laysLevels_l61] at hf
    cases hf
  | succ n ih =>
    intro x1 x2 x3 x4 mm hf
    rw [f7_laysLevels_l61] at hf
    refine z_iload B 44 rfl 4 rfl ?_
    refine z_aload_n B 45 rfl 0 0 rfl rfl ?_
    refine z_getr 7 1 0 B 46 rfl ob_0 rfl (iX7_laysLevels _ (List.mem_of_getElem? (i := 0) rfl)) rfl ?_
    refine z_iconst 0 B 47 rfl (by decide) ?_
    obtain ⟨hx, hf⟩ := rdc_e hf
    refine z_iald B 48 rfl ob_1 hx ?_
    obtain ⟨v10, ex, hf⟩ := nm_x hf
    refine z_top ex ?_
    by_cases hc : x4 < v10
    · replace hf := (if_pos hc).symm.trans hf
      refine z_icmp_ge_f B 49 rfl 133 (by decide) hc ?_
      refine z_aload_n B 50 rfl 0 0 rfl rfl ?_
      refine z_iload B 51 rfl 4 rfl ?_
      refine z_iconst 0 B 52 rfl (by decide) ?_
      obtain ⟨r12, ec, hf⟩ := bd_e hf
      refine z_callV 0 7 [.int x4, .int (0 : Int32)] [] [.int r12] X B 53 rfl ob_0 rfl rfl miX7_ofZone ⟨(iX7_laysLevels _ (List.mem_of_getElem? (i := 9) rfl)), (iX7_laysLevels _ (List.mem_of_getElem? (i := 10) rfl)), (iX7_laysLevels _ (List.mem_of_getElem? (i := 11) rfl))⟩ (ctX7_ofZone hj ec) ⟨Nat.le_of_ble_eq_true rfl, Nat.le_of_ble_eq_true rfl⟩ rfl rfl (Nat.le_of_ble_eq_true rfl) rfl ?_
      refine z_iload_n B 54 rfl 3 3 rfl rfl ?_
      by_cases hc : r12 = x3
      · replace hf := (if_pos hc).symm.trans hf
        refine z_icmp_ne_f B 55 rfl 127 (by decide) hc ?_
        refine z_aload_n B 56 rfl 0 0 rfl rfl ?_
        refine z_getr 7 7 0 B 57 rfl ob_0 rfl (iX7_laysLevels _ (List.mem_of_getElem? (i := 1) rfl)) rfl ?_
        refine z_iload_n B 58 rfl 3 3 rfl rfl ?_
        refine z_dup2 B 59 rfl rfl rfl ?_
        obtain ⟨hx, hf⟩ := rdc_e hf
        refine z_iald B 60 rfl ob_5 hx ?_
        obtain ⟨v14, ex, hf⟩ := nm_x hf
        refine z_top ex ?_
        refine z_aload_n B 61 rfl 0 0 rfl rfl ?_
        refine z_iload B 62 rfl 4 rfl ?_
        refine z_aload_n B 63 rfl 0 0 rfl rfl ?_
        refine z_getr 7 7 0 B 64 rfl ob_0 rfl (iX7_laysLevels _ (List.mem_of_getElem? (i := 1) rfl)) rfl ?_
        refine z_iload B 65 rfl 4 rfl ?_
        obtain ⟨hx, hf⟩ := rdc_e hf
        refine z_iald B 66 rfl ob_5 hx ?_
        obtain ⟨v15, ex, hf⟩ := nm_x hf
        refine z_top ex ?_
        obtain ⟨r16, ec, hf⟩ := bd_e hf
        refine z_callV 0 7 [.int x4, .int v15] [.int v14, .int x3, .ref 5] [.int r16, .int v14, .int x3, .ref 5] X B 67 rfl ob_0 rfl rfl miX7_cut ⟨(iX7_laysLevels _ (List.mem_of_getElem? (i := 12) rfl)), (iX7_laysLevels _ (List.mem_of_getElem? (i := 13) rfl)), (iX7_laysLevels _ (List.mem_of_getElem? (i := 14) rfl))⟩ (ctX7_cut hj ec) ⟨Nat.le_of_ble_eq_true rfl, Nat.le_of_ble_eq_true rfl⟩ rfl rfl (Nat.le_of_ble_eq_true rfl) rfl ?_
        refine z_iadd B 68 rfl ?_
        obtain ⟨hx, hf⟩ := rdc_e hf
        refine z_iast B 69 rfl ob_5 hx ?_
        obtain ⟨m17, ex, hf⟩ := nm_x hf
        refine z_mem ex ?_
        refine z_aload_n B 70 rfl 0 0 rfl rfl ?_
        refine z_getr 7 8 0 B 71 rfl ob_0 rfl (iX7_laysLevels _ (List.mem_of_getElem? (i := 8) rfl)) rfl ?_
        refine z_iload_n B 72 rfl 3 3 rfl rfl ?_
        refine z_dup2 B 73 rfl rfl rfl ?_
        obtain ⟨hx, hf⟩ := rdc_e hf
        refine z_iald B 74 rfl ob_6 hx ?_
        obtain ⟨v18, ex, hf⟩ := nm_x hf
        refine z_top ex ?_
        refine z_aload_n B 75 rfl 0 0 rfl rfl ?_
        refine z_iload B 76 rfl 4 rfl ?_
        refine z_aload_n B 77 rfl 0 0 rfl rfl ?_
        refine z_getr 7 8 0 B 78 rfl ob_0 rfl (iX7_laysLevels _ (List.mem_of_getElem? (i := 8) rfl)) rfl ?_
        refine z_iload B 79 rfl 4 rfl ?_
        obtain ⟨hx, hf⟩ := rdc_e hf
        refine z_iald B 80 rfl ob_6 hx ?_
        obtain ⟨v19, ex, hf⟩ := nm_x hf
        refine z_top ex ?_
        obtain ⟨r20, ec, hf⟩ := bd_e hf
        refine z_callV 0 7 [.int x4, .int v19] [.int v18, .int x3, .ref 6] [.int r20, .int v18, .int x3, .ref 6] X B 81 rfl ob_0 rfl rfl miX7_cut ⟨(iX7_laysLevels _ (List.mem_of_getElem? (i := 12) rfl)), (iX7_laysLevels _ (List.mem_of_getElem? (i := 13) rfl)), (iX7_laysLevels _ (List.mem_of_getElem? (i := 14) rfl))⟩ (ctX7_cut hj ec) ⟨Nat.le_of_ble_eq_true rfl, Nat.le_of_ble_eq_true rfl⟩ rfl rfl (Nat.le_of_ble_eq_true rfl) rfl ?_
        refine z_iadd B 82 rfl ?_
        obtain ⟨hx, hf⟩ := rdc_e hf
        refine z_iast B 83 rfl ob_6 hx ?_
        obtain ⟨m21, ex, hf⟩ := nm_x hf
        refine z_mem ex ?_
        exact f7_laysLevels_j127_ok hj X B hQ hr hk9 ih _ _ _ _ _ hf
      · replace hf := (if_neg hc).symm.trans hf
        refine z_icmp_ne_t B 55 rfl 127 (by decide) hc ?_
        exact f7_laysLevels_j127_ok hj X B hQ hr hk9 ih _ _ _ _ _ hf
    · replace hf := (if_neg hc).symm.trans hf
      refine z_icmp_ge_t B 49 rfl 133 (by decide) hc ?_
      obtain ⟨v11, ex, hf⟩ := nm_x hf
      refine z_iinc v11 [(3, .int v11), (0, .ref 0), (1, .int x1), (2, .int x2), (4, .int x4)] B 86 rfl 3 rfl (ex.symm) (by decide) rfl ?_
      refine z_goto B 87 rfl 9 (by decide) ?_
      refine z_sub [(0, .ref 0), (1, .int x1), (2, .int x2), (3, .int v11)] [1, 2, 3, 0] rfl ?_
      exact hk9 _ _ _ _ hf
def f7_laysLevels_l9 : Nat → Int32 → Int32 → Int32 → Mem → Option Mem
  | 0, _, _, _, _ => none
  | n + 1, x1, x2, x3, mm => if x3 < x1 then some mm else bd (f7_offered mm x3 x2 (0 : Int32)) (fun r3 => bd (f7_wantedAt mm x3 x2) (fun r4 => rdc 5 x3 (nm (up2 mm 5 x3.toNatClampNeg (r3 - r4)) (fun m5 => bd (f7_offered m5 x3 x2 (1 : Int32)) (fun r6 => bd (f7_wantedAt m5 x3 (x2 + (1 : Int32))) (fun r7 => rdc 6 x3 (nm (up2 m5 6 x3.toNatClampNeg (r6 - r7)) (fun m8 => nm (x3 + (1 : Int32)) (fun v9 => f7_laysLevels_l61 (fun x1 x2 x3 mm => f7_laysLevels_l9 n x1 x2 x3 mm) FU x1 x2 x3 v9 m8)))))))))
theorem f7_laysLevels_l9_ok {E : Ev} {l : Launch} {C : Cfg} {x : Mem} (hj : Dj C) (X : Ec E l C rmX7_laysLevels) (B : Bx E RX7 tbX7_laysLevels 5 none) (hQ : Rt E) (hr : Rs E none x) (n : Nat) : ∀ (x1 : Int32) (x2 : Int32) (x3 : Int32) (mm : Mem), f7_laysLevels_l9 n x1 x2 x3 mm = some x → G E 5 9 [(0, .ref 0), (1, .int x1), (2, .int x2), (3, .int x3)] [] mm := by
  induction n with
  | zero =>
    intro x1 x2 x3 mm hf
    rw [f7_laysLevels_l9] at hf
    cases hf
  | succ n ih =>
    intro x1 x2 x3 mm hf
    rw [f7_laysLevels_l9] at hf
    refine z_iload_n B 7 rfl 3 3 rfl rfl ?_
    refine z_iload_n B 8 rfl 1 1 rfl rfl ?_
    by_cases hc : x3 < x1
    · replace hf := (if_pos hc).symm.trans hf
      refine z_icmp_lt_t B 9 rfl 139 (by decide) hc ?_
      cases hf
      exact z_vret B 88 rfl hQ hr
    · replace hf := (if_neg hc).symm.trans hf
      refine z_icmp_lt_f B 9 rfl 139 (by decide) hc ?_
      refine z_aload_n B 10 rfl 0 0 rfl rfl ?_
      refine z_getr 7 7 0 B 11 rfl ob_0 rfl (iX7_laysLevels _ (List.mem_of_getElem? (i := 1) rfl)) rfl ?_
      refine z_iload_n B 12 rfl 3 3 rfl rfl ?_
      refine z_aload_n B 13 rfl 0 0 rfl rfl ?_
      refine z_iload_n B 14 rfl 3 3 rfl rfl ?_
      refine z_iload_n B 15 rfl 2 2 rfl rfl ?_
      refine z_iconst 0 B 16 rfl (by decide) ?_
      obtain ⟨r3, ec, hf⟩ := bd_e hf
      refine z_callV 0 7 [.int x3, .int x2, .int (0 : Int32)] [.int x3, .ref 5] [.int r3, .int x3, .ref 5] X B 17 rfl ob_0 rfl rfl miX7_offered ⟨(iX7_laysLevels _ (List.mem_of_getElem? (i := 2) rfl)), (iX7_laysLevels _ (List.mem_of_getElem? (i := 3) rfl)), (iX7_laysLevels _ (List.mem_of_getElem? (i := 4) rfl))⟩ (ctX7_offered hj ec) ⟨Nat.le_of_ble_eq_true rfl, Nat.le_of_ble_eq_true rfl⟩ rfl rfl (Nat.le_of_ble_eq_true rfl) rfl ?_
      refine z_aload_n B 18 rfl 0 0 rfl rfl ?_
      refine z_iload_n B 19 rfl 3 3 rfl rfl ?_
      refine z_iload_n B 20 rfl 2 2 rfl rfl ?_
      obtain ⟨r4, ec, hf⟩ := bd_e hf
      refine z_callV 0 7 [.int x3, .int x2] [.int r3, .int x3, .ref 5] [.int r4, .int r3, .int x3, .ref 5] X B 21 rfl ob_0 rfl rfl miX7_wantedAt ⟨(iX7_laysLevels _ (List.mem_of_getElem? (i := 5) rfl)), (iX7_laysLevels _ (List.mem_of_getElem? (i := 6) rfl)), (iX7_laysLevels _ (List.mem_of_getElem? (i := 7) rfl))⟩ (ctX7_wantedAt hj ec) ⟨Nat.le_of_ble_eq_true rfl, Nat.le_of_ble_eq_true rfl⟩ rfl rfl (Nat.le_of_ble_eq_true rfl) rfl ?_
      refine z_isub B 22 rfl ?_
      obtain ⟨hx, hf⟩ := rdc_e hf
      refine z_iast B 23 rfl ob_5 hx ?_
      obtain ⟨m5, ex, hf⟩ := nm_x hf
      refine z_mem ex ?_
      refine z_aload_n B 24 rfl 0 0 rfl rfl ?_
      refine z_getr 7 8 0 B 25 rfl ob_0 rfl (iX7_laysLevels _ (List.mem_of_getElem? (i := 8) rfl)) rfl ?_
      refine z_iload_n B 26 rfl 3 3 rfl rfl ?_
      refine z_aload_n B 27 rfl 0 0 rfl rfl ?_
      refine z_iload_n B 28 rfl 3 3 rfl rfl ?_
      refine z_iload_n B 29 rfl 2 2 rfl rfl ?_
      refine z_iconst 1 B 30 rfl (by decide) ?_
      obtain ⟨r6, ec, hf⟩ := bd_e hf
      refine z_callV 0 7 [.int x3, .int x2, .int (1 : Int32)] [.int x3, .ref 6] [.int r6, .int x3, .ref 6] X B 31 rfl ob_0 rfl rfl miX7_offered ⟨(iX7_laysLevels _ (List.mem_of_getElem? (i := 2) rfl)), (iX7_laysLevels _ (List.mem_of_getElem? (i := 3) rfl)), (iX7_laysLevels _ (List.mem_of_getElem? (i := 4) rfl))⟩ (ctX7_offered hj ec) ⟨Nat.le_of_ble_eq_true rfl, Nat.le_of_ble_eq_true rfl⟩ rfl rfl (Nat.le_of_ble_eq_true rfl) rfl ?_
      refine z_aload_n B 32 rfl 0 0 rfl rfl ?_
      refine z_iload_n B 33 rfl 3 3 rfl rfl ?_
      refine z_iload_n B 34 rfl 2 2 rfl rfl ?_
      refine z_iconst 1 B 35 rfl (by decide) ?_
      refine z_iadd B 36 rfl ?_
      obtain ⟨r7, ec, hf⟩ := bd_e hf
      refine z_callV 0 7 [.int x3, .int (x2 + (1 : Int32))] [.int r6, .int x3, .ref 6] [.int r7, .int r6, .int x3, .ref 6] X B 37 rfl ob_0 rfl rfl miX7_wantedAt ⟨(iX7_laysLevels _ (List.mem_of_getElem? (i := 5) rfl)), (iX7_laysLevels _ (List.mem_of_getElem? (i := 6) rfl)), (iX7_laysLevels _ (List.mem_of_getElem? (i := 7) rfl))⟩ (ctX7_wantedAt hj ec) ⟨Nat.le_of_ble_eq_true rfl, Nat.le_of_ble_eq_true rfl⟩ rfl rfl (Nat.le_of_ble_eq_true rfl) rfl ?_
      refine z_isub B 38 rfl ?_
      obtain ⟨hx, hf⟩ := rdc_e hf
      refine z_iast B 39 rfl ob_6 hx ?_
      obtain ⟨m8, ex, hf⟩ := nm_x hf
      refine z_mem ex ?_
      refine z_iload_n B 40 rfl 3 3 rfl rfl ?_
      refine z_iconst 1 B 41 rfl (by decide) ?_
      refine z_iadd B 42 rfl ?_
      obtain ⟨v9, ex, hf⟩ := nm_x hf
      refine z_top ex ?_
      refine z_istore [(4, .int v9), (0, .ref 0), (1, .int x1), (2, .int x2), (3, .int x3)] B 43 rfl (by decide) rfl ?_
      refine z_sub [(0, .ref 0), (1, .int x1), (2, .int x2), (3, .int x3), (4, .int v9)] [1, 2, 3, 4, 0] rfl ?_
      exact f7_laysLevels_l61_ok hj X B hQ hr ih FU _ _ _ _ _ hf
def f7_laysLevels (mm : Mem) (a1 : Int32) (a2 : Int32) : Option Mem := rdc 1 (0 : Int32) (nm (mm 1 (0 : Int32).toNatClampNeg) (fun v1 => nm (v1 - (1 : Int32)) (fun v2 => f7_laysLevels_l9 FU a1 a2 v2 mm)))
theorem ctX7_laysLevels {l : Launch} {C : Cfg} (hj : Dj C) {mm : Mem} {a1 : Int32} {a2 : Int32} {x : Mem} (hf : f7_laysLevels mm a1 a2 = some x) : Ct l C yX7_laysLevels cX7_laysLevels 5 none 3 74 [.ref 0, .int a1, .int a2] mm none x := by
  refine Ct.of (tb := tbX7_laysLevels) hj miX7_laysLevels.2.1 miX7_laysLevels.1 dtX7_laysLevels (Nat.le_of_ble_eq_true rfl) ?_
  intro E B hQ hr X
  unfold f7_laysLevels at hf
  show G E 5 0 [(0, .ref 0), (1, .int a1), (2, .int a2)] [] mm
  refine z_aload_n B 0 rfl 0 0 rfl rfl ?_
  refine z_getr 7 1 0 B 1 rfl ob_0 rfl (iX7_laysLevels _ (List.mem_of_getElem? (i := 0) rfl)) rfl ?_
  refine z_iconst 0 B 2 rfl (by decide) ?_
  obtain ⟨hx, hf⟩ := rdc_e hf
  refine z_iald B 3 rfl ob_1 hx ?_
  obtain ⟨v1, ex, hf⟩ := nm_x hf
  refine z_top ex ?_
  refine z_iconst 1 B 4 rfl (by decide) ?_
  refine z_isub B 5 rfl ?_
  obtain ⟨v2, ex, hf⟩ := nm_x hf
  refine z_top ex ?_
  refine z_istore_n [(3, .int v2), (0, .ref 0), (1, .int a1), (2, .int a2)] B 6 rfl 3 rfl (by decide) rfl ?_
  refine z_sub [(0, .ref 0), (1, .int a1), (2, .int a2), (3, .int v2)] [1, 2, 3, 0] rfl ?_
  exact f7_laysLevels_l9_ok hj X B hQ hr FU _ _ _ _ hf
