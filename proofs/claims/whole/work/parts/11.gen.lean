/-! ZoneCapacity$Auction.clear()V -/
def tbX0_clear : Tb := [(0, .aload_n 0, 1, 1), (1, .invokevirtual 46, 3, 4), (4, .aload_n 0, 1, 5), (5, .invokevirtual 49, 3, 8), (8, .aload_n 0, 1, 9), (9, .iconst (-1), 1, 10), (10, .putfield 52, 3, 13), (13, .aload_n 0, 1, 14), (14, .getfield 18, 3, 17), (17, .iconst 0, 1, 18), (18, .iconst (-1), 1, 19), (19, .invokestatic 56, 3, 22), (22, .aload_n 0, 1, 23), (23, .getfield 22, 3, 26), (26, .iconst 0, 1, 27), (27, .iconst 0, 1, 28), (28, .invokestatic 56, 3, 31), (31, .iconst 0, 1, 32), (32, .istore_n 1, 1, 33), (33, .iload_n 1, 1, 34), (34, .aload_n 0, 1, 35), (35, .getfield 12, 3, 38), (38, .getfield 60, 3, 41), (41, .getfield 64, 3, 44), (44, .if_icmp .ge 47, 3, 47), (47, .aload_n 0, 1, 48), (48, .getfield 18, 3, 51), (51, .iload_n 1, 1, 52), (52, .invokestatic 69, 3, 55), (55, .iconst (-1), 1, 56), (56, .if_icmp .ne 24, 3, 59), (59, .aload_n 0, 1, 60), (60, .getfield 18, 3, 63), (63, .iload_n 1, 1, 64), (64, .aload_n 0, 1, 65), (65, .iload_n 1, 1, 66), (66, .aload_n 0, 1, 67), (67, .getfield 22, 3, 70), (70, .iload_n 1, 1, 71), (71, .invokestatic 69, 3, 74), (74, .invokevirtual 73, 3, 77), (77, .invokestatic 56, 3, 80), (80, .aload_n 0, 1, 81), (81, .iload_n 1, 1, 82), (82, .invokevirtual 77, 3, 85), (85, .iinc 1 1, 3, 88), (88, .goto (-55), 3, 91), (91, .return_, 1, 92)]
theorem dtX0_clear : ∀ q ∈ tbX0_clear, decode cX0_clear q.1 = .ok (q.2.1, q.2.2.1) ∧ q.1 + q.2.2.1 = q.2.2.2 := by decide +kernel
theorem miX0_clear : MI yX0_clear cX0_clear 2 none 0 := ⟨tw_mem (List.mem_of_getElem? (i := 712) (by decide +kernel)) rfl, by decide, by decide +kernel, tw_mem (List.mem_of_getElem? (i := 72) (by decide +kernel)) rfl⟩
abbrev rmX0_clear : Room := { frames := 4, cells := 0, slots := 0, locals := 102 }
def wX0_clear : List Cond := [.methodLink "ZoneCapacity$Auction" 46 yX0_readLines, .instanceMethod yX0_readLines, .selects "ZoneCapacity$Auction" yX0_readLines yX0_readLines, .methodLink "ZoneCapacity$Auction" 49 yX0_readTop, .instanceMethod yX0_readTop, .selects "ZoneCapacity$Auction" yX0_readTop yX0_readTop, .fieldLink "ZoneCapacity$Auction" 52 "ZoneCapacity$Auction" "filledAt" "I", .fieldLink "ZoneCapacity$Auction" 18 "ZoneCapacity$Auction" "prices" "[I", .static yX6_put, .fieldLink "ZoneCapacity$Auction" 22 "ZoneCapacity$Auction" "nets" "[I", .fieldLink "ZoneCapacity$Auction" 12 "ZoneCapacity$Auction" "market" "LZoneCapacity$Market;", .fieldLink "ZoneCapacity$Auction" 60 "ZoneCapacity$Market" "zones" "LZoneCapacity$Zones;", .fieldLink "ZoneCapacity$Auction" 64 "ZoneCapacity$Zones" "many" "I", .static yX6_at, .methodLink "ZoneCapacity$Auction" 77 yX0_part, .instanceMethod yX0_part, .selects "ZoneCapacity$Auction" yX0_part yX0_part, .methodLink "ZoneCapacity$Auction" 73 yX0_leastPrice, .instanceMethod yX0_leastPrice, .selects "ZoneCapacity$Auction" yX0_leastPrice yX0_leastPrice]
theorem iX0_clear : ∀ w ∈ wX0_clear, w ∈ TW := tw_of (ids := [682, 684, 14, 713, 715, 17, 239, 226, 115, 228, 224, 212, 118, 387, 726, 728, 19, 722, 724, 18]) (by decide +kernel)
def f0_clear_j80 (k33 : Nat → Int32 → Mem → Option Mem) (x0 : Nat) (x1 : Int32) (mm : Mem) : Option Mem := bd (f0_part mm x0 x1) (fun r7 => nm (x1 + 1) (fun v8 => k33 x0 v8 r7))
theorem f0_clear_j80_ok {E : Ev} {l : Launch} {C : Cfg} {x : Mem} {k33 : Nat → Int32 → Mem → Option Mem} (hj : Dj C) (X : Ec E l C rmX0_clear) (B : Bx E RX0 tbX0_clear 2 none) (hQ : Rt E) (hr : Rs E none x) (hk33 : ∀ (x0 : Nat) (x1 : Int32) (mm : Mem), Ob x0 0 → k33 x0 x1 mm = some x → G E 2 33 [(0, .ref x0), (1, .int x1)] [] mm) (x0 : Nat) (x1 : Int32) (mm : Mem) (o_x0 : Ob x0 0) (hf : f0_clear_j80 k33 x0 x1 mm = some x) : G E 2 80 [(0, .ref x0), (1, .int x1)] [] mm := by
  unfold f0_clear_j80 at hf
  refine z_aload_n B 42 rfl 0 0 rfl rfl ?_
  refine z_iload_n B 43 rfl 1 1 rfl rfl ?_
  obtain ⟨r7, ec, hf⟩ := bd_e hf
  refine z_callV x0 0 [.int x1] [] [] X B 44 rfl o_x0 rfl rfl miX0_part ⟨(iX0_clear _ (List.mem_of_getElem? (i := 14) rfl)), (iX0_clear _ (List.mem_of_getElem? (i := 15) rfl)), (iX0_clear _ (List.mem_of_getElem? (i := 16) rfl))⟩ (ctX0_part hj o_x0 ec) ⟨Nat.le_of_ble_eq_true rfl, Nat.le_of_ble_eq_true rfl⟩ rfl rfl (Nat.le_of_ble_eq_true rfl) rfl ?_
  obtain ⟨v8, ex, hf⟩ := nm_x hf
  refine z_iinc v8 [(1, .int v8), (0, .ref x0)] B 45 rfl 1 rfl (ex.symm) (by decide) rfl ?_
  refine z_goto B 46 rfl 33 (by decide) ?_
  refine z_sub [(0, .ref x0), (1, .int v8)] [1, 0] rfl ?_
  exact hk33 _ _ _ o_x0  hf
def f0_clear_l33 : Nat → Nat → Int32 → Mem → Option Mem
  | 0, _, _, _ => none
  | n + 1, x0, x1, mm => if x1 < (mm (x0 + 1 + 1) 0) then bd (f6_at mm (x0 + 20) x1) (fun r6 => if r6 = (-1 : Int32) then bd (f6_at mm (x0 + 21) x1) (fun r9 => bd (f0_leastPrice mm x0 x1 r9) (fun r10 => bd (f6_put r10.2 (x0 + 20) x1 r10.1) (fun r11 => f0_clear_j80 (fun x0 x1 mm => f0_clear_l33 n x0 x1 mm) x0 x1 r11))) else f0_clear_j80 (fun x0 x1 mm => f0_clear_l33 n x0 x1 mm) x0 x1 mm) else some mm
theorem f0_clear_l33_ok {E : Ev} {l : Launch} {C : Cfg} {x : Mem} (hj : Dj C) (X : Ec E l C rmX0_clear) (B : Bx E RX0 tbX0_clear 2 none) (hQ : Rt E) (hr : Rs E none x) (n : Nat) : ∀ (x0 : Nat) (x1 : Int32) (mm : Mem), Ob x0 0 → f0_clear_l33 n x0 x1 mm = some x → G E 2 33 [(0, .ref x0), (1, .int x1)] [] mm := by
  induction n with
  | zero =>
    intro x0 x1 mm o_x0 hf
    rw [f0_clear_l33] at hf
    cases hf
  | succ n ih =>
    intro x0 x1 mm o_x0 hf
    rw [f0_clear_l33] at hf
    refine z_iload_n B 19 rfl 1 1 rfl rfl ?_
    refine z_aload_n B 20 rfl 0 0 rfl rfl ?_
    refine z_getr 0 0 x0 B 21 rfl o_x0 rfl (iX0_clear _ (List.mem_of_getElem? (i := 10) rfl)) rfl ?_
    refine z_getr 1 0 (x0 + 1) B 22 rfl (obf_0_0 o_x0) rfl (iX0_clear _ (List.mem_of_getElem? (i := 11) rfl)) rfl ?_
    refine z_geti 5 0 (x0 + 1 + 1) B 23 rfl (obf_1_0 (obf_0_0 o_x0)) rfl (iX0_clear _ (List.mem_of_getElem? (i := 12) rfl)) rfl ?_
    by_cases hc : x1 < (mm (x0 + 1 + 1) 0)
    · replace hf := (if_pos hc).symm.trans hf
      refine z_icmp_ge_f B 24 rfl 91 (by decide) hc ?_
      refine z_aload_n B 25 rfl 0 0 rfl rfl ?_
      refine z_getr 0 1 x0 B 26 rfl o_x0 rfl (iX0_clear _ (List.mem_of_getElem? (i := 7) rfl)) rfl ?_
      refine z_iload_n B 27 rfl 1 1 rfl rfl ?_
      obtain ⟨r6, ec, hf⟩ := bd_e hf
      refine z_callN [.ref (x0 + 20), .int x1] [] [.int r6] X B 28 rfl miX6_at ⟨List.mem_of_getElem? (i := 19) rfl, (iX0_clear _ (List.mem_of_getElem? (i := 13) rfl))⟩ (ctX6_at hj (obf_0_1 o_x0) ec) ⟨Nat.le_of_ble_eq_true rfl, Nat.le_of_ble_eq_true rfl⟩ rfl rfl (Nat.le_of_ble_eq_true rfl) rfl ?_
      refine z_iconst (-1) B 29 rfl (by decide) ?_
      by_cases hc : r6 = (-1 : Int32)
      · replace hf := (if_pos hc).symm.trans hf
        refine z_icmp_ne_f B 30 rfl 80 (by decide) hc ?_
        refine z_aload_n B 31 rfl 0 0 rfl rfl ?_
        refine z_getr 0 1 x0 B 32 rfl o_x0 rfl (iX0_clear _ (List.mem_of_getElem? (i := 7) rfl)) rfl ?_
        refine z_iload_n B 33 rfl 1 1 rfl rfl ?_
        refine z_aload_n B 34 rfl 0 0 rfl rfl ?_
        refine z_iload_n B 35 rfl 1 1 rfl rfl ?_
        refine z_aload_n B 36 rfl 0 0 rfl rfl ?_
        refine z_getr 0 2 x0 B 37 rfl o_x0 rfl (iX0_clear _ (List.mem_of_getElem? (i := 9) rfl)) rfl ?_
        refine z_iload_n B 38 rfl 1 1 rfl rfl ?_
        obtain ⟨r9, ec, hf⟩ := bd_e hf
        refine z_callN [.ref (x0 + 21), .int x1] [.int x1, .ref x0, .int x1, .ref (x0 + 20)] [.int r9, .int x1, .ref x0, .int x1, .ref (x0 + 20)] X B 39 rfl miX6_at ⟨List.mem_of_getElem? (i := 19) rfl, (iX0_clear _ (List.mem_of_getElem? (i := 13) rfl))⟩ (ctX6_at hj (obf_0_2 o_x0) ec) ⟨Nat.le_of_ble_eq_true rfl, Nat.le_of_ble_eq_true rfl⟩ rfl rfl (Nat.le_of_ble_eq_true rfl) rfl ?_
        obtain ⟨r10, ec, hf⟩ := bd_e hf
        refine z_callV x0 0 [.int x1, .int r9] [.int x1, .ref (x0 + 20)] [.int r10.1, .int x1, .ref (x0 + 20)] X B 40 rfl o_x0 rfl rfl miX0_leastPrice ⟨(iX0_clear _ (List.mem_of_getElem? (i := 17) rfl)), (iX0_clear _ (List.mem_of_getElem? (i := 18) rfl)), (iX0_clear _ (List.mem_of_getElem? (i := 19) rfl))⟩ (ctX0_leastPrice hj o_x0 ec) ⟨Nat.le_of_ble_eq_true rfl, Nat.le_of_ble_eq_true rfl⟩ rfl rfl (Nat.le_of_ble_eq_true rfl) rfl ?_
        obtain ⟨r11, ec, hf⟩ := bd_e hf
        refine z_callN [.ref (x0 + 20), .int x1, .int r10.1] [] [] X B 41 rfl miX6_put ⟨List.mem_of_getElem? (i := 18) rfl, (iX0_clear _ (List.mem_of_getElem? (i := 8) rfl))⟩ (ctX6_put hj (obf_0_1 o_x0) ec) ⟨Nat.le_of_ble_eq_true rfl, Nat.le_of_ble_eq_true rfl⟩ rfl rfl (Nat.le_of_ble_eq_true rfl) rfl ?_
        exact f0_clear_j80_ok hj X B hQ hr ih _ _ _ o_x0  hf
      · replace hf := (if_neg hc).symm.trans hf
        refine z_icmp_ne_t B 30 rfl 80 (by decide) hc ?_
        exact f0_clear_j80_ok hj X B hQ hr ih _ _ _ o_x0  hf
    · replace hf := (if_neg hc).symm.trans hf
      refine z_icmp_ge_t B 24 rfl 91 (by decide) hc ?_
      cases hf
      exact z_vret B 47 rfl hQ hr
def f0_clear (mm : Mem) (a0 : Nat) : Option Mem := bd (f0_readLines mm a0) (fun r1 => bd (f0_readTop r1 a0) (fun r2 => nm (up2 r2 a0 10 (-1 : Int32)) (fun m3 => bd (f6_put m3 (a0 + 20) (0 : Int32) (-1 : Int32)) (fun r4 => bd (f6_put r4 (a0 + 21) (0 : Int32) (0 : Int32)) (fun r5 => f0_clear_l33 FU a0 (0 : Int32) r5)))))
theorem ctX0_clear {l : Launch} {C : Cfg} (hj : Dj C) {mm : Mem} {a0 : Nat} {x : Mem} (o_a0 : Ob a0 0) (hf : f0_clear mm a0 = some x) : Ct l C yX0_clear cX0_clear 2 none 4 102 [.ref a0] mm none x := by
  refine Ct.of (tb := tbX0_clear) hj miX0_clear.2.1 miX0_clear.1 dtX0_clear (Nat.le_of_ble_eq_true rfl) ?_
  intro E B hQ hr X
  unfold f0_clear at hf
  show G E 2 0 [(0, .ref a0)] [] mm
  refine z_aload_n B 0 rfl 0 0 rfl rfl ?_
  obtain ⟨r1, ec, hf⟩ := bd_e hf
  refine z_callV a0 0 [] [] [] X B 1 rfl o_a0 rfl rfl miX0_readLines ⟨(iX0_clear _ (List.mem_of_getElem? (i := 0) rfl)), (iX0_clear _ (List.mem_of_getElem? (i := 1) rfl)), (iX0_clear _ (List.mem_of_getElem? (i := 2) rfl))⟩ (ctX0_readLines hj o_a0 ec) ⟨Nat.le_of_ble_eq_true rfl, Nat.le_of_ble_eq_true rfl⟩ rfl rfl (Nat.le_of_ble_eq_true rfl) rfl ?_
  refine z_aload_n B 2 rfl 0 0 rfl rfl ?_
  obtain ⟨r2, ec, hf⟩ := bd_e hf
  refine z_callV a0 0 [] [] [] X B 3 rfl o_a0 rfl rfl miX0_readTop ⟨(iX0_clear _ (List.mem_of_getElem? (i := 3) rfl)), (iX0_clear _ (List.mem_of_getElem? (i := 4) rfl)), (iX0_clear _ (List.mem_of_getElem? (i := 5) rfl))⟩ (ctX0_readTop hj o_a0 ec) ⟨Nat.le_of_ble_eq_true rfl, Nat.le_of_ble_eq_true rfl⟩ rfl rfl (Nat.le_of_ble_eq_true rfl) rfl ?_
  refine z_aload_n B 4 rfl 0 0 rfl rfl ?_
  refine z_iconst (-1) B 5 rfl (by decide) ?_
  refine z_puti 0 10 a0 B 6 rfl o_a0 rfl (iX0_clear _ (List.mem_of_getElem? (i := 6) rfl)) rfl (ty := .int) (by decide) rfl rfl rfl ?_
  obtain ⟨m3, ex, hf⟩ := nm_x hf
  refine z_mem ex ?_
  refine z_aload_n B 7 rfl 0 0 rfl rfl ?_
  refine z_getr 0 1 a0 B 8 rfl o_a0 rfl (iX0_clear _ (List.mem_of_getElem? (i := 7) rfl)) rfl ?_
  refine z_iconst 0 B 9 rfl (by decide) ?_
  refine z_iconst (-1) B 10 rfl (by decide) ?_
  obtain ⟨r4, ec, hf⟩ := bd_e hf
  refine z_callN [.ref (a0 + 20), .int (0 : Int32), .int (-1 : Int32)] [] [] X B 11 rfl miX6_put ⟨List.mem_of_getElem? (i := 18) rfl, (iX0_clear _ (List.mem_of_getElem? (i := 8) rfl))⟩ (ctX6_put hj (obf_0_1 o_a0) ec) ⟨Nat.le_of_ble_eq_true rfl, Nat.le_of_ble_eq_true rfl⟩ rfl rfl (Nat.le_of_ble_eq_true rfl) rfl ?_
  refine z_aload_n B 12 rfl 0 0 rfl rfl ?_
  refine z_getr 0 2 a0 B 13 rfl o_a0 rfl (iX0_clear _ (List.mem_of_getElem? (i := 9) rfl)) rfl ?_
  refine z_iconst 0 B 14 rfl (by decide) ?_
  refine z_iconst 0 B 15 rfl (by decide) ?_
  obtain ⟨r5, ec, hf⟩ := bd_e hf
  refine z_callN [.ref (a0 + 21), .int (0 : Int32), .int (0 : Int32)] [] [] X B 16 rfl miX6_put ⟨List.mem_of_getElem? (i := 18) rfl, (iX0_clear _ (List.mem_of_getElem? (i := 8) rfl))⟩ (ctX6_put hj (obf_0_2 o_a0) ec) ⟨Nat.le_of_ble_eq_true rfl, Nat.le_of_ble_eq_true rfl⟩ rfl rfl (Nat.le_of_ble_eq_true rfl) rfl ?_
  refine z_iconst 0 B 17 rfl (by decide) ?_
  refine z_istore_n [(1, .int (0 : Int32)), (0, .ref a0)] B 18 rfl 1 rfl (by decide) rfl ?_
  refine z_sub [(0, .ref a0), (1, .int (0 : Int32))] [1, 0] rfl ?_
  exact f0_clear_l33_ok hj X B hQ hr FU _ _ _ o_a0  hf
/-! ZoneCapacity$Auction.levelOf(II)I -/
def tbX0_levelOf : Tb := [(0, .aload_n 0, 1, 1), (1, .invokevirtual 46, 3, 4), (4, .aload_n 0, 1, 5), (5, .iload_n 1, 1, 6), (6, .iload_n 2, 1, 7), (7, .aload_n 0, 1, 8), (8, .getfield 37, 3, 11), (11, .invokevirtual 81, 3, 14), (14, .aload_n 0, 1, 15), (15, .getfield 37, 3, 18), (18, .iload_n 1, 1, 19), (19, .invokestatic 69, 3, 22), (22, .ireturn, 1, 23)]
theorem dtX0_levelOf : ∀ q ∈ tbX0_levelOf, decode cX0_levelOf q.1 = .ok (q.2.1, q.2.2.1) ∧ q.1 + q.2.2.1 = q.2.2.2 := by decide +kernel
theorem miX0_levelOf : MI yX0_levelOf cX0_levelOf 3 (some .int) 2 := ⟨tw_mem (List.mem_of_getElem? (i := 681) (by decide +kernel)) rfl, by decide, by decide +kernel, tw_mem (List.mem_of_getElem? (i := 72) (by decide +kernel)) rfl⟩
abbrev rmX0_levelOf : Room := { frames := 4, cells := 0, slots := 0, locals := 89 }
def wX0_levelOf : List Cond := [.methodLink "ZoneCapacity$Auction" 46 yX0_readLines, .instanceMethod yX0_readLines, .selects "ZoneCapacity$Auction" yX0_readLines yX0_readLines, .fieldLink "ZoneCapacity$Auction" 37 "ZoneCapacity$Auction" "levels" "[I", .methodLink "ZoneCapacity$Auction" 81 yX0_fillLevels, .instanceMethod yX0_fillLevels, .selects "ZoneCapacity$Auction" yX0_fillLevels yX0_fillLevels, .static yX6_at]
theorem iX0_levelOf : ∀ w ∈ wX0_levelOf, w ∈ TW := tw_of (ids := [682, 684, 14, 236, 689, 691, 15, 387]) (by decide +kernel)
def f0_levelOf (mm : Mem) (a0 : Nat) (a1 : Int32) (a2 : Int32) : Option (Int32 × Mem) := bd (f0_readLines mm a0) (fun r1 => bd (f0_fillLevels r1 a0 a1 a2 (a0 + 26)) (fun r2 => bd (f6_at r2 (a0 + 26) a1) (fun r3 => some (r3, r2))))
theorem ctX0_levelOf {l : Launch} {C : Cfg} (hj : Dj C) {mm : Mem} {a0 : Nat} {a1 : Int32} {a2 : Int32} {x : (Int32 × Mem)} (o_a0 : Ob a0 0) (hf : f0_levelOf mm a0 a1 a2 = some x) : Ct l C yX0_levelOf cX0_levelOf 3 (some .int) 4 89 [.ref a0, .int a1, .int a2] mm (some (.int x.1)) x.2 := by
  refine Ct.of (tb := tbX0_levelOf) hj miX0_levelOf.2.1 miX0_levelOf.1 dtX0_levelOf (Nat.le_of_ble_eq_true rfl) ?_
  intro E B hQ hr X
  unfold f0_levelOf at hf
  show G E 3 0 [(0, .ref a0), (1, .int a1), (2, .int a2)] [] mm
  refine z_aload_n B 0 rfl 0 0 rfl rfl ?_
  obtain ⟨r1, ec, hf⟩ := bd_e hf
  refine z_callV a0 0 [] [] [] X B 1 rfl o_a0 rfl rfl miX0_readLines ⟨(iX0_levelOf _ (List.mem_of_getElem? (i := 0) rfl)), (iX0_levelOf _ (List.mem_of_getElem? (i := 1) rfl)), (iX0_levelOf _ (List.mem_of_getElem? (i := 2) rfl))⟩ (ctX0_readLines hj o_a0 ec) ⟨Nat.le_of_ble_eq_true rfl, Nat.le_of_ble_eq_true rfl⟩ rfl rfl (Nat.le_of_ble_eq_true rfl) rfl ?_
  refine z_aload_n B 2 rfl 0 0 rfl rfl ?_
  refine z_iload_n B 3 rfl 1 1 rfl rfl ?_
  refine z_iload_n B 4 rfl 2 2 rfl rfl ?_
  refine z_aload_n B 5 rfl 0 0 rfl rfl ?_
  refine z_getr 0 7 a0 B 6 rfl o_a0 rfl (iX0_levelOf _ (List.mem_of_getElem? (i := 3) rfl)) rfl ?_
  obtain ⟨r2, ec, hf⟩ := bd_e hf
  refine z_callV a0 0 [.int a1, .int a2, .ref (a0 + 26)] [] [] X B 7 rfl o_a0 rfl rfl miX0_fillLevels ⟨(iX0_levelOf _ (List.mem_of_getElem? (i := 4) rfl)), (iX0_levelOf _ (List.mem_of_getElem? (i := 5) rfl)), (iX0_levelOf _ (List.mem_of_getElem? (i := 6) rfl))⟩ (ctX0_fillLevels hj o_a0 (obf_0_7 o_a0) ec) ⟨Nat.le_of_ble_eq_true rfl, Nat.le_of_ble_eq_true rfl⟩ rfl rfl (Nat.le_of_ble_eq_true rfl) rfl ?_
  refine z_aload_n B 8 rfl 0 0 rfl rfl ?_
  refine z_getr 0 7 a0 B 9 rfl o_a0 rfl (iX0_levelOf _ (List.mem_of_getElem? (i := 3) rfl)) rfl ?_
  refine z_iload_n B 10 rfl 1 1 rfl rfl ?_
  obtain ⟨r3, ec, hf⟩ := bd_e hf
  refine z_callN [.ref (a0 + 26), .int a1] [] [.int r3] X B 11 rfl miX6_at ⟨List.mem_of_getElem? (i := 19) rfl, (iX0_levelOf _ (List.mem_of_getElem? (i := 7) rfl))⟩ (ctX6_at hj (obf_0_7 o_a0) ec) ⟨Nat.le_of_ble_eq_true rfl, Nat.le_of_ble_eq_true rfl⟩ rfl rfl (Nat.le_of_ble_eq_true rfl) rfl ?_
  cases hf
  exact z_iret B 12 rfl rfl hQ hr
/-! ZoneCapacity$Auction.takenOf(I)I -/
def tbX0_takenOf : Tb := [(0, .iconst 0, 1, 1), (1, .istore_n 2, 1, 2), (2, .iload_n 1, 1, 3), (3, .iconst 4, 1, 4), (4, .imul, 1, 5), (5, .istore_n 3, 1, 6), (6, .iload_n 3, 1, 7), (7, .iload_n 1, 1, 8), (8, .iconst 4, 1, 9), (9, .imul, 1, 10), (10, .iconst 4, 1, 11), (11, .iadd, 1, 12), (12, .if_icmp .ge 20, 3, 15), (15, .iload_n 2, 1, 16), (16, .aload_n 0, 1, 17), (17, .getfield 28, 3, 20), (20, .iload_n 3, 1, 21), (21, .invokestatic 69, 3, 24), (24, .iadd, 1, 25), (25, .istore_n 2, 1, 26), (26, .iinc 3 1, 3, 29), (29, .goto (-23), 3, 32), (32, .iload_n 2, 1, 33), (33, .ireturn, 1, 34)]
theorem dtX0_takenOf : ∀ q ∈ tbX0_takenOf, decode cX0_takenOf q.1 = .ok (q.2.1, q.2.2.1) ∧ q.1 + q.2.2.1 = q.2.2.2 := by decide +kernel
theorem miX0_takenOf : MI yX0_takenOf cX0_takenOf 4 (some .int) 1 := ⟨tw_mem (List.mem_of_getElem? (i := 754) (by decide +kernel)) rfl, by decide, by decide +kernel, tw_mem (List.mem_of_getElem? (i := 72) (by decide +kernel)) rfl⟩
abbrev rmX0_takenOf : Room := { frames := 1, cells := 0, slots := 0, locals := 21 }
def wX0_takenOf : List Cond := [.fieldLink "ZoneCapacity$Auction" 28 "ZoneCapacity$Auction" "takenUnits" "[I", .static yX6_at]
theorem iX0_takenOf : ∀ w ∈ wX0_takenOf, w ∈ TW := tw_of (ids := [232, 387]) (by decide +kernel)
def f0_takenOf_l6 (mm : Mem) : Nat → Nat → Int32 → Int32 → Int32 → Option Int32
  | 0, _, _, _, _ => none
  | n + 1, x0, x1, x2, x3 => if x3 < ((x1 * (4 : Int32)) + (4 : Int32)) then bd (f6_at mm (x0 + 23) x3) (fun r2 => nm (x2 + r2) (fun v3 => nm (x3 + 1) (fun v4 => f0_takenOf_l6 mm n x0 x1 v3 v4))) else some (x2)
theorem f0_takenOf_l6_ok {E : Ev} {l : Launch} {C : Cfg} {mm : Mem} {x : Int32} (hj : Dj C) (X : Ec E l C rmX0_takenOf) (B : Bx E RX0 tbX0_takenOf 4 (some .int)) (hQ : Rt E) (hr : Rs E (some (.int x)) mm) (n : Nat) : ∀ (x0 : Nat) (x1 : Int32) (x2 : Int32) (x3 : Int32), Ob x0 0 → f0_takenOf_l6 mm n x0 x1 x2 x3 = some x → G E 4 6 [(0, .ref x0), (1, .int x1), (2, .int x2), (3, .int x3)] [] mm := by
  induction n with
  | zero =>
    intro x0 x1 x2 x3 o_x0 hf
    rw [f0_takenOf_l6] at hf
    cases hf
  | succ n ih =>
    intro x0 x1 x2 x3 o_x0 hf
    rw [f0_takenOf_l6] at hf
    refine z_iload_n B 6 rfl 3 3 rfl rfl ?_
    refine z_iload_n B 7 rfl 1 1 rfl rfl ?_
    refine z_iconst 4 B 8 rfl (by decide) ?_
    refine z_imul B 9 rfl ?_
    refine z_iconst 4 B 10 rfl (by decide) ?_
    refine z_iadd B 11 rfl ?_
    by_cases hc : x3 < ((x1 * (4 : Int32)) + (4 : Int32))
    · replace hf := (if_pos hc).symm.trans hf
      refine z_icmp_ge_f B 12 rfl 32 (by decide) hc ?_
      refine z_iload_n B 13 rfl 2 2 rfl rfl ?_
      refine z_aload_n B 14 rfl 0 0 rfl rfl ?_
      refine z_getr 0 4 x0 B 15 rfl o_x0 rfl (iX0_takenOf _ (List.mem_of_getElem? (i := 0) rfl)) rfl ?_
      refine z_iload_n B 16 rfl 3 3 rfl rfl ?_
      obtain ⟨r2, ec, hf⟩ := bd_e hf
      refine z_callN [.ref (x0 + 23), .int x3] [.int x2] [.int r2, .int x2] X B 17 rfl miX6_at ⟨List.mem_of_getElem? (i := 19) rfl, (iX0_takenOf _ (List.mem_of_getElem? (i := 1) rfl))⟩ (ctX6_at hj (obf_0_4 o_x0) ec) ⟨Nat.le_of_ble_eq_true rfl, Nat.le_of_ble_eq_true rfl⟩ rfl rfl (Nat.le_of_ble_eq_true rfl) rfl ?_
      refine z_iadd B 18 rfl ?_
      obtain ⟨v3, ex, hf⟩ := nm_x hf
      refine z_top ex ?_
      refine z_istore_n [(2, .int v3), (0, .ref x0), (1, .int x1), (3, .int x3)] B 19 rfl 2 rfl (by decide) rfl ?_
      obtain ⟨v4, ex, hf⟩ := nm_x hf
      refine z_iinc v4 [(3, .int v4), (2, .int v3), (0, .ref x0), (1, .int x1)] B 20 rfl 3 rfl (ex.symm) (by decide) rfl ?_
      refine z_goto B 21 rfl 6 (by decide) ?_
      refine z_sub [(0, .ref x0), (1, .int x1), (2, .int v3), (3, .int v4)] [2, 3, 1, 0] rfl ?_
      exact ih _ _ _ _ o_x0  hf
    · replace hf := (if_neg hc).symm.trans hf
      refine z_icmp_ge_t B 12 rfl 32 (by decide) hc ?_
      refine z_iload_n B 22 rfl 2 2 rfl rfl ?_
      cases hf
      exact z_iret B 23 rfl rfl hQ hr
def f0_takenOf (mm : Mem) (a0 : Nat) (a1 : Int32) : Option Int32 := nm (a1 * (4 : Int32)) (fun v1 => f0_takenOf_l6 mm FU a0 a1 (0 : Int32) v1)
theorem ctX0_takenOf {l : Launch} {C : Cfg} (hj : Dj C) {mm : Mem} {a0 : Nat} {a1 : Int32} {x : Int32} (o_a0 : Ob a0 0) (hf : f0_takenOf mm a0 a1 = some x) : Ct l C yX0_takenOf cX0_takenOf 4 (some .int) 1 21 [.ref a0, .int a1] mm (some (.int x)) mm := by
  refine Ct.of (tb := tbX0_takenOf) hj miX0_takenOf.2.1 miX0_takenOf.1 dtX0_takenOf (Nat.le_of_ble_eq_true rfl) ?_
  intro E B hQ hr X
  unfold f0_takenOf at hf
  show G E 4 0 [(0, .ref a0), (1, .int a1)] [] mm
  refine z_iconst 0 B 0 rfl (by decide) ?_
  refine z_istore_n [(2, .int (0 : Int32)), (0, .ref a0), (1, .int a1)] B 1 rfl 2 rfl (by decide) rfl ?_
  refine z_iload_n B 2 rfl 1 2 rfl rfl ?_
  refine z_iconst 4 B 3 rfl (by decide) ?_
  refine z_imul B 4 rfl ?_
  obtain ⟨v1, ex, hf⟩ := nm_x hf
  refine z_top ex ?_
  refine z_istore_n [(3, .int v1), (2, .int (0 : Int32)), (0, .ref a0), (1, .int a1)] B 5 rfl 3 rfl (by decide) rfl ?_
  refine z_sub [(0, .ref a0), (1, .int a1), (2, .int (0 : Int32)), (3, .int v1)] [2, 3, 1, 0] rfl ?_
  exact f0_takenOf_l6_ok hj X B hQ hr FU _ _ _ _ o_a0  hf
