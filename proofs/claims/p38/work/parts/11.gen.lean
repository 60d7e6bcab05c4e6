/-! ZoneCapacity$Auction.clear()V -/
def tbX0_clear : Tb := [(0, .aload_n 0, 1, 1), (1, .invokevirtual 46, 3, 4), (4, .aload_n 0, 1, 5), (5, .invokevirtual 49, 3, 8), (8, .aload_n 0, 1, 9), (9, .iconst (-1), 1, 10), (10, .putfield 52, 3, 13), (13, .aload_n 0, 1, 14), (14, .getfield 18, 3, 17), (17, .iconst 0, 1, 18), (18, .iconst (-1), 1, 19), (19, .invokestatic 56, 3, 22), (22, .aload_n 0, 1, 23), (23, .getfield 22, 3, 26), (26, .iconst 0, 1, 27), (27, .iconst 0, 1, 28), (28, .invokestatic 56, 3, 31), (31, .iconst 0, 1, 32), (32, .istore_n 1, 1, 33), (33, .iload_n 1, 1, 34), (34, .aload_n 0, 1, 35), (35, .getfield 12, 3, 38), (38, .getfield 60, 3, 41), (41, .getfield 64, 3, 44), (44, .if_icmp .ge 47, 3, 47), (47, .aload_n 0, 1, 48), (48, .getfield 18, 3, 51), (51, .iload_n 1, 1, 52), (52, .invokestatic 69, 3, 55), (55, .iconst (-1), 1, 56), (56, .if_icmp .ne 24, 3, 59), (59, .aload_n 0, 1, 60), (60, .getfield 18, 3, 63), (63, .iload_n 1, 1, 64), (64, .aload_n 0, 1, 65), (65, .iload_n 1, 1, 66), (66, .aload_n 0, 1, 67), (67, .getfield 22, 3, 70), (70, .iload_n 1, 1, 71), (71, .invokestatic 69, 3, 74), (74, .invokevirtual 73, 3, 77), (77, .invokestatic 56, 3, 80), (80, .aload_n 0, 1, 81), (81, .iload_n 1, 1, 82), (82, .invokevirtual 77, 3, 85), (85, .iinc 1 1, 3, 88), (88, .goto (-55), 3, 91), (91, .return_, 1, 92)]
theorem dtX0_clear : ∀ q ∈ tbX0_clear, decode cX0_clear q.1 = .ok (q.2.1, q.2.2.1) ∧ q.1 + q.2.2.1 = q.2.2.2 := by decide +kernel
theorem miX0_clear : MI yX0_clear cX0_clear 2 none 0 := ⟨tw_mem (List.mem_of_getElem? (i := 335) (by decide +kernel)) rfl, by decide, by decide +kernel, tw_mem (List.mem_of_getElem? (i := 15) (by decide +kernel)) rfl⟩
abbrev rmX0_clear : Room := { frames := 4, cells := 0, slots := 0, locals := 102 }
def wX0_clear : List Cond := [.methodLink "ZoneCapacity$Auction" 46 yX0_readLines, .instanceMethod yX0_readLines, .selects "ZoneCapacity$Auction" yX0_readLines yX0_readLines, .methodLink "ZoneCapacity$Auction" 49 yX0_readTop, .instanceMethod yX0_readTop, .selects "ZoneCapacity$Auction" yX0_readTop yX0_readTop, .fieldLink "ZoneCapacity$Auction" 52 "ZoneCapacity$Auction" "filledAt" "I", .fieldLink "ZoneCapacity$Auction" 18 "ZoneCapacity$Auction" "prices" "[I", .static yX6_put, .fieldLink "ZoneCapacity$Auction" 22 "ZoneCapacity$Auction" "nets" "[I", .fieldLink "ZoneCapacity$Auction" 12 "ZoneCapacity$Auction" "market" "LZoneCapacity$Market;", .fieldLink "ZoneCapacity$Auction" 60 "ZoneCapacity$Market" "zones" "LZoneCapacity$Zones;", .fieldLink "ZoneCapacity$Auction" 64 "ZoneCapacity$Zones" "many" "I", .static yX6_at, .methodLink "ZoneCapacity$Auction" 77 yX0_part, .instanceMethod yX0_part, .selects "ZoneCapacity$Auction" yX0_part yX0_part, .methodLink "ZoneCapacity$Auction" 73 yX0_leastPrice, .instanceMethod yX0_leastPrice, .selects "ZoneCapacity$Auction" yX0_leastPrice yX0_leastPrice]
theorem iX0_clear : ∀ w ∈ wX0_clear, w ∈ TW := tw_of (ids := [336, 338, 0, 359, 361, 1, 175, 162, 291, 164, 160, 150, 69, 272, 394, 396, 5, 369, 371, 2]) (by decide +kernel)
def f0_clear_j80 (k33 : Nat → Int32 → Mem → Option Mem) (x0 : Nat) (x1 : Int32) (mm : Mem) : Option Mem := bd (f0_part mm x0 x1) (fun r7 => nm (x1 + 1) (fun v8 => k33 x0 v8 r7))
theorem f0_clear_j80_ok {E : Ev} {l : Launch} {C : Cfg} {x : Mem} {k33 : Nat → Int32 → Mem → Option Mem} (hj : Dj C) (X : Ec E l C rmX0_clear) (B : Bx E RX0 tbX0_clear 2 none) (hQ : Rt E) (hr : Rs E none x) (hk33 : ∀ (x0 : Nat) (x1 : Int32) (mm : Mem), Ob x0 0 → k33 x0 x1 mm = some x → G E 2 33 [(0, .ref x0), (1, .int x1)] [] mm) (x0 : Nat) (x1 : Int32) (mm : Mem) (o_x0 : Ob x0 0) (hf : f0_clear_j80 k33 x0 x1 mm = some x) : G E 2 80 [(0, .ref x0), (1, .int x1)] [] mm := by
  unfold f0_clear_j80 at hf
  refine z_aload_n B 42 rfl 0 0 rfl rfl ?_
  refine z_iload_n B 43 rfl 1 1 rfl rfl ?_
  obtain ⟨r7, ec, hf⟩ := bd_e hf
  refine z_callV x0 0 [.int x1] [] [] X B 44 rfl (by decide) o_x0 rfl rfl miX0_part ⟨(iX0_clear _ (List.mem_of_getElem? (i := 14) rfl)), (iX0_clear _ (List.mem_of_getElem? (i := 15) rfl)), (iX0_clear _ (List.mem_of_getElem? (i := 16) rfl))⟩ (ctX0_part hj o_x0 ec) ⟨Nat.le_of_ble_eq_true rfl, Nat.le_of_ble_eq_true rfl⟩ rfl rfl (Nat.le_of_ble_eq_true rfl) rfl ?_
  obtain ⟨v8, ex, hf⟩ := nm_x hf
  refine z_iinc v8 [(1, .int v8), (0, .ref x0)] B 45 rfl 1 rfl (ex.symm) (by decide) rfl ?_
  refine z_goto B 46 rfl 33 (by decide) ?_
  refine z_sub [(0, .ref x0), (1, .int v8)] [1, 0] rfl ?_
  exact hk33 _ _ _ o_x0  hf
def f0_clear_l33 : Nat → Nat → Int32 → Mem → Option Mem
  | 0, _, _, _ => none
  | n + 1, x0, x1, mm => if x1 < (mm (x0 + 1 + 1) 0) then bd (f6_at mm (x0 + 20) x1) (fun r6 => if r6 = (-1 : Int32) then bd (f6_at mm (x0 + 21) x1) (fun r9 => bd (f0_leastPrice mm x0 x1 r9) (fun r10 => bd (f6_put r10.2 (x0 + 20) x1 r10.1) (fun r11 => f0_clear_j80 (fun x0 x1 mm => f0_clear_l33 n x0 x1 mm) x0 x1 r11))) else f0_clear_j80 (fun x0 x1 mm => f0_clear_l33 n x0 x1 mm) x0 x1 mm) else some mm
theorem f0_clear_l33_ok {E : Ev} {l : Launch} {C : Cfg} {x : Mem} (hj : Dj C) (X : Ec E l C rmX0_clear) (B : Bx E RX0 tbX0_clear 2 none) (hQ : Rt E) (hr : Rs E none x) (n : Nat) : ∀ (x0 : Nat) (x1 : Int32) (mm : Mem), Ob x0 0 → f0_clear_l33 n x0 x1 mm = some x → G E 2 33 [(0, .ref x0), (1, .int x1)] [] mm := by
  induction n with
  | zero =>
    intro x0 x1 mm o_x0 hf
    rw [f0_clear_l33] at hf
    cases hf
  | succ n ih =>
    intro x0 x1 mm o_x0 hf
    rw [f0_clear_l33] at hf
    refine z_iload_n B 19 rfl 1 1 rfl rfl ?_
    refine z_aload_n B 20 rfl 0 0 rfl rfl ?_
    refine z_getr 0 0 x0 B 21 rfl o_x0 rfl (iX0_clear _ (List.mem_of_getElem? (i := 10) rfl)) rfl ?_
    refine z_getr 1 0 (x0 + 1) B 22 rfl (obf_0_0 o_x0) rfl (iX0_clear _ (List.mem_of_getElem? (i := 11) rfl)) rfl ?_
    refine z_geti 5 0 (x0 + 1 + 1) B 23 rfl (obf_1_0 (obf_0_0 o_x0)) rfl (iX0_clear _ (List.mem_of_getElem? (i := 12) rfl)) rfl ?_
    by_cases hc : x1 < (mm (x0 + 1 + 1) 0)
    · replace hf := (if_pos hc).symm.trans hf
      refine z_icmp_ge_f B 24 rfl 91 (by decide) hc ?_
      refine z_aload_n B 25 rfl 0 0 rfl rfl ?_
      refine z_getr 0 1 x0 B 26 rfl o_x0 rfl (iX0_clear _ (List.mem_of_getElem? (i := 7) rfl)) rfl ?_
      refine z_iload_n B 27 rfl 1 1 rfl rfl ?_
      obtain ⟨r6, ec, hf⟩ := bd_e hf
      refine z_callN [.ref (x0 + 20), .int x1] [] [.int r6] X B 28 rfl miX6_at ⟨List.mem_of_getElem? (i := 13) rfl, (iX0_clear _ (List.mem_of_getElem? (i := 13) rfl))⟩ (ctX6_at hj (obf_0_1 o_x0) ec) ⟨Nat.le_of_ble_eq_true rfl, Nat.le_of_ble_eq_true rfl⟩ rfl rfl (Nat.le_of_ble_eq_true rfl) rfl ?_
      refine z_iconst (-1) B 29 rfl (by decide) ?_
      by_cases hc : r6 = (-1 : Int32)
      · replace hf := (if_pos hc).symm.trans hf
        refine z_icmp_ne_f B 30 rfl 80 (by decide) hc ?_
        refine z_aload_n B 31 rfl 0 0 rfl rfl ?_
        refine z_getr 0 1 x0 B 32 rfl o_x0 rfl (iX0_clear _ (List.mem_of_getElem? (i := 7) rfl)) rfl ?_
        refine z_iload_n B 33 rfl 1 1 rfl rfl ?_
        refine z_aload_n B 34 rfl 0 0 rfl rfl ?_
        refine z_iload_n B 35 rfl 1 1 rfl rfl ?_
        refine z_aload_n B 36 rfl 0 0 rfl rfl ?_
        refine z_getr 0 2 x0 B 37 rfl o_x0 rfl (iX0_clear _ (List.mem_of_getElem? (i := 9) rfl)) rfl ?_
        refine z_iload_n B 38 rfl 1 1 rfl rfl ?_
        obtain ⟨r9, ec, hf⟩ := bd_e hf
        refine z_callN [.ref (x0 + 21), .int x1] [.int x1, .ref x0, .int x1, .ref (x0 + 20)] [.int r9, .int x1, .ref x0, .int x1, .ref (x0 + 20)] X B 39 rfl miX6_at ⟨List.mem_of_getElem? (i := 13) rfl, (iX0_clear _ (List.mem_of_getElem? (i := 13) rfl))⟩ (ctX6_at hj (obf_0_2 o_x0) ec) ⟨Nat.le_of_ble_eq_true rfl, Nat.le_of_ble_eq_true rfl⟩ rfl rfl (Nat.le_of_ble_eq_true rfl) rfl ?_
        obtain ⟨r10, ec, hf⟩ := bd_e hf
        refine z_callV x0 0 [.int x1, .int r9] [.int x1, .ref (x0 + 20)] [.int r10.1, .int x1, .ref (x0 + 20)] X B 40 rfl (by decide) o_x0 rfl rfl miX0_leastPrice ⟨(iX0_clear _ (List.mem_of_getElem? (i := 17) rfl)), (iX0_clear _ (List.mem_of_getElem? (i := 18) rfl)), (iX0_clear _ (List.mem_of_getElem? (i := 19) rfl))⟩ (ctX0_leastPrice hj o_x0 ec) ⟨Nat.le_of_ble_eq_true rfl, Nat.le_of_ble_eq_true rfl⟩ rfl rfl (Nat.le_of_ble_eq_true rfl) rfl ?_
        obtain ⟨r11, ec, hf⟩ := bd_e hf
        refine z_callN [.ref (x0 + 20), .int x1, .int r10.1] [] [] X B 41 rfl miX6_put ⟨List.mem_of_getElem? (i := 12) rfl, (iX0_clear _ (List.mem_of_getElem? (i := 8) rfl))⟩ (ctX6_put hj (obf_0_1 o_x0) ec) ⟨Nat.le_of_ble_eq_true rfl, Nat.le_of_ble_eq_true rfl⟩ rfl rfl (Nat.le_of_ble_eq_true rfl) rfl ?_
        exact f0_clear_j80_ok hj X B hQ hr ih _ _ _ o_x0  hf
      · replace hf := (if_neg hc).symm.trans hf
        refine z_icmp_ne_t B 30 rfl 80 (by decide) hc ?_
        exact f0_clear_j80_ok hj X B hQ hr ih _ _ _ o_x0  hf
    · replace hf := (if_neg hc).symm.trans hf
      refine z_icmp_ge_t B 24 rfl 91 (by decide) hc ?_
      cases hf
      exact z_vret B 47 rfl hQ hr
def f0_clear (mm : Mem) (a0 : Nat) : Option Mem := bd (f0_readLines mm a0) (fun r1 => bd (f0_readTop r1 a0) (fun r2 => nm (up2 r2 a0 10 (-1 : Int32)) (fun m3 => bd (f6_put m3 (a0 + 20) (0 : Int32) (-1 : Int32)) (fun r4 => bd (f6_put r4 (a0 + 21) (0 : Int32) (0 : Int32)) (fun r5 => f0_clear_l33 FU a0 (0 : Int32) r5)))))
theorem ctX0_clear {l : Launch} {C : Cfg} (hj : Dj C) {mm : Mem} {a0 : Nat} {x : Mem} (o_a0 : Ob a0 0) (hf : f0_clear mm a0 = some x) : Ct l C yX0_clear cX0_clear 2 none 4 102 [.ref a0] mm none x := by
  refine Ct.of (tb := tbX0_clear) hj miX0_clear.2.1 miX0_clear.1 dtX0_clear (Nat.le_of_ble_eq_true rfl) ?_
  intro E B hQ hr X
  unfold f0_clear at hf
  show G E 2 0 [(0, .ref a0)] [] mm
  refine z_aload_n B 0 rfl 0 0 rfl rfl ?_
  obtain ⟨r1, ec, hf⟩ := bd_e hf
  refine z_callV a0 0 [] [] [] X B 1 rfl (by decide) o_a0 rfl rfl miX0_readLines ⟨(iX0_clear _ (List.mem_of_getElem? (i := 0) rfl)), (iX0_clear _ (List.mem_of_getElem? (i := 1) rfl)), (iX0_clear _ (List.mem_of_getElem? (i := 2) rfl))⟩ (ctX0_readLines hj o_a0 ec) ⟨Nat.le_of_ble_eq_true rfl, Nat.le_of_ble_eq_true rfl⟩ rfl rfl (Nat.le_of_ble_eq_true rfl) rfl ?_
  refine z_aload_n B 2 rfl 0 0 rfl rfl ?_
  obtain ⟨r2, ec, hf⟩ := bd_e hf
  refine z_callV a0 0 [] [] [] X B 3 rfl (by decide) o_a0 rfl rfl miX0_readTop ⟨(iX0_clear _ (List.mem_of_getElem? (i := 3) rfl)), (iX0_clear _ (List.mem_of_getElem? (i := 4) rfl)), (iX0_clear _ (List.mem_of_getElem? (i := 5) rfl))⟩ (ctX0_readTop hj o_a0 ec) ⟨Nat.le_of_ble_eq_true rfl, Nat.le_of_ble_eq_true rfl⟩ rfl rfl (Nat.le_of_ble_eq_true rfl) rfl ?_
  refine z_aload_n B 4 rfl 0 0 rfl rfl ?_
  refine z_iconst (-1) B 5 rfl (by decide) ?_
  refine z_puti 0 10 a0 B 6 rfl o_a0 rfl (iX0_clear _ (List.mem_of_getElem? (i := 6) rfl)) rfl (ty := .int) (by decide) rfl rfl rfl ?_
  obtain ⟨m3, ex, hf⟩ := nm_x hf
  refine z_mem ex ?_
  refine z_aload_n B 7 rfl 0 0 rfl rfl ?_
  refine z_getr 0 1 a0 B 8 rfl o_a0 rfl (iX0_clear _ (List.mem_of_getElem? (i := 7) rfl)) rfl ?_
  refine z_iconst 0 B 9 rfl (by decide) ?_
  refine z_iconst (-1) B 10 rfl (by decide) ?_
  obtain ⟨r4, ec, hf⟩ := bd_e hf
  refine z_callN [.ref (a0 + 20), .int (0 : Int32), .int (-1 : Int32)] [] [] X B 11 rfl miX6_put ⟨List.mem_of_getElem? (i := 12) rfl, (iX0_clear _ (List.mem_of_getElem? (i := 8) rfl))⟩ (ctX6_put hj (obf_0_1 o_a0) ec) ⟨Nat.le_of_ble_eq_true rfl, Nat.le_of_ble_eq_true rfl⟩ rfl rfl (Nat.le_of_ble_eq_true rfl) rfl ?_
  refine z_aload_n B 12 rfl 0 0 rfl rfl ?_
  refine z_getr 0 2 a0 B 13 rfl o_a0 rfl (iX0_clear _ (List.mem_of_getElem? (i := 9) rfl)) rfl ?_
  refine z_iconst 0 B 14 rfl (by decide) ?_
  refine z_iconst 0 B 15 rfl (by decide) ?_
  obtain ⟨r5, ec, hf⟩ := bd_e hf
  refine z_callN [.ref (a0 + 21), .int (0 : Int32), .int (0 : Int32)] [] [] X B 16 rfl miX6_put ⟨List.mem_of_getElem? (i := 12) rfl, (iX0_clear _ (List.mem_of_getElem? (i := 8) rfl))⟩ (ctX6_put hj (obf_0_2 o_a0) ec) ⟨Nat.le_of_ble_eq_true rfl, Nat.le_of_ble_eq_true rfl⟩ rfl rfl (Nat.le_of_ble_eq_true rfl) rfl ?_
  refine z_iconst 0 B 17 rfl (by decide) ?_
  refine z_istore_n [(1, .int (0 : Int32)), (0, .ref a0)] B 18 rfl 1 rfl (by decide) rfl ?_
  refine z_sub [(0, .ref a0), (1, .int (0 : Int32))] [1, 0] rfl ?_
  exact f0_clear_l33_ok hj X B hQ hr FU _ _ _ o_a0  hf
/-! ZoneCapacity$Auction.levelOf(II)I -/
def tbX0_levelOf : Tb := [(0, .aload_n 0, 1, 1), (1, .invokevirtual 46, 3, 4), (4, .aload_n 0, 1, 5), (5, .iload_n 1, 1, 6), (6, .iload_n 2, 1, 7), (7, .aload_n 0, 1, 8), (8, .getfield 37, 3, 11), (11, .invokevirtual 81, 3, 14), (14, .aload_n 0, 1, 15), (15, .getfield 37, 3, 18), (18, .iload_n 1, 1, 19), (19, .invokestatic 69, 3, 22), (22, .ireturn, 1, 23)]
theorem dtX0_levelOf : ∀ q ∈ tbX0_levelOf, decode cX0_levelOf q.1 = .ok (q.2.1, q.2.2.1) ∧ q.1 + q.2.2.1 = q.2.2.2 := by decide +kernel
theorem miX0_levelOf : MI yX0_levelOf cX0_levelOf 3 (some .int) 2 := ⟨tw_mem (List.mem_of_getElem? (i := 847) (by decide +kernel)) rfl, by decide, by decide +kernel, tw_mem (List.mem_of_getElem? (i := 15) (by decide +kernel)) rfl⟩
abbrev rmX0_levelOf : Room := { frames := 4, cells := 0, slots := 0, locals := 89 }
def wX0_levelOf : List Cond := [.methodLink "ZoneCapacity$Auction" 46 yX0_readLines, .instanceMethod yX0_readLines, .selects "ZoneCapacity$Auction" yX0_readLines yX0_readLines, .fieldLink "ZoneCapacity$Auction" 37 "ZoneCapacity$Auction" "levels" "[I", .methodLink "ZoneCapacity$Auction" 81 yX0_fillLevels, .instanceMethod yX0_fillLevels, .selects "ZoneCapacity$Auction" yX0_fillLevels yX0_fillLevels, .static yX6_at]
theorem iX0_levelOf : ∀ w ∈ wX0_levelOf, w ∈ TW := tw_of (ids := [336, 338, 0, 172, 373, 375, 3, 272]) (by decide +kernel)
def f0_levelOf (mm : Mem) (a0 : Nat) (a1 : Int32) (a2 : Int32) : Option (Int32 × Mem) := bd (f0_readLines mm a0) (fun r1 => bd (f0_fillLevels r1 a0 a1 a2 (a0 + 26)) (fun r2 => bd (f6_at r2 (a0 + 26) a1) (fun r3 => some (r3, r2))))
theorem ctX0_levelOf {l : Launch} {C : Cfg} (hj : Dj C) {mm : Mem} {a0 : Nat} {a1 : Int32} {a2 : Int32} {x : (Int32 × Mem)} (o_a0 : Ob a0 0) (hf : f0_levelOf mm a0 a1 a2 = some x) : Ct l C yX0_levelOf cX0_levelOf 3 (some .int) 4 89 [.ref a0, .int a1, .int a2] mm (some (.int x.1)) x.2 := by
  refine Ct.of (tb := tbX0_levelOf) hj miX0_levelOf.2.1 miX0_levelOf.1 dtX0_levelOf (Nat.le_of_ble_eq_true rfl) ?_
  intro E B hQ hr X
  unfold f0_levelOf at hf
  show G E 3 0 [(0, .ref a0), (1, .int a1), (2, .int a2)] [] mm
  refine z_aload_n B 0 rfl 0 0 rfl rfl ?_
  obtain ⟨r1, ec, hf⟩ := bd_e hf
  refine z_callV a0 0 [] [] [] X B 1 rfl (by decide) o_a0 rfl rfl miX0_readLines ⟨(iX0_levelOf _ (List.mem_of_getElem? (i := 0) rfl)), (iX0_levelOf _ (List.mem_of_getElem? (i := 1) rfl)), (iX0_levelOf _ (List.mem_of_getElem? (i := 2) rfl))⟩ (ctX0_readLines hj o_a0 ec) ⟨Nat.le_of_ble_eq_true rfl, Nat.le_of_ble_eq_true rfl⟩ rfl rfl (Nat.le_of_ble_eq_true rfl) rfl ?_
  refine z_aload_n B 2 rfl 0 0 rfl rfl ?_
  refine z_iload_n B 3 rfl 1 1 rfl rfl ?_
  refine z_iload_n B 4 rfl 2 2 rfl rfl ?_
  refine z_aload_n B 5 rfl 0 0 rfl rfl ?_
  refine z_getr 0 7 a0 B 6 rfl o_a0 rfl (iX0_levelOf _ (List.mem_of_getElem? (i := 3) rfl)) rfl ?_
  obtain ⟨r2, ec, hf⟩ := bd_e hf
  refine z_callV a0 0 [.int a1, .int a2, .ref (a0 + 26)] [] [] X B 7 rfl (by decide) o_a0 rfl rfl miX0_fillLevels ⟨(iX0_levelOf _ (List.mem_of_getElem? (i := 4) rfl)), (iX0_levelOf _ (List.mem_of_getElem? (i := 5) rfl)), (iX0_levelOf _ (List.mem_of_getElem? (i := 6) rfl))⟩ (ctX0_fillLevels hj o_a0 (obf_0_7 o_a0) ec) ⟨Nat.le_of_ble_eq_true rfl, Nat.le_of_ble_eq_true rfl⟩ rfl rfl (Nat.le_of_ble_eq_true rfl) rfl ?_
  refine z_aload_n B 8 rfl 0 0 rfl rfl ?_
  refine z_getr 0 7 a0 B 9 rfl o_a0 rfl (iX0_levelOf _ (List.mem_of_getElem? (i := 3) rfl)) rfl ?_
  refine z_iload_n B 10 rfl 1 1 rfl rfl ?_
  obtain ⟨r3, ec, hf⟩ := bd_e hf
  refine z_callN [.ref (a0 + 26), .int a1] [] [.int r3] X B 11 rfl miX6_at ⟨List.mem_of_getElem? (i := 13) rfl, (iX0_levelOf _ (List.mem_of_getElem? (i := 7) rfl))⟩ (ctX6_at hj (obf_0_7 o_a0) ec) ⟨Nat.le_of_ble_eq_true rfl, Nat.le_of_ble_eq_true rfl⟩ rfl rfl (Nat.le_of_ble_eq_true rfl) rfl ?_
  cases hf
  exact z_iret B 12 rfl rfl hQ hr
/-! ZoneCapacity$Auction.takenOf(I)I -/
def tbX0_takenOf : Tb := [(0, .iconst 0, 1, 1), (1, .istore_n 2, 1, 2), (2, .iload_n 1, 1, 3), (3, .iconst 4, 1, 4), (4, .imul, 1, 5), (5, .istore_n 3, 1, 6), (6, .iload_n 3, 1, 7), (7, .iload_n 1, 1, 8), (8, .iconst 4, 1, 9), (9, .imul, 1, 10), (10, .iconst 4, 1, 11), (11, .iadd, 1, 12), (12, .if_icmp .ge 20, 3, 15), (15, .iload_n 2, 1, 16), (16, .aload_n 0, 1, 17), (17, .getfield 28, 3, 20), (20, .iload_n 3, 1, 21), (21, .invokestatic 69, 3, 24), (24, .iadd, 1, 25), (25, .istore_n 2, 1, 26), (26, .iinc 3 1, 3, 29), (29, .goto (-23), 3, 32), (32, .iload_n 2, 1, 33), (33, .ireturn, 1, 34)]
theorem dtX0_takenOf : ∀ q ∈ tbX0_takenOf, decode cX0_takenOf q.1 = .ok (q.2.1, q.2.2.1) ∧ q.1 + q.2.2.1 = q.2.2.2 := by decide +kernel
theorem miX0_takenOf : MI yX0_takenOf cX0_takenOf 4 (some .int) 1 := ⟨tw_mem (List.mem_of_getElem? (i := 414) (by decide +kernel)) rfl, by decide, by decide +kernel, tw_mem (List.mem_of_getElem? (i := 15) (by decide +kernel)) rfl⟩
abbrev rmX0_takenOf : Room := { frames := 1, cells := 0, slots := 0, locals := 21 }
def wX0_takenOf : List Cond := [.fieldLink "ZoneCapacity$Auction" 28 "ZoneCapacity$Auction" "takenUnits" "[I", .static yX6_at]
theorem iX0_takenOf : ∀ w ∈ wX0_takenOf, w ∈ TW := tw_of (ids := [168, 272]) (by decide +kernel)
def f0_takenOf_l6 (mm : Mem) : Nat → Nat → Int32 → Int32 → Int32 → Option Int32
  | 0, _, _, _, _ => none
  | n + 1, x0, x1, x2, x3 => if x3 < ((x1 * (4 : Int32)) + (4 : Int32)) then bd (f6_at mm (x0 + 23) x3) (fun r2 => nm (x2 + r2) (fun v3 => nm (x3 + 1) (fun v4 => f0_takenOf_l6 mm n x0 x1 v3 v4))) else some (x2)
theorem f0_takenOf_l6_ok {E : Ev} {l : Launch} {C : Cfg} {mm : Mem} {x : Int32} (hj : Dj C) (X : Ec E l C rmX0_takenOf) (B : Bx E RX0 tbX0_takenOf 4 (some .int)) (hQ : Rt E) (hr : Rs E (some (.int x)) mm) (n : Nat) : ∀ (x0 : Nat) (x1 : Int32) (x2 : Int32) (x3 : Int32), Ob x0 0 → f0_takenOf_l6 mm n x0 x1 x2 x3 = some x → G E 4 6 [(0, .ref x0), (1, .int x1), (2, .int x2), (3, .int x3)] [] mm := by
  induction n with
  | zero =>
    intro x0 x1 x2 x3 o_x0 hf
    rw [f0_takenOf_l6] at hf
    cases hf
  | succ n ih =>
    intro x0 x1 x2 x3 o_x0 hf
    rw [f0_takenOf_l6] at hf
    refine z_iload_n B 6 rfl 3 3 rfl rfl ?_
    refine z_iload_n B 7 rfl 1 1 rfl rfl ?_
    refine z_iconst 4 B 8 rfl (by decide) ?_
    refine z_imul B 9 rfl ?_
    refine z_iconst 4 B 10 rfl (by decide) ?_
    refine z_iadd B 11 rfl ?_
    by_cases hc : x3 < ((x1 * (4 : Int32)) + (4 : Int32))
    · replace hf := (if_pos hc).symm.trans hf
      refine z_icmp_ge_f B 12 rfl 32 (by decide) hc ?_
      refine z_iload_n B 13 rfl 2 2 rfl rfl ?_
      refine z_aload_n B 14 rfl 0 0 rfl rfl ?_
      refine z_getr 0 4 x0 B 15 rfl o_x0 rfl (iX0_takenOf _ (List.mem_of_getElem? (i := 0) rfl)) rfl ?_
      refine z_iload_n B 16 rfl 3 3 rfl rfl ?_
      obtain ⟨r2, ec, hf⟩ := bd_e hf
      refine z_callN [.ref (x0 + 23), .int x3] [.int x2] [.int r2, .int x2] X B 17 rfl miX6_at ⟨List.mem_of_getElem? (i := 13) rfl, (iX0_takenOf _ (List.mem_of_getElem? (i := 1) rfl))⟩ (ctX6_at hj (obf_0_4 o_x0) ec) ⟨Nat.le_of_ble_eq_true rfl, Nat.le_of_ble_eq_true rfl⟩ rfl rfl (Nat.le_of_ble_eq_true rfl) rfl ?_
      refine z_iadd B 18 rfl ?_
      obtain ⟨v3, ex, hf⟩ := nm_x hf
      refine z_top ex ?_
      refine z_istore_n [(2, .int v3), (0, .ref x0), (1, .int x1), (3, .int x3)] B 19 rfl 2 rfl (by decide) rfl ?_
      obtain ⟨v4, ex, hf⟩ := nm_x hf
      refine z_iinc v4 [(3, .int v4), (2, .int v3), (0, .ref x0), (1, .int x1)] B 20 rfl 3 rfl (ex.symm) (by decide) rfl ?_
      refine z_goto B 21 rfl 6 (by decide) ?_
      refine z_sub [(0, .ref x0), (1, .int x1), (2, .int v3), (3, .int v4)] [2, 3, 1, 0] rfl ?_
      exact ih _ _ _ _ o_x0  hf
    · replace hf := (if_neg hc).symm.trans hf
      refine z_icmp_ge_t B 12 rfl 32 (by decide) hc ?_
      refine z_iload_n B 22 rfl 2 2 rfl rfl ?_
      cases hf
      exact z_iret B 23 rfl rfl hQ hr
def f0_takenOf (mm : Mem) (a0 : Nat) (a1 : Int32) : Option Int32 := nm (a1 * (4 : Int32)) (fun v1 => f0_takenOf_l6 mm FU a0 a1 (0 : Int32) v1)
theorem ctX0_takenOf {l : Launch} {C : Cfg} (hj : Dj C) {mm : Mem} {a0 : Nat} {a1 : Int32} {x : Int32} (o_a0 : Ob a0 0) (hf : f0_takenOf mm a0 a1 = some x) : Ct l C yX0_takenOf cX0_takenOf 4 (some .int) 1 21 [.ref a0, .int a1] mm (some (.int x)) mm := by
  refine Ct.of (tb := tbX0_takenOf) hj miX0_takenOf.2.1 miX0_takenOf.1 dtX0_takenOf (Nat.le_of_ble_eq_true rfl) ?_
  intro E B hQ hr X
  unfold f0_takenOf at hf
  show G E 4 0 [(0, .ref a0), (1, .int a1)] [] mm
  refine z_iconst 0 B 0 rfl (by decide) ?_
  refine z_istore_n [(2, .int (0 : Int32)), (0, .ref a0), (1, .int a1)] B 1 rfl 2 rfl (by decide) rfl ?_
  refine z_iload_n B 2 rfl 1 2 rfl rfl ?_
  refine z_iconst 4 B 3 rfl (by decide) ?_
  refine z_imul B 4 rfl ?_
  obtain ⟨v1, ex, hf⟩ := nm_x hf
  refine z_top ex ?_
  refine z_istore_n [(3, .int v1), (2, .int (0 : Int32)), (0, .ref a0), (1, .int a1)] B 5 rfl 3 rfl (by decide) rfl ?_
  refine z_sub [(0, .ref a0), (1, .int a1), (2, .int (0 : Int32)), (3, .int v1)] [2, 3, 1, 0] rfl ?_
  exact f0_takenOf_l6_ok hj X B hQ hr FU _ _ _ _ o_a0  hf
/-! ZoneCapacity$Auction.boundOf(I)I -/
def tbX0_boundOf : Tb := [(0, .aload_n 0, 1, 1), (1, .getfield 12, 3, 4), (4, .getfield 60, 3, 7), (7, .astore_n 2, 1, 8), (8, .aload_n 0, 1, 9), (9, .getfield 22, 3, 12), (12, .iload_n 1, 1, 13), (13, .invokestatic 69, 3, 16), (16, .istore_n 3, 1, 17), (17, .aload_n 0, 1, 18), (18, .getfield 18, 3, 21), (21, .iload_n 1, 1, 22), (22, .invokestatic 69, 3, 25), (25, .aload_n 0, 1, 26), (26, .getfield 18, 3, 29), (29, .aload_n 2, 1, 30), (30, .getfield 118, 3, 33), (33, .iload_n 1, 1, 34), (34, .invokestatic 69, 3, 37), (37, .invokestatic 69, 3, 40), (40, .isub, 1, 41), (41, .istore 4, 2, 43), (43, .iload 4, 2, 45), (45, .ifCond .le 18, 3, 48), (48, .iload_n 3, 1, 49), (49, .aload_n 2, 1, 50), (50, .getfield 134, 3, 53), (53, .iload_n 1, 1, 54), (54, .invokestatic 69, 3, 57), (57, .ineg, 1, 58), (58, .if_icmp .ne 5, 3, 61), (61, .iconst 1, 1, 62), (62, .ireturn, 1, 63), (63, .iload 4, 2, 65), (65, .ifCond .ge 19, 3, 68), (68, .iload_n 3, 1, 69), (69, .aload_n 2, 1, 70), (70, .getfield 137, 3, 73), (73, .iload_n 1, 1, 74), (74, .invokestatic 69, 3, 77), (77, .if_icmp .ne 7, 3, 80), (80, .iconst 2, 1, 81), (81, .goto 4, 3, 84), (84, .iconst 0, 1, 85), (85, .ireturn, 1, 86)]
theorem dtX0_boundOf : ∀ q ∈ tbX0_boundOf, decode cX0_boundOf q.1 = .ok (q.2.1, q.2.2.1) ∧ q.1 + q.2.2.1 = q.2.2.2 := by decide +kernel
theorem miX0_boundOf : MI yX0_boundOf cX0_boundOf 5 (some .int) 1 := ⟨tw_mem (List.mem_of_getElem? (i := 1021) (by decide +kernel)) rfl, by decide, by decide +kernel, tw_mem (List.mem_of_getElem? (i := 15) (by decide +kernel)) rfl⟩
abbrev rmX0_boundOf : Room := { frames := 1, cells := 0, slots := 0, locals := 21 }
def wX0_boundOf : List Cond := [.fieldLink "ZoneCapacity$Auction" 12 "ZoneCapacity$Auction" "market" "LZoneCapacity$Market;", .fieldLink "ZoneCapacity$Auction" 60 "ZoneCapacity$Market" "zones" "LZoneCapacity$Zones;", .fieldLink "ZoneCapacity$Auction" 22 "ZoneCapacity$Auction" "nets" "[I", .static yX6_at, .fieldLink "ZoneCapacity$Auction" 18 "ZoneCapacity$Auction" "prices" "[I", .fieldLink "ZoneCapacity$Auction" 118 "ZoneCapacity$Zones" "outer" "[I", .fieldLink "ZoneCapacity$Auction" 137 "ZoneCapacity$Zones" "out" "[I", .fieldLink "ZoneCapacity$Auction" 134 "ZoneCapacity$Zones" "in" "[I"]
theorem iX0_boundOf : ∀ w ∈ wX0_boundOf, w ∈ TW := tw_of (ids := [160, 150, 164, 272, 162, 72, 78, 75]) (by decide +kernel)
def f0_boundOf_j63 (mm : Mem) (x1 : Int32) (x2 : Nat) (x3 : Int32) (x4 : Int32) : Option Int32 := if x4 < 0 then bd (f6_at mm (x2 + 3) x1) (fun r6 => if x3 = r6 then some ((2 : Int32)) else some ((0 : Int32))) else some ((0 : Int32))
theorem f0_boundOf_j63_ok {E : Ev} {l : Launch} {C : Cfg} {mm : Mem} {x : Int32} (hj : Dj C) (X : Ec E l C rmX0_boundOf) (B : Bx E RX0 tbX0_boundOf 5 (some .int)) (hQ : Rt E) (hr : Rs E (some (.int x)) mm) (x1 : Int32) (x2 : Nat) (x3 : Int32) (x4 : Int32) (o_x2 : Ob x2 5) (hf : f0_boundOf_j63 mm x1 x2 x3 x4 = some x) : G E 5 63 [(1, .int x1), (2, .ref x2), (3, .int x3), (4, .int x4)] [] mm := by
  unfold f0_boundOf_j63 at hf
  refine z_iload B 33 rfl 3 rfl ?_
  by_cases hc : x4 < 0
  · replace hf := (if_pos hc).symm.trans hf
    refine z_if_ge_f B 34 rfl 84 (by decide) hc ?_
    refine z_iload_n B 35 rfl 3 2 rfl rfl ?_
    refine z_aload_n B 36 rfl 2 1 rfl rfl ?_
    refine z_getr 5 3 x2 B 37 rfl o_x2 rfl (iX0_boundOf _ (List.mem_of_getElem? (i := 6) rfl)) rfl ?_
    refine z_iload_n B 38 rfl 1 0 rfl rfl ?_
    obtain ⟨r6, ec, hf⟩ := bd_e hf
    refine z_callN [.ref (x2 + 3), .int x1] [.int x3] [.int r6, .int x3] X B 39 rfl miX6_at ⟨List.mem_of_getElem? (i := 13) rfl, (iX0_boundOf _ (List.mem_of_getElem? (i := 3) rfl))⟩ (ctX6_at hj (obf_5_3 o_x2) ec) ⟨Nat.le_of_ble_eq_true rfl, Nat.le_of_ble_eq_true rfl⟩ rfl rfl (Nat.le_of_ble_eq_true rfl) rfl ?_
    by_cases hc : x3 = r6
    · replace hf := (if_pos hc).symm.trans hf
      refine z_icmp_ne_f B 40 rfl 84 (by decide) hc ?_
      refine z_iconst 2 B 41 rfl (by decide) ?_
      refine z_goto B 42 rfl 85 (by decide) ?_
      cases hf
      exact z_iret B 44 rfl rfl hQ hr
    · replace hf := (if_neg hc).symm.trans hf
      refine z_icmp_ne_t B 40 rfl 84 (by decide) hc ?_
      refine z_iconst 0 B 43 rfl (by decide) ?_
      cases hf
      exact z_iret B 44 rfl rfl hQ hr
  · replace hf := (if_neg hc).symm.trans hf
    refine z_if_ge_t B 34 rfl 84 (by decide) hc ?_
    refine z_iconst 0 B 43 rfl (by decide) ?_
    cases hf
    exact z_iret B 44 rfl rfl hQ hr
def f0_boundOf (mm : Mem) (a0 : Nat) (a1 : Int32) : Option Int32 := bd (f6_at mm (a0 + 21) a1) (fun r1 => bd (f6_at mm (a0 + 20) a1) (fun r2 => bd (f6_at mm (a0 + 1 + 1 + 1) a1) (fun r3 => bd (f6_at mm (a0 + 20) r3) (fun r4 => nm (r2 - r4) (fun v5 => if 0 < v5 then bd (f6_at mm (a0 + 1 + 1 + 2) a1) (fun r7 => if r1 = (-r7) then some ((1 : Int32)) else f0_boundOf_j63 mm a1 (a0 + 1 + 1) r1 v5) else f0_boundOf_j63 mm a1 (a0 + 1 + 1) r1 v5)))))
theorem ctX0_boundOf {l : Launch} {C : Cfg} (hj : Dj C) {mm : Mem} {a0 : Nat} {a1 : Int32} {x : Int32} (o_a0 : Ob a0 0) (hf : f0_boundOf mm a0 a1 = some x) : Ct l C yX0_boundOf cX0_boundOf 5 (some .int) 1 21 [.ref a0, .int a1] mm (some (.int x)) mm := by
  refine Ct.of (tb := tbX0_boundOf) hj miX0_boundOf.2.1 miX0_boundOf.1 dtX0_boundOf (Nat.le_of_ble_eq_true rfl) ?_
  intro E B hQ hr X
  unfold f0_boundOf at hf
  show G E 5 0 [(0, .ref a0), (1, .int a1)] [] mm
  refine z_aload_n B 0 rfl 0 0 rfl rfl ?_
  refine z_getr 0 0 a0 B 1 rfl o_a0 rfl (iX0_boundOf _ (List.mem_of_getElem? (i := 0) rfl)) rfl ?_
  refine z_getr 1 0 (a0 + 1) B 2 rfl (obf_0_0 o_a0) rfl (iX0_boundOf _ (List.mem_of_getElem? (i := 1) rfl)) rfl ?_
  refine z_astore_n [(2, .ref (a0 + 1 + 1)), (0, .ref a0), (1, .int a1)] B 3 rfl 2 rfl (by decide) rfl ?_
  refine z_aload_n B 4 rfl 0 1 rfl rfl ?_
  refine z_getr 0 2 a0 B 5 rfl o_a0 rfl (iX0_boundOf _ (List.mem_of_getElem? (i := 2) rfl)) rfl ?_
  refine z_iload_n B 6 rfl 1 2 rfl rfl ?_
  obtain ⟨r1, ec, hf⟩ := bd_e hf
  refine z_callN [.ref (a0 + 21), .int a1] [] [.int r1] X B 7 rfl miX6_at ⟨List.mem_of_getElem? (i := 13) rfl, (iX0_boundOf _ (List.mem_of_getElem? (i := 3) rfl))⟩ (ctX6_at hj (obf_0_2 o_a0) ec) ⟨Nat.le_of_ble_eq_true rfl, Nat.le_of_ble_eq_true rfl⟩ rfl rfl (Nat.le_of_ble_eq_true rfl) rfl ?_
  refine z_istore_n [(3, .int r1), (2, .ref (a0 + 1 + 1)), (0, .ref a0), (1, .int a1)] B 8 rfl 3 rfl (by decide) rfl ?_
  refine z_aload_n B 9 rfl 0 2 rfl rfl ?_
  refine z_getr 0 1 a0 B 10 rfl o_a0 rfl (iX0_boundOf _ (List.mem_of_getElem? (i := 4) rfl)) rfl ?_
  refine z_iload_n B 11 rfl 1 3 rfl rfl ?_
  obtain ⟨r2, ec, hf⟩ := bd_e hf
  refine z_callN [.ref (a0 + 20), .int a1] [] [.int r2] X B 12 rfl miX6_at ⟨List.mem_of_getElem? (i := 13) rfl, (iX0_boundOf _ (List.mem_of_getElem? (i := 3) rfl))⟩ (ctX6_at hj (obf_0_1 o_a0) ec) ⟨Nat.le_of_ble_eq_true rfl, Nat.le_of_ble_eq_true rfl⟩ rfl rfl (Nat.le_of_ble_eq_true rfl) rfl ?_
  refine z_aload_n B 13 rfl 0 2 rfl rfl ?_
  refine z_getr 0 1 a0 B 14 rfl o_a0 rfl (iX0_boundOf _ (List.mem_of_getElem? (i := 4) rfl)) rfl ?_
  refine z_aload_n B 15 rfl 2 1 rfl rfl ?_
  refine z_getr 5 1 (a0 + 1 + 1) B 16 rfl (obf_1_0 (obf_0_0 o_a0)) rfl (iX0_boundOf _ (List.mem_of_getElem? (i := 5) rfl)) rfl ?_
  refine z_iload_n B 17 rfl 1 3 rfl rfl ?_
  obtain ⟨r3, ec, hf⟩ := bd_e hf
  refine z_callN [.ref (a0 + 1 + 1 + 1), .int a1] [.ref (a0 + 20), .int r2] [.int r3, .ref (a0 + 20), .int r2] X B 18 rfl miX6_at ⟨List.mem_of_getElem? (i := 13) rfl, (iX0_boundOf _ (List.mem_of_getElem? (i := 3) rfl))⟩ (ctX6_at hj (obf_5_1 (obf_1_0 (obf_0_0 o_a0))) ec) ⟨Nat.le_of_ble_eq_true rfl, Nat.le_of_ble_eq_true rfl⟩ rfl rfl (Nat.le_of_ble_eq_true rfl) rfl ?_
  obtain ⟨r4, ec, hf⟩ := bd_e hf
  refine z_callN [.ref (a0 + 20), .int r3] [.int r2] [.int r4, .int r2] X B 19 rfl miX6_at ⟨List.mem_of_getElem? (i := 13) rfl, (iX0_boundOf _ (List.mem_of_getElem? (i := 3) rfl))⟩ (ctX6_at hj (obf_0_1 o_a0) ec) ⟨Nat.le_of_ble_eq_true rfl, Nat.le_of_ble_eq_true rfl⟩ rfl rfl (Nat.le_of_ble_eq_true rfl) rfl ?_
  refine z_isub B 20 rfl ?_
  obtain ⟨v5, ex, hf⟩ := nm_x hf
  refine z_top ex ?_
  refine z_istore [(4, .int v5), (3, .int r1), (2, .ref (a0 + 1 + 1)), (0, .ref a0), (1, .int a1)] B 21 rfl (by decide) rfl ?_
  refine z_iload B 22 rfl 0 rfl ?_
  by_cases hc : 0 < v5
  · replace hf := (if_pos hc).symm.trans hf
    refine z_if_le_f B 23 rfl 63 (by decide) hc ?_
    refine z_iload_n B 24 rfl 3 1 rfl rfl ?_
    refine z_aload_n B 25 rfl 2 2 rfl rfl ?_
    refine z_getr 5 2 (a0 + 1 + 1) B 26 rfl (obf_1_0 (obf_0_0 o_a0)) rfl (iX0_boundOf _ (List.mem_of_getElem? (i := 7) rfl)) rfl ?_
    refine z_iload_n B 27 rfl 1 4 rfl rfl ?_
    obtain ⟨r7, ec, hf⟩ := bd_e hf
    refine z_callN [.ref (a0 + 1 + 1 + 2), .int a1] [.int r1] [.int r7, .int r1] X B 28 rfl miX6_at ⟨List.mem_of_getElem? (i := 13) rfl, (iX0_boundOf _ (List.mem_of_getElem? (i := 3) rfl))⟩ (ctX6_at hj (obf_5_2 (obf_1_0 (obf_0_0 o_a0))) ec) ⟨Nat.le_of_ble_eq_true rfl, Nat.le_of_ble_eq_true rfl⟩ rfl rfl (Nat.le_of_ble_eq_true rfl) rfl ?_
    refine z_ineg B 29 rfl ?_
    by_cases hc : r1 = (-r7)
    · replace hf := (if_pos hc).symm.trans hf
      refine z_icmp_ne_f B 30 rfl 63 (by decide) hc ?_
      refine z_iconst 1 B 31 rfl (by decide) ?_
      cases hf
      exact z_iret B 32 rfl rfl hQ hr
    · replace hf := (if_neg hc).symm.trans hf
      refine z_icmp_ne_t B 30 rfl 63 (by decide) hc ?_
      refine z_sub [(1, .int a1), (2, .ref (a0 + 1 + 1)), (3, .int r1), (4, .int v5)] [4, 2, 1, 0] rfl ?_
      exact f0_boundOf_j63_ok hj X B hQ hr _ _ _ _ (obf_1_0 (obf_0_0 o_a0))  hf
  · replace hf := (if_neg hc).symm.trans hf
    refine z_if_le_t B 23 rfl 63 (by decide) hc ?_
    refine z_sub [(1, .int a1), (2, .ref (a0 + 1 + 1)), (3, .int r1), (4, .int v5)] [4, 2, 1, 0] rfl ?_
    exact f0_boundOf_j63_ok hj X B hQ hr _ _ _ _ (obf_1_0 (obf_0_0 o_a0))  hf
/-! ZoneCapacity$Zones.fallen(III)I -/
def tbX5_fallen : Tb := [(0, .iload_n 2, 1, 1), (1, .ifCond .le 11, 3, 4), (4, .iload_n 0, 1, 5), (5, .iload_n 1, 1, 6), (6, .imul, 1, 7), (7, .iload_n 2, 1, 8), (8, .idiv, 1, 9), (9, .goto 4, 3, 12), (12, .iconst 0, 1, 13), (13, .ireturn, 1, 14)]
theorem dtX5_fallen : ∀ q ∈ tbX5_fallen, decode cX5_fallen q.1 = .ok (q.2.1, q.2.2.1) ∧ q.1 + q.2.2.1 = q.2.2.2 := by decide +kernel
theorem miX5_fallen : MI yX5_fallen cX5_fallen 3 (some .int) 3 := ⟨tw_mem (List.mem_of_getElem? (i := 436) (by decide +kernel)) rfl, by decide, by decide +kernel, tw_mem (List.mem_of_getElem? (i := 17) (by decide +kernel)) rfl⟩
abbrev rmX5_fallen : Room := { frames := 0, cells := 0, slots := 0, locals := 0 }
def f5_fallen (mm : Mem) (a0 : Int32) (a1 : Int32) (a2 : Int32) : Option Int32 := if 0 < a2 then dvz a2 (some ((a0 * a1) / a2)) else some ((0 : Int32))
theorem ctX5_fallen {l : Launch} {C : Cfg} (hj : Dj C) {mm : Mem} {a0 : Int32} {a1 : Int32} {a2 : Int32} {x : Int32} (hf : f5_fallen mm a0 a1 a2 = some x) : Ct l C yX5_fallen cX5_fallen 3 (some .int) 0 0 [.int a0, .int a1, .int a2] mm (some (.int x)) mm := by
  refine Ct.of (tb := tbX5_fallen) hj miX5_fallen.2.1 miX5_fallen.1 dtX5_fallen (Nat.le_of_ble_eq_true rfl) ?_
  intro E B hQ hr X
  unfold f5_fallen at hf
  show G E 3 0 [(0, .int a0), (1, .int a1), (2, .int a2)] [] mm
  refine z_iload_n B 0 rfl 2 2 rfl rfl ?_
  by_cases hc : 0 < a2
  · replace hf := (if_pos hc).symm.trans hf
    refine z_if_le_f B 1 rfl 12 (by decide) hc ?_
    refine z_iload_n B 2 rfl 0 0 rfl rfl ?_
    refine z_iload_n B 3 rfl 1 1 rfl rfl ?_
    refine z_imul B 4 rfl ?_
    refine z_iload_n B 5 rfl 2 2 rfl rfl ?_
    obtain ⟨hz, hf⟩ := dvz_e hf
    refine z_idiv B 6 rfl hz ?_
    refine z_goto B 7 rfl 13 (by decide) ?_
    cases hf
    exact z_iret B 9 rfl rfl hQ hr
  · replace hf := (if_neg hc).symm.trans hf
    refine z_if_le_t B 1 rfl 12 (by decide) hc ?_
    refine z_iconst 0 B 8 rfl (by decide) ?_
    cases hf
    exact z_iret B 9 rfl rfl hQ hr
/-! ZoneCapacity$Zones.worthOfFirst(II)J -/
def tbX5_worthOfFirst : Tb := [(0, .lconst 0, 1, 1), (1, .lstore_n 3, 1, 2), (2, .iconst 0, 1, 3), (3, .istore 5, 2, 5), (5, .aload_n 0, 1, 6), (6, .getfield 31, 3, 9), (9, .iload_n 1, 1, 10), (10, .iconst 4, 1, 11), (11, .imul, 1, 12), (12, .invokestatic 46, 3, 15), (15, .istore 6, 2, 17), (17, .iconst 0, 1, 18), (18, .istore 7, 2, 20), (20, .iload 7, 2, 22), (22, .aload_n 0, 1, 23), (23, .getfield 25, 3, 26), (26, .iload_n 1, 1, 27), (27, .invokestatic 46, 3, 30), (30, .if_icmp .ge 99, 3, 33), (33, .aload_n 0, 1, 34), (34, .getfield 28, 3, 37), (37, .iload_n 1, 1, 38), (38, .iconst 4, 1, 39), (39, .imul, 1, 40), (40, .iload 7, 2, 42), (42, .iadd, 1, 43), (43, .invokestatic 46, 3, 46), (46, .istore 8, 2, 48), (48, .aload_n 0, 1, 49), (49, .getfield 31, 3, 52), (52, .iload_n 1, 1, 53), (53, .iconst 4, 1, 54), (54, .imul, 1, 55), (55, .iload 7, 2, 57), (57, .iadd, 1, 58), (58, .invokestatic 46, 3, 61), (61, .istore 9, 2, 63), (63, .iload_n 2, 1, 64), (64, .iload 8, 2, 66), (66, .invokestatic 54, 3, 69), (69, .istore 10, 2, 71), (71, .iload 5, 2, 73), (73, .iconst 1, 1, 74), (74, .iadd, 1, 75), (75, .istore 11, 2, 77), (77, .iload 11, 2, 79), (79, .iload 10, 2, 81), (81, .if_icmp .gt 34, 3, 84), (84, .lload_n 3, 1, 85), (85, .iload 6, 2, 87), (87, .iload 6, 2, 89), (89, .iload 9, 2, 91), (91, .isub, 1, 92), (92, .iload 11, 2, 94), (94, .iload 5, 2, 96), (96, .isub, 1, 97), (97, .iload 8, 2, 99), (99, .iload 5, 2, 101), (101, .isub, 1, 102), (102, .invokestatic 50, 3, 105), (105, .isub, 1, 106), (106, .i2l, 1, 107), (107, .ladd, 1, 108), (108, .lstore_n 3, 1, 109), (109, .iinc 11 1, 3, 112), (112, .goto (-35), 3, 115), (115, .iload 8, 2, 117), (117, .istore 5, 2, 119), (119, .iload 9, 2, 121), (121, .istore 6, 2, 123), (123, .iinc 7 1, 3, 126), (126, .goto (-106), 3, 129), (129, .lload_n 3, 1, 130), (130, .lreturn, 1, 131)]
theorem dtX5_worthOfFirst : ∀ q ∈ tbX5_worthOfFirst, decode cX5_worthOfFirst q.1 = .ok (q.2.1, q.2.2.1) ∧ q.1 + q.2.2.1 = q.2.2.2 := by decide +kernel
theorem miX5_worthOfFirst : MI yX5_worthOfFirst cX5_worthOfFirst 12 (some .long) 2 := ⟨tw_mem (List.mem_of_getElem? (i := 433) (by decide +kernel)) rfl, by decide, by decide +kernel, tw_mem (List.mem_of_getElem? (i := 17) (by decide +kernel)) rfl⟩
abbrev rmX5_worthOfFirst : Room := { frames := 1, cells := 0, slots := 0, locals := 22 }
def wX5_worthOfFirst : List Cond := [.fieldLink "ZoneCapacity$Zones" 31 "ZoneCapacity$Zones" "pointPrices" "[I", .static yX6_at, .fieldLink "ZoneCapacity$Zones" 25 "ZoneCapacity$Zones" "points" "[I", .fieldLink "ZoneCapacity$Zones" 28 "ZoneCapacity$Zones" "pointUnits" "[I", .methodLink "ZoneCapacity$Zones" 54 ⟨"java/lang/Math", "min", "(II)I"⟩, .static ⟨"java/lang/Math", "min", "(II)I"⟩, .initialized "java/lang/Math", .code Lib.Math.min.name Lib.Math.min.code 2 (some .int), .methodLink "ZoneCapacity$Zones" 50 yX5_fallen, .static yX5_fallen]
theorem iX5_worthOfFirst : ∀ w ∈ wX5_worthOfFirst, w ∈ TW := tw_of (ids := [82, 272, 79, 81, 392, 357, 26, 358, 434, 435]) (by decide +kernel)
def f5_worthOfFirst_l77 (k20 : Nat → Int32 → Int32 → Int64 → Int32 → Int32 → Int32 → Option Int64) (mm : Mem) : Nat → Nat → Int32 → Int32 → Int64 → Int32 → Int32 → Int32 → Int32 → Int32 → Int32 → Int32 → Option Int64
  | 0, _, _, _, _, _, _, _, _, _, _, _ => none
  | n + 1, x0, x1, x2, x3, x5, x6, x7, x8, x9, x10, x11 => if x10 < x11 then nm (x7 + 1) (fun v7 => k20 x0 x1 x2 x3 x8 x9 v7) else bd (f5_fallen mm (x6 - x9) (x11 - x5) (x8 - x5)) (fun r8 => nm (x3 + ((x6 - r8).toInt64)) (fun v9 => nm (x11 + 1) (fun v10 => f5_worthOfFirst_l77 k20 mm n x0 x1 x2 v9 x5 x6 x7 x8 x9 x10 v10)))
theorem f5_worthOfFirst_l77_ok {E : Ev} {l : Launch} {C : Cfg} {mm : Mem} {x : Int64} {k20 : Nat → Int32 → Int32 → Int64 → Int32 → Int32 → Int32 → Option Int64} (hj : Dj C) (X : Ec E l C rmX5_worthOfFirst) (B : Bx E RX5 tbX5_worthOfFirst 12 (some .long)) (hQ : Rt E) (hr : Rs E (some (.long x)) mm) (hk20 : ∀ (x0 : Nat) (x1 : Int32) (x2 : Int32) (x3 : Int64) (x5 : Int32) (x6 : Int32) (x7 : Int32), Ob x0 5 → k20 x0 x1 x2 x3 x5 x6 x7 = some x → G E 12 20 [(0, .ref x0), (1, .int x1), (2, .int x2), (3, .long x3), (5, .int x5), (6, .int x6), (7, .int x7)] [] mm) (n : Nat) : ∀ (x0 : Nat) (x1 : Int32) (x2 : Int32) (x3 : Int64) (x5 : Int32) (x6 : Int32) (x7 : Int32) (x8 : Int32) (x9 : Int32) (x10 : Int32) (x11 : Int32), Ob x0 5 → f5_worthOfFirst_l77 k20 mm n x0 x1 x2 x3 x5 x6 x7 x8 x9 x10 x11 = some x → G E 12 77 [(0, .ref x0), (1, .int x1), (2, .int x2), (3, .long x3), (5, .int x5), (6, .int x6), (7, .int x7), (8, .int x8), (9, .int x9), (10, .int x10), (11, .int x11)] [] mm := by
  induction n with
  | zero =>
    intro x0 x1 x2 x3 x5 x6 x7 x8 x9 x10 x11 o_x0 hf
    rw [f5_worthOfFirst_l77] at hf
    cases hf
  | succ n ih =>
    intro x0 x1 x2 x3 x5 x6 x7 x8 x9 x10 x11 o_x0 hf
    rw [f5_worthOfFirst_l77] at hf
    refine z_iload B 45 rfl 10 rfl ?_
    refine z_iload B 46 rfl 9 rfl ?_
    by_cases hc : x10 < x11
    · replace hf := (if_pos hc).symm.trans hf
      refine z_icmp_gt_t B 47 rfl 115 (by decide) hc ?_
      refine z_iload B 66 rfl 7 rfl ?_
      refine z_istore [(5, .int x8), (0, .ref x0), (1, .int x1), (2, .int x2), (3, .long x3), (6, .int x6), (7, .int x7), (8, .int x8), (9, .int x9), (10, .int x10), (11, .int x11)] B 67 rfl (by decide) rfl ?_
      refine z_iload B 68 rfl 8 rfl ?_
      refine z_istore [(6, .int x9), (5, .int x8), (0, .ref x0), (1, .int x1), (2, .int x2), (3, .long x3), (7, .int x7), (8, .int x8), (9, .int x9), (10, .int x10), (11, .int x11)] B 69 rfl (by decide) rfl ?_
      obtain ⟨v7, ex, hf⟩ := nm_x hf
      refine z_iinc v7 [(7, .int v7), (6, .int x9), (5, .int x8), (0, .ref x0), (1, .int x1), (2, .int x2), (3, .long x3), (8, .int x8), (9, .int x9), (10, .int x10), (11, .int x11)] B 70 rfl 6 rfl (ex.symm) (by decide) rfl ?_
      refine z_goto B 71 rfl 20 (by decide) ?_
      refine z_sub [(0, .ref x0), (1, .int x1), (2, .int x2), (3, .long x3), (5, .int x8), (6, .int x9), (7, .int v7)] [3, 4, 5, 6, 2, 1, 0] rfl ?_
      exact hk20 _ _ _ _ _ _ _ o_x0  hf
    · replace hf := (if_neg hc).symm.trans hf
      refine z_icmp_gt_f B 47 rfl 115 (by decide) hc ?_
      refine z_lload_n B 48 rfl 3 3 rfl rfl ?_
      refine z_iload B 49 rfl 5 rfl ?_
      refine z_iload B 50 rfl 5 rfl ?_
      refine z_iload B 51 rfl 8 rfl ?_
      refine z_isub B 52 rfl ?_
      refine z_iload B 53 rfl 10 rfl ?_
      refine z_iload B 54 rfl 4 rfl ?_
      refine z_isub B 55 rfl ?_
      refine z_iload B 56 rfl 7 rfl ?_
      refine z_iload B 57 rfl 4 rfl ?_
      refine z_isub B 58 rfl ?_
      obtain ⟨r8, ec, hf⟩ := bd_e hf
      refine z_callS [.int (x6 - x9), .int (x11 - x5), .int (x8 - x5)] [.int x6, .long x3] [.int r8, .int x6, .long x3] X B 59 rfl miX5_fallen ⟨(iX5_worthOfFirst _ (List.mem_of_getElem? (i := 8) rfl)), (iX5_worthOfFirst _ (List.mem_of_getElem? (i := 9) rfl))⟩ (ctX5_fallen hj ec) ⟨Nat.le_of_ble_eq_true rfl, Nat.le_of_ble_eq_true rfl⟩ rfl rfl (Nat.le_of_ble_eq_true rfl) rfl ?_
      refine z_isub B 60 rfl ?_
      refine z_i2l B 61 rfl ?_
      refine z_ladd B 62 rfl ?_
      obtain ⟨v9, ex, hf⟩ := nm_x hf
      refine z_topl ex ?_
      refine z_lstore_n [(3, .long v9), (0, .ref x0), (1, .int x1), (2, .int x2), (5, .int x5), (6, .int x6), (7, .int x7), (8, .int x8), (9, .int x9), (10, .int x10), (11, .int x11)] B 63 rfl 3 rfl (by decide) rfl ?_
      obtain ⟨v10, ex, hf⟩ := nm_x hf
      refine z_iinc v10 [(11, .int v10), (3, .long v9), (0, .ref x0), (1, .int x1), (2, .int x2), (5, .int x5), (6, .int x6), (7, .int x7), (8, .int x8), (9, .int x9), (10, .int x10)] B 64 rfl 10 rfl (ex.symm) (by decide) rfl ?_
      refine z_goto B 65 rfl 77 (by decide) ?_
      refine z_sub [(0, .ref x0), (1, .int x1), (2, .int x2), (3, .long v9), (5, .int x5), (6, .int x6), (7, .int x7), (8, .int x8), (9, .int x9), (10, .int x10), (11, .int v10)] [2, 3, 4, 1, 5, 6, 7, 8, 9, 10, 0] rfl ?_
      exact ih _ _ _ _ _ _ _ _ _ _ _ o_x0  hf
def f5_worthOfFirst_l20 (mm : Mem) : Nat → Nat → Int32 → Int32 → Int64 → Int32 → Int32 → Int32 → Option Int64
  | 0, _, _, _, _, _, _, _ => none
  | n + 1, x0, x1, x2, x3, x5, x6, x7 => bd (f6_at mm (x0 + 4) x1) (fun r2 => if x7 < r2 then bd (f6_at mm (x0 + 5) ((x1 * (4 : Int32)) + x7)) (fun r3 => bd (f6_at mm (x0 + 6) ((x1 * (4 : Int32)) + x7)) (fun r4 => nm (mni x2 r3) (fun v5 => nm (x5 + (1 : Int32)) (fun v6 => f5_worthOfFirst_l77 (fun x0 x1 x2 x3 x5 x6 x7 => f5_worthOfFirst_l20 mm n x0 x1 x2 x3 x5 x6 x7) mm FU x0 x1 x2 x3 x5 x6 x7 r3 r4 v5 v6)))) else some (x3))
theorem f5_worthOfFirst_l20_ok {E : Ev} {l : Launch} {C : Cfg} {mm : Mem} {x : Int64} (hj : Dj C) (X : Ec E l C rmX5_worthOfFirst) (B : Bx E RX5 tbX5_worthOfFirst 12 (some .long)) (hQ : Rt E) (hr : Rs E (some (.long x)) mm) (n : Nat) : ∀ (x0 : Nat) (x1 : Int32) (x2 : Int32) (x3 : Int64) (x5 : Int32) (x6 : Int32) (x7 : Int32), Ob x0 5 → f5_worthOfFirst_l20 mm n x0 x1 x2 x3 x5 x6 x7 = some x → G E 12 20 [(0, .ref x0), (1, .int x1), (2, .int x2), (3, .long x3), (5, .int x5), (6, .int x6), (7, .int x7)] [] mm := by
  induction n with
  | zero =>
    intro x0 x1 x2 x3 x5 x6 x7 o_x0 hf
    rw [f5_worthOfFirst_l20] at hf
    cases hf
  | succ n ih =>
    intro x0 x1 x2 x3 x5 x6 x7 o_x0 hf
    rw [f5_worthOfFirst_l20] at hf
    refine z_iload B 13 rfl 6 rfl ?_
    refine z_aload_n B 14 rfl 0 0 rfl rfl ?_
    refine z_getr 5 4 x0 B 15 rfl o_x0 rfl (iX5_worthOfFirst _ (List.mem_of_getElem? (i := 2) rfl)) rfl ?_
    refine z_iload_n B 16 rfl 1 1 rfl rfl ?_
    obtain ⟨r2, ec, hf⟩ := bd_e hf
    refine z_callN [.ref (x0 + 4), .int x1] [.int x7] [.int r2, .int x7] X B 17 rfl miX6_at ⟨List.mem_of_getElem? (i := 8) rfl, (iX5_worthOfFirst _ (List.mem_of_getElem? (i := 1) rfl))⟩ (ctX6_at hj (obf_5_4 o_x0) ec) ⟨Nat.le_of_ble_eq_true rfl, Nat.le_of_ble_eq_true rfl⟩ rfl rfl (Nat.le_of_ble_eq_true rfl) rfl ?_
    by_cases hc : x7 < r2
    · replace hf := (if_pos hc).symm.trans hf
      refine z_icmp_ge_f B 18 rfl 129 (by decide) hc ?_
      refine z_aload_n B 19 rfl 0 0 rfl rfl ?_
      refine z_getr 5 5 x0 B 20 rfl o_x0 rfl (iX5_worthOfFirst _ (List.mem_of_getElem? (i := 3) rfl)) rfl ?_
      refine z_iload_n B 21 rfl 1 1 rfl rfl ?_
      refine z_iconst 4 B 22 rfl (by decide) ?_
      refine z_imul B 23 rfl ?_
      refine z_iload B 24 rfl 6 rfl ?_
      refine z_iadd B 25 rfl ?_
      obtain ⟨r3, ec, hf⟩ := bd_e hf
      refine z_callN [.ref (x0 + 5), .int ((x1 * (4 : Int32)) + x7)] [] [.int r3] X B 26 rfl miX6_at ⟨List.mem_of_getElem? (i := 8) rfl, (iX5_worthOfFirst _ (List.mem_of_getElem? (i := 1) rfl))⟩ (ctX6_at hj (obf_5_5 o_x0) ec) ⟨Nat.le_of_ble_eq_true rfl, Nat.le_of_ble_eq_true rfl⟩ rfl rfl (Nat.le_of_ble_eq_true rfl) rfl ?_
      refine z_istore [(8, .int r3), (0, .ref x0), (1, .int x1), (2, .int x2), (3, .long x3), (5, .int x5), (6, .int x6), (7, .int x7)] B 27 rfl (by decide) rfl ?_
      refine z_aload_n B 28 rfl 0 1 rfl rfl ?_
      refine z_getr 5 6 x0 B 29 rfl o_x0 rfl (iX5_worthOfFirst _ (List.mem_of_getElem? (i := 0) rfl)) rfl ?_
      refine z_iload_n B 30 rfl 1 2 rfl rfl ?_
      refine z_iconst 4 B 31 rfl (by decide) ?_
      refine z_imul B 32 rfl ?_
      refine z_iload B 33 rfl 7 rfl ?_
      refine z_iadd B 34 rfl ?_
      obtain ⟨r4, ec, hf⟩ := bd_e hf
      refine z_callN [.ref (x0 + 6), .int ((x1 * (4 : Int32)) + x7)] [] [.int r4] X B 35 rfl miX6_at ⟨List.mem_of_getElem? (i := 8) rfl, (iX5_worthOfFirst _ (List.mem_of_getElem? (i := 1) rfl))⟩ (ctX6_at hj (obf_5_6 o_x0) ec) ⟨Nat.le_of_ble_eq_true rfl, Nat.le_of_ble_eq_true rfl⟩ rfl rfl (Nat.le_of_ble_eq_true rfl) rfl ?_
      refine z_istore [(9, .int r4), (8, .int r3), (0, .ref x0), (1, .int x1), (2, .int x2), (3, .long x3), (5, .int x5), (6, .int x6), (7, .int x7)] B 36 rfl (by decide) rfl ?_
      refine z_iload_n B 37 rfl 2 4 rfl rfl ?_
      refine z_iload B 38 rfl 1 rfl ?_
      refine z_mmin X B 39 rfl ⟨(iX5_worthOfFirst _ (List.mem_of_getElem? (i := 4) rfl)), (iX5_worthOfFirst _ (List.mem_of_getElem? (i := 5) rfl)), (iX5_worthOfFirst _ (List.mem_of_getElem? (i := 6) rfl)), (iX5_worthOfFirst _ (List.mem_of_getElem? (i := 7) rfl))⟩ ⟨Nat.le_of_ble_eq_true rfl, Nat.le_of_ble_eq_true rfl⟩ (Nat.le_of_ble_eq_true rfl) ?_
      obtain ⟨v5, ex, hf⟩ := nm_x hf
      refine z_top ex ?_
      refine z_istore [(10, .int v5), (9, .int r4), (8, .int r3), (0, .ref x0), (1, .int x1), (2, .int x2), (3, .long x3), (5, .int x5), (6, .int x6), (7, .int x7)] B 40 rfl (by decide) rfl ?_
      refine z_iload B 41 rfl 7 rfl ?_
      refine z_iconst 1 B 42 rfl (by decide) ?_
      refine z_iadd B 43 rfl ?_
      obtain ⟨v6, ex, hf⟩ := nm_x hf
      refine z_top ex ?_
      refine z_istore [(11, .int v6), (10, .int v5), (9, .int r4), (8, .int r3), (0, .ref x0), (1, .int x1), (2, .int x2), (3, .long x3), (5, .int x5), (6, .int x6), (7, .int x7)] B 44 rfl (by decide) rfl ?_
      refine z_sub [(0, .ref x0), (1, .int x1), (2, .int x2), (3, .long x3), (5, .int x5), (6, .int x6), (7, .int x7), (8, .int r3), (9, .int r4), (10, .int v5), (11, .int v6)] [4, 5, 6, 7, 8, 9, 10, 3, 2, 1, 0] rfl ?_
      exact f5_worthOfFirst_l77_ok hj X B hQ hr ih FU _ _ _ _ _ _ _ _ _ _ _ o_x0  hf
    · replace hf := (if_neg hc).symm.trans hf
      refine z_icmp_ge_t B 18 rfl 129 (by decide) hc ?_
      refine z_lload_n B 72 rfl 3 3 rfl rfl ?_
      cases hf
      exact z_lret B 73 rfl hQ hr
def f5_worthOfFirst (mm : Mem) (a0 : Nat) (a1 : Int32) (a2 : Int32) : Option Int64 := bd (f6_at mm (a0 + 6) (a1 * (4 : Int32))) (fun r1 => f5_worthOfFirst_l20 mm FU a0 a1 a2 (0 : Int64) (0 : Int32) r1 (0 : Int32))
theorem ctX5_worthOfFirst {l : Launch} {C : Cfg} (hj : Dj C) {mm : Mem} {a0 : Nat} {a1 : Int32} {a2 : Int32} {x : Int64} (o_a0 : Ob a0 5) (hf : f5_worthOfFirst mm a0 a1 a2 = some x) : Ct l C yX5_worthOfFirst cX5_worthOfFirst 12 (some .long) 1 22 [.ref a0, .int a1, .int a2] mm (some (.long x)) mm := by
  refine Ct.of (tb := tbX5_worthOfFirst) hj miX5_worthOfFirst.2.1 miX5_worthOfFirst.1 dtX5_worthOfFirst (Nat.le_of_ble_eq_true rfl) ?_
  intro E B hQ hr X
  unfold f5_worthOfFirst at hf
  show G E 12 0 [(0, .ref a0), (1, .int a1), (2, .int a2)] [] mm
  refine z_lconst 0 B 0 rfl (by decide) ?_
  refine z_lstore_n [(3, .long (0 : Int64)), (0, .ref a0), (1, .int a1), (2, .int a2)] B 1 rfl 3 rfl (by decide) rfl ?_
  refine z_iconst 0 B 2 rfl (by decide) ?_
  refine z_istore [(5, .int (0 : Int32)), (3, .long (0 : Int64)), (0, .ref a0), (1, .int a1), (2, .int a2)] B 3 rfl (by decide) rfl ?_
  refine z_aload_n B 4 rfl 0 2 rfl rfl ?_
  refine z_getr 5 6 a0 B 5 rfl o_a0 rfl (iX5_worthOfFirst _ (List.mem_of_getElem? (i := 0) rfl)) rfl ?_
  refine z_iload_n B 6 rfl 1 3 rfl rfl ?_
  refine z_iconst 4 B 7 rfl (by decide) ?_
  refine z_imul B 8 rfl ?_
  obtain ⟨r1, ec, hf⟩ := bd_e hf
  refine z_callN [.ref (a0 + 6), .int (a1 * (4 : Int32))] [] [.int r1] X B 9 rfl miX6_at ⟨List.mem_of_getElem? (i := 8) rfl, (iX5_worthOfFirst _ (List.mem_of_getElem? (i := 1) rfl))⟩ (ctX6_at hj (obf_5_6 o_a0) ec) ⟨Nat.le_of_ble_eq_true rfl, Nat.le_of_ble_eq_true rfl⟩ rfl rfl (Nat.le_of_ble_eq_true rfl) rfl ?_
  refine z_istore [(6, .int r1), (5, .int (0 : Int32)), (3, .long (0 : Int64)), (0, .ref a0), (1, .int a1), (2, .int a2)] B 10 rfl (by decide) rfl ?_
  refine z_iconst 0 B 11 rfl (by decide) ?_
  refine z_istore [(7, .int (0 : Int32)), (6, .int r1), (5, .int (0 : Int32)), (3, .long (0 : Int64)), (0, .ref a0), (1, .int a1), (2, .int a2)] B 12 rfl (by decide) rfl ?_
  refine z_sub [(0, .ref a0), (1, .int a1), (2, .int a2), (3, .long (0 : Int64)), (5, .int (0 : Int32)), (6, .int r1), (7, .int (0 : Int32))] [4, 5, 6, 3, 2, 1, 0] rfl ?_
  exact f5_worthOfFirst_l20_ok hj X B hQ hr FU _ _ _ _ _ _ _ o_a0  hf
/-! ZoneCapacity$Auction.surplusOfAll()J -/
def tbX0_surplusOfAll : Tb := [(0, .lconst 0, 1, 1), (1, .lstore_n 1, 1, 2), (2, .iconst 0, 1, 3), (3, .istore_n 3, 1, 4), (4, .iload_n 3, 1, 5), (5, .aload_n 0, 1, 6), (6, .getfield 12, 3, 9), (9, .getfield 60, 3, 12), (12, .getfield 64, 3, 15), (15, .if_icmp .ge 31, 3, 18), (18, .lload_n 1, 1, 19), (19, .aload_n 0, 1, 20), (20, .getfield 12, 3, 23), (23, .getfield 60, 3, 26), (26, .iload_n 3, 1, 27), (27, .aload_n 0, 1, 28), (28, .getfield 25, 3, 31), (31, .iload_n 3, 1, 32), (32, .invokestatic 69, 3, 35), (35, .invokevirtual 140, 3, 38), (38, .ladd, 1, 39), (39, .lstore_n 1, 1, 40), (40, .iinc 3 1, 3, 43), (43, .goto (-39), 3, 46), (46, .iconst 0, 1, 47), (47, .istore_n 3, 1, 48), (48, .iload_n 3, 1, 49), (49, .aload_n 0, 1, 50), (50, .getfield 12, 3, 53), (53, .getfield 85, 3, 56), (56, .getfield 89, 3, 59), (59, .iconst 4, 1, 60), (60, .imul, 1, 61), (61, .if_icmp .ge 31, 3, 64), (64, .lload_n 1, 1, 65), (65, .aload_n 0, 1, 66), (66, .getfield 34, 3, 69), (69, .iload_n 3, 1, 70), (70, .invokestatic 69, 3, 73), (73, .i2l, 1, 74), (74, .aload_n 0, 1, 75), (75, .getfield 28, 3, 78), (78, .iload_n 3, 1, 79), (79, .invokestatic 69, 3, 82), (82, .i2l, 1, 83), (83, .lmul, 1, 84), (84, .lsub, 1, 85), (85, .lstore_n 1, 1, 86), (86, .iinc 3 1, 3, 89), (89, .goto (-41), 3, 92), (92, .lload_n 1, 1, 93), (93, .lreturn, 1, 94)]
theorem dtX0_surplusOfAll : ∀ q ∈ tbX0_surplusOfAll, decode cX0_surplusOfAll q.1 = .ok (q.2.1, q.2.2.1) ∧ q.1 + q.2.2.1 = q.2.2.2 := by decide +kernel
theorem miX0_surplusOfAll : MI yX0_surplusOfAll cX0_surplusOfAll 4 (some .long) 0 := ⟨tw_mem (List.mem_of_getElem? (i := 429) (by decide +kernel)) rfl, by decide, by decide +kernel, tw_mem (List.mem_of_getElem? (i := 15) (by decide +kernel)) rfl⟩
abbrev rmX0_surplusOfAll : Room := { frames := 2, cells := 0, slots := 0, locals := 53 }
def wX0_surplusOfAll : List Cond := [.fieldLink "ZoneCapacity$Auction" 12 "ZoneCapacity$Auction" "market" "LZoneCapacity$Market;", .fieldLink "ZoneCapacity$Auction" 60 "ZoneCapacity$Market" "zones" "LZoneCapacity$Zones;", .fieldLink "ZoneCapacity$Auction" 64 "ZoneCapacity$Zones" "many" "I", .fieldLink "ZoneCapacity$Auction" 85 "ZoneCapacity$Market" "offers" "LZoneCapacity$Offers;", .fieldLink "ZoneCapacity$Auction" 89 "ZoneCapacity$Offers" "many" "I", .fieldLink "ZoneCapacity$Auction" 34 "ZoneCapacity$Auction" "its" "[I", .static yX6_at, .fieldLink "ZoneCapacity$Auction" 28 "ZoneCapacity$Auction" "takenUnits" "[I", .fieldLink "ZoneCapacity$Auction" 25 "ZoneCapacity$Auction" "servedUnits" "[I", .methodLink "ZoneCapacity$Auction" 140 yX5_worthOfFirst, .instanceMethod yX5_worthOfFirst, .selects "ZoneCapacity$Zones" yX5_worthOfFirst yX5_worthOfFirst]
theorem iX0_surplusOfAll : ∀ w ∈ wX0_surplusOfAll, w ∈ TW := tw_of (ids := [160, 150, 69, 153, 106, 171, 272, 168, 166, 430, 431, 432]) (by decide +kernel)
def f0_surplusOfAll_l48 (mm : Mem) : Nat → Nat → Int64 → Int32 → Option Int64
  | 0, _, _, _ => none
  | n + 1, x0, x1, x3 => if x3 < ((mm (x0 + 1 + 8) 0) * (4 : Int32)) then bd (f6_at mm (x0 + 25) x3) (fun r1 => bd (f6_at mm (x0 + 23) x3) (fun r2 => nm (x1 - (r1.toInt64 * r2.toInt64)) (fun v3 => nm (x3 + 1) (fun v4 => f0_surplusOfAll_l48 mm n x0 v3 v4)))) else some (x1)
theorem f0_surplusOfAll_l48_ok {E : Ev} {l : Launch} {C : Cfg} {mm : Mem} {x : Int64} (hj : Dj C) (X : Ec E l C rmX0_surplusOfAll) (B : Bx E RX0 tbX0_surplusOfAll 4 (some .long)) (hQ : Rt E) (hr : Rs E (some (.long x)) mm) (n : Nat) : ∀ (x0 : Nat) (x1 : Int64) (x3 : Int32), Ob x0 0 → f0_surplusOfAll_l48 mm n x0 x1 x3 = some x → G E 4 48 [(0, .ref x0), (1, .long x1), (3, .int x3)] [] mm := by
  induction n with
  | zero =>
    intro x0 x1 x3 o_x0 hf
    rw [f0_surplusOfAll_l48] at hf
    cases hf
  | succ n ih =>
    intro x0 x1 x3 o_x0 hf
    rw [f0_surplusOfAll_l48] at hf
    refine z_iload_n B 26 rfl 3 2 rfl rfl ?_
    refine z_aload_n B 27 rfl 0 0 rfl rfl ?_
    refine z_getr 0 0 x0 B 28 rfl o_x0 rfl (iX0_surplusOfAll _ (List.mem_of_getElem? (i := 0) rfl)) rfl ?_
    refine z_getr 1 1 (x0 + 1) B 29 rfl (obf_0_0 o_x0) rfl (iX0_surplusOfAll _ (List.mem_of_getElem? (i := 3) rfl)) rfl ?_
    refine z_geti 2 0 (x0 + 1 + 8) B 30 rfl (obf_1_1 (obf_0_0 o_x0)) rfl (iX0_surplusOfAll _ (List.mem_of_getElem? (i := 4) rfl)) rfl ?_
    refine z_iconst 4 B 31 rfl (by decide) ?_
    refine z_imul B 32 rfl ?_
    by_cases hc : x3 < ((mm (x0 + 1 + 8) 0) * (4 : Int32))
    · replace hf := (if_pos hc).symm.trans hf
      refine z_icmp_ge_f B 33 rfl 92 (by decide) hc ?_
      refine z_lload_n B 34 rfl 1 1 rfl rfl ?_
      refine z_aload_n B 35 rfl 0 0 rfl rfl ?_
      refine z_getr 0 6 x0 B 36 rfl o_x0 rfl (iX0_surplusOfAll _ (List.mem_of_getElem? (i := 5) rfl)) rfl ?_
      refine z_iload_n B 37 rfl 3 2 rfl rfl ?_
      obtain ⟨r1, ec, hf⟩ := bd_e hf
      refine z_callN [.ref (x0 + 25), .int x3] [.long x1] [.int r1, .long x1] X B 38 rfl miX6_at ⟨List.mem_of_getElem? (i := 13) rfl, (iX0_surplusOfAll _ (List.mem_of_getElem? (i := 6) rfl))⟩ (ctX6_at hj (obf_0_6 o_x0) ec) ⟨Nat.le_of_ble_eq_true rfl, Nat.le_of_ble_eq_true rfl⟩ rfl rfl (Nat.le_of_ble_eq_true rfl) rfl ?_
      refine z_i2l B 39 rfl ?_
      refine z_aload_n B 40 rfl 0 0 rfl rfl ?_
      refine z_getr 0 4 x0 B 41 rfl o_x0 rfl (iX0_surplusOfAll _ (List.mem_of_getElem? (i := 7) rfl)) rfl ?_
      refine z_iload_n B 42 rfl 3 2 rfl rfl ?_
      obtain ⟨r2, ec, hf⟩ := bd_e hf
      refine z_callN [.ref (x0 + 23), .int x3] [.long r1.toInt64, .long x1] [.int r2, .long r1.toInt64, .long x1] X B 43 rfl miX6_at ⟨List.mem_of_getElem? (i := 13) rfl, (iX0_surplusOfAll _ (List.mem_of_getElem? (i := 6) rfl))⟩ (ctX6_at hj (obf_0_4 o_x0) ec) ⟨Nat.le_of_ble_eq_true rfl, Nat.le_of_ble_eq_true rfl⟩ rfl rfl (Nat.le_of_ble_eq_true rfl) rfl ?_
      refine z_i2l B 44 rfl ?_
      refine z_lmul B 45 rfl ?_
      refine z_lsub B 46 rfl ?_
      obtain ⟨v3, ex, hf⟩ := nm_x hf
      refine z_topl ex ?_
      refine z_lstore_n [(1, .long v3), (0, .ref x0), (3, .int x3)] B 47 rfl 1 rfl (by decide) rfl ?_
      obtain ⟨v4, ex, hf⟩ := nm_x hf
      refine z_iinc v4 [(3, .int v4), (1, .long v3), (0, .ref x0)] B 48 rfl 2 rfl (ex.symm) (by decide) rfl ?_
      refine z_goto B 49 rfl 48 (by decide) ?_
      refine z_sub [(0, .ref x0), (1, .long v3), (3, .int v4)] [2, 1, 0] rfl ?_
      exact ih _ _ _ o_x0  hf
    · replace hf := (if_neg hc).symm.trans hf
      refine z_icmp_ge_t B 33 rfl 92 (by decide) hc ?_
      refine z_lload_n B 50 rfl 1 1 rfl rfl ?_
      cases hf
      exact z_lret B 51 rfl hQ hr
def f0_surplusOfAll_l4 (mm : Mem) : Nat → Nat → Int64 → Int32 → Option Int64
  | 0, _, _, _ => none
  | n + 1, x0, x1, x3 => if x3 < (mm (x0 + 1 + 1) 0) then bd (f6_at mm (x0 + 22) x3) (fun r5 => bd (f5_worthOfFirst mm (x0 + 1 + 1) x3 r5) (fun r6 => nm (x1 + r6) (fun v7 => nm (x3 + 1) (fun v8 => f0_surplusOfAll_l4 mm n x0 v7 v8)))) else f0_surplusOfAll_l48 mm FU x0 x1 (0 : Int32)
theorem f0_surplusOfAll_l4_ok {E : Ev} {l : Launch} {C : Cfg} {mm : Mem} {x : Int64} (hj : Dj C) (X : Ec E l C rmX0_surplusOfAll) (B : Bx E RX0 tbX0_surplusOfAll 4 (some .long)) (hQ : Rt E) (hr : Rs E (some (.long x)) mm) (n : Nat) : ∀ (x0 : Nat) (x1 : Int64) (x3 : Int32), Ob x0 0 → f0_surplusOfAll_l4 mm n x0 x1 x3 = some x → G E 4 4 [(0, .ref x0), (1, .long x1), (3, .int x3)] [] mm := by
  induction n with
  | zero =>
    intro x0 x1 x3 o_x0 hf
    rw [f0_surplusOfAll_l4] at hf
    cases hf
  | succ n ih =>
    intro x0 x1 x3 o_x0 hf
    rw [f0_surplusOfAll_l4] at hf
    refine z_iload_n B 4 rfl 3 2 rfl rfl ?_
    refine z_aload_n B 5 rfl 0 0 rfl rfl ?_
    refine z_getr 0 0 x0 B 6 rfl o_x0 rfl (iX0_surplusOfAll _ (List.mem_of_getElem? (i := 0) rfl)) rfl ?_
    refine z_getr 1 0 (x0 + 1) B 7 rfl (obf_0_0 o_x0) rfl (iX0_surplusOfAll _ (List.mem_of_getElem? (i := 1) rfl)) rfl ?_
    refine z_geti 5 0 (x0 + 1 + 1) B 8 rfl (obf_1_0 (obf_0_0 o_x0)) rfl (iX0_surplusOfAll _ (List.mem_of_getElem? (i := 2) rfl)) rfl ?_
    by_cases hc : x3 < (mm (x0 + 1 + 1) 0)
    · replace hf := (if_pos hc).symm.trans hf
      refine z_icmp_ge_f B 9 rfl 46 (by decide) hc ?_
      refine z_lload_n B 10 rfl 1 1 rfl rfl ?_
      refine z_aload_n B 11 rfl 0 0 rfl rfl ?_
      refine z_getr 0 0 x0 B 12 rfl o_x0 rfl (iX0_surplusOfAll _ (List.mem_of_getElem? (i := 0) rfl)) rfl ?_
      refine z_getr 1 0 (x0 + 1) B 13 rfl (obf_0_0 o_x0) rfl (iX0_surplusOfAll _ (List.mem_of_getElem? (i := 1) rfl)) rfl ?_
      refine z_iload_n B 14 rfl 3 2 rfl rfl ?_
      refine z_aload_n B 15 rfl 0 0 rfl rfl ?_
      refine z_getr 0 3 x0 B 16 rfl o_x0 rfl (iX0_surplusOfAll _ (List.mem_of_getElem? (i := 8) rfl)) rfl ?_
      refine z_iload_n B 17 rfl 3 2 rfl rfl ?_
      obtain ⟨r5, ec, hf⟩ := bd_e hf
      refine z_callN [.ref (x0 + 22), .int x3] [.int x3, .ref (x0 + 1 + 1), .long x1] [.int r5, .int x3, .ref (x0 + 1 + 1), .long x1] X B 18 rfl miX6_at ⟨List.mem_of_getElem? (i := 13) rfl, (iX0_surplusOfAll _ (List.mem_of_getElem? (i := 6) rfl))⟩ (ctX6_at hj (obf_0_3 o_x0) ec) ⟨Nat.le_of_ble_eq_true rfl, Nat.le_of_ble_eq_true rfl⟩ rfl rfl (Nat.le_of_ble_eq_true rfl) rfl ?_
      obtain ⟨r6, ec, hf⟩ := bd_e hf
      refine z_callV (x0 + 1 + 1) 5 [.int x3, .int r5] [.long x1] [.long r6, .long x1] X B 19 rfl (by decide) (obf_1_0 (obf_0_0 o_x0)) rfl rfl miX5_worthOfFirst ⟨(iX0_surplusOfAll _ (List.mem_of_getElem? (i := 9) rfl)), (iX0_surplusOfAll _ (List.mem_of_getElem? (i := 10) rfl)), (iX0_surplusOfAll _ (List.mem_of_getElem? (i := 11) rfl))⟩ (ctX5_worthOfFirst hj (obf_1_0 (obf_0_0 o_x0)) ec) ⟨Nat.le_of_ble_eq_true rfl, Nat.le_of_ble_eq_true rfl⟩ rfl rfl (Nat.le_of_ble_eq_true rfl) rfl ?_
      refine z_ladd B 20 rfl ?_
      obtain ⟨v7, ex, hf⟩ := nm_x hf
      refine z_topl ex ?_
      refine z_lstore_n [(1, .long v7), (0, .ref x0), (3, .int x3)] B 21 rfl 1 rfl (by decide) rfl ?_
      obtain ⟨v8, ex, hf⟩ := nm_x hf
      refine z_iinc v8 [(3, .int v8), (1, .long v7), (0, .ref x0)] B 22 rfl 2 rfl (ex.symm) (by decide) rfl ?_
      refine z_goto B 23 rfl 4 (by decide) ?_
      refine z_sub [(0, .ref x0), (1, .long v7), (3, .int v8)] [2, 1, 0] rfl ?_
      exact ih _ _ _ o_x0  hf
    · replace hf := (if_neg hc).symm.trans hf
      refine z_icmp_ge_t B 9 rfl 46 (by decide) hc ?_
      refine z_iconst 0 B 24 rfl (by decide) ?_
      refine z_istore_n [(3, .int (0 : Int32)), (0, .ref x0), (1, .long x1)] B 25 rfl 3 rfl (by decide) rfl ?_
      refine z_sub [(0, .ref x0), (1, .long x1), (3, .int (0 : Int32))] [1, 2, 0] rfl ?_
      exact f0_surplusOfAll_l48_ok hj X B hQ hr FU _ _ _ o_x0  hf
def f0_surplusOfAll (mm : Mem) (a0 : Nat) : Option Int64 := f0_surplusOfAll_l4 mm FU a0 (0 : Int64) (0 : Int32)
theorem ctX0_surplusOfAll {l : Launch} {C : Cfg} (hj : Dj C) {mm : Mem} {a0 : Nat} {x : Int64} (o_a0 : Ob a0 0) (hf : f0_surplusOfAll mm a0 = some x) : Ct l C yX0_surplusOfAll cX0_surplusOfAll 4 (some .long) 2 53 [.ref a0] mm (some (.long x)) mm := by
  refine Ct.of (tb := tbX0_surplusOfAll) hj miX0_surplusOfAll.2.1 miX0_surplusOfAll.1 dtX0_surplusOfAll (Nat.le_of_ble_eq_true rfl) ?_
  intro E B hQ hr X
  unfold f0_surplusOfAll at hf
  show G E 4 0 [(0, .ref a0)] [] mm
  refine z_lconst 0 B 0 rfl (by decide) ?_
  refine z_lstore_n [(1, .long (0 : Int64)), (0, .ref a0)] B 1 rfl 1 rfl (by decide) rfl ?_
  refine z_iconst 0 B 2 rfl (by decide) ?_
  refine z_istore_n [(3, .int (0 : Int32)), (1, .long (0 : Int64)), (0, .ref a0)] B 3 rfl 3 rfl (by decide) rfl ?_
  refine z_sub [(0, .ref a0), (1, .long (0 : Int64)), (3, .int (0 : Int32))] [2, 1, 0] rfl ?_
  exact f0_surplusOfAll_l4_ok hj X B hQ hr FU _ _ _ o_a0  hf
/-! ZoneCapacity$Auction.rentOf(I)J -/
def tbX0_rentOf : Tb := [(0, .aload_n 0, 1, 1), (1, .getfield 12, 3, 4), (4, .getfield 60, 3, 7), (7, .getfield 118, 3, 10), (10, .iload_n 1, 1, 11), (11, .invokestatic 69, 3, 14), (14, .istore_n 2, 1, 15), (15, .aload_n 0, 1, 16), (16, .getfield 22, 3, 19), (19, .iload_n 1, 1, 20), (20, .invokestatic 69, 3, 23), (23, .i2l, 1, 24), (24, .aload_n 0, 1, 25), (25, .getfield 18, 3, 28), (28, .iload_n 2, 1, 29), (29, .invokestatic 69, 3, 32), (32, .aload_n 0, 1, 33), (33, .getfield 18, 3, 36), (36, .iload_n 1, 1, 37), (37, .invokestatic 69, 3, 40), (40, .isub, 1, 41), (41, .i2l, 1, 42), (42, .lmul, 1, 43), (43, .lreturn, 1, 44)]
theorem dtX0_rentOf : ∀ q ∈ tbX0_rentOf, decode cX0_rentOf q.1 = .ok (q.2.1, q.2.2.1) ∧ q.1 + q.2.2.1 = q.2.2.2 := by decide +kernel
theorem miX0_rentOf : MI yX0_rentOf cX0_rentOf 3 (some .long) 1 := ⟨tw_mem (List.mem_of_getElem? (i := 1013) (by decide +kernel)) rfl, by decide, by decide +kernel, tw_mem (List.mem_of_getElem? (i := 15) (by decide +kernel)) rfl⟩
abbrev rmX0_rentOf : Room := { frames := 1, cells := 0, slots := 0, locals := 21 }
def wX0_rentOf : List Cond := [.fieldLink "ZoneCapacity$Auction" 12 "ZoneCapacity$Auction" "market" "LZoneCapacity$Market;", .fieldLink "ZoneCapacity$Auction" 60 "ZoneCapacity$Market" "zones" "LZoneCapacity$Zones;", .fieldLink "ZoneCapacity$Auction" 118 "ZoneCapacity$Zones" "outer" "[I", .static yX6_at, .fieldLink "ZoneCapacity$Auction" 22 "ZoneCapacity$Auction" "nets" "[I", .fieldLink "ZoneCapacity$Auction" 18 "ZoneCapacity$Auction" "prices" "[I"]
theorem iX0_rentOf : ∀ w ∈ wX0_rentOf, w ∈ TW := tw_of (ids := [160, 150, 72, 272, 164, 162]) (by decide +kernel)
def f0_rentOf (mm : Mem) (a0 : Nat) (a1 : Int32) : Option Int64 := bd (f6_at mm (a0 + 1 + 1 + 1) a1) (fun r1 => bd (f6_at mm (a0 + 21) a1) (fun r2 => bd (f6_at mm (a0 + 20) r1) (fun r3 => bd (f6_at mm (a0 + 20) a1) (fun r4 => some (r2.toInt64 * ((r3 - r4).toInt64))))))
theorem ctX0_rentOf {l : Launch} {C : Cfg} (hj : Dj C) {mm : Mem} {a0 : Nat} {a1 : Int32} {x : Int64} (o_a0 : Ob a0 0) (hf : f0_rentOf mm a0 a1 = some x) : Ct l C yX0_rentOf cX0_rentOf 3 (some .long) 1 21 [.ref a0, .int a1] mm (some (.long x)) mm := by
  refine Ct.of (tb := tbX0_rentOf) hj miX0_rentOf.2.1 miX0_rentOf.1 dtX0_rentOf (Nat.le_of_ble_eq_true rfl) ?_
  intro E B hQ hr X
  unfold f0_rentOf at hf
  show G E 3 0 [(0, .ref a0), (1, .int a1)] [] mm
  refine z_aload_n B 0 rfl 0 0 rfl rfl ?_
  refine z_getr 0 0 a0 B 1 rfl o_a0 rfl (iX0_rentOf _ (List.mem_of_getElem? (i := 0) rfl)) rfl ?_
  refine z_getr 1 0 (a0 + 1) B 2 rfl (obf_0_0 o_a0) rfl (iX0_rentOf _ (List.mem_of_getElem? (i := 1) rfl)) rfl ?_
  refine z_getr 5 1 (a0 + 1 + 1) B 3 rfl (obf_1_0 (obf_0_0 o_a0)) rfl (iX0_rentOf _ (List.mem_of_getElem? (i := 2) rfl)) rfl ?_
  refine z_iload_n B 4 rfl 1 1 rfl rfl ?_
  obtain ⟨r1, ec, hf⟩ := bd_e hf
  refine z_callN [.ref (a0 + 1 + 1 + 1), .int a1] [] [.int r1] X B 5 rfl miX6_at ⟨List.mem_of_getElem? (i := 13) rfl, (iX0_rentOf _ (List.mem_of_getElem? (i := 3) rfl))⟩ (ctX6_at hj (obf_5_1 (obf_1_0 (obf_0_0 o_a0))) ec) ⟨Nat.le_of_ble_eq_true rfl, Nat.le_of_ble_eq_true rfl⟩ rfl rfl (Nat.le_of_ble_eq_true rfl) rfl ?_
  refine z_istore_n [(2, .int r1), (0, .ref a0), (1, .int a1)] B 6 rfl 2 rfl (by decide) rfl ?_
  refine z_aload_n B 7 rfl 0 1 rfl rfl ?_
  refine z_getr 0 2 a0 B 8 rfl o_a0 rfl (iX0_rentOf _ (List.mem_of_getElem? (i := 4) rfl)) rfl ?_
  refine z_iload_n B 9 rfl 1 2 rfl rfl ?_
  obtain ⟨r2, ec, hf⟩ := bd_e hf
  refine z_callN [.ref (a0 + 21), .int a1] [] [.int r2] X B 10 rfl miX6_at ⟨List.mem_of_getElem? (i := 13) rfl, (iX0_rentOf _ (List.mem_of_getElem? (i := 3) rfl))⟩ (ctX6_at hj (obf_0_2 o_a0) ec) ⟨Nat.le_of_ble_eq_true rfl, Nat.le_of_ble_eq_true rfl⟩ rfl rfl (Nat.le_of_ble_eq_true rfl) rfl ?_
  refine z_i2l B 11 rfl ?_
  refine z_aload_n B 12 rfl 0 1 rfl rfl ?_
  refine z_getr 0 1 a0 B 13 rfl o_a0 rfl (iX0_rentOf _ (List.mem_of_getElem? (i := 5) rfl)) rfl ?_
  refine z_iload_n B 14 rfl 2 0 rfl rfl ?_
  obtain ⟨r3, ec, hf⟩ := bd_e hf
  refine z_callN [.ref (a0 + 20), .int r1] [.long r2.toInt64] [.int r3, .long r2.toInt64] X B 15 rfl miX6_at ⟨List.mem_of_getElem? (i := 13) rfl, (iX0_rentOf _ (List.mem_of_getElem? (i := 3) rfl))⟩ (ctX6_at hj (obf_0_1 o_a0) ec) ⟨Nat.le_of_ble_eq_true rfl, Nat.le_of_ble_eq_true rfl⟩ rfl rfl (Nat.le_of_ble_eq_true rfl) rfl ?_
  refine z_aload_n B 16 rfl 0 1 rfl rfl ?_
  refine z_getr 0 1 a0 B 17 rfl o_a0 rfl (iX0_rentOf _ (List.mem_of_getElem? (i := 5) rfl)) rfl ?_
  refine z_iload_n B 18 rfl 1 2 rfl rfl ?_
  obtain ⟨r4, ec, hf⟩ := bd_e hf
  refine z_callN [.ref (a0 + 20), .int a1] [.int r3, .long r2.toInt64] [.int r4, .int r3, .long r2.toInt64] X B 19 rfl miX6_at ⟨List.mem_of_getElem? (i := 13) rfl, (iX0_rentOf _ (List.mem_of_getElem? (i := 3) rfl))⟩ (ctX6_at hj (obf_0_1 o_a0) ec) ⟨Nat.le_of_ble_eq_true rfl, Nat.le_of_ble_eq_true rfl⟩ rfl rfl (Nat.le_of_ble_eq_true rfl) rfl ?_
  refine z_isub B 20 rfl ?_
  refine z_i2l B 21 rfl ?_
  refine z_lmul B 22 rfl ?_
  cases hf
  exact z_lret B 23 rfl hQ hr
/-! ZoneCapacity$Auction.paidTo(I)J -/
def tbX0_paidTo : Tb := [(0, .aload_n 0, 1, 1), (1, .getfield 18, 3, 4), (4, .aload_n 0, 1, 5), (5, .getfield 12, 3, 8), (8, .getfield 85, 3, 11), (11, .getfield 113, 3, 14), (14, .iload_n 1, 1, 15), (15, .invokestatic 69, 3, 18), (18, .invokestatic 69, 3, 21), (21, .i2l, 1, 22), (22, .aload_n 0, 1, 23), (23, .iload_n 1, 1, 24), (24, .invokevirtual 144, 3, 27), (27, .i2l, 1, 28), (28, .lmul, 1, 29), (29, .lreturn, 1, 30)]
theorem dtX0_paidTo : ∀ q ∈ tbX0_paidTo, decode cX0_paidTo q.1 = .ok (q.2.1, q.2.2.1) ∧ q.1 + q.2.2.1 = q.2.2.2 := by decide +kernel
theorem miX0_paidTo : MI yX0_paidTo cX0_paidTo 2 (some .long) 1 := ⟨tw_mem (List.mem_of_getElem? (i := 1029) (by decide +kernel)) rfl, by decide, by decide +kernel, tw_mem (List.mem_of_getElem? (i := 15) (by decide +kernel)) rfl⟩
abbrev rmX0_paidTo : Room := { frames := 2, cells := 0, slots := 0, locals := 44 }
def wX0_paidTo : List Cond := [.fieldLink "ZoneCapacity$Auction" 18 "ZoneCapacity$Auction" "prices" "[I", .fieldLink "ZoneCapacity$Auction" 12 "ZoneCapacity$Auction" "market" "LZoneCapacity$Market;", .fieldLink "ZoneCapacity$Auction" 85 "ZoneCapacity$Market" "offers" "LZoneCapacity$Offers;", .fieldLink "ZoneCapacity$Auction" 113 "ZoneCapacity$Offers" "zones" "[I", .static yX6_at, .methodLink "ZoneCapacity$Auction" 144 yX0_takenOf, .instanceMethod yX0_takenOf, .selects "ZoneCapacity$Auction" yX0_takenOf yX0_takenOf]
theorem iX0_paidTo : ∀ w ∈ wX0_paidTo, w ∈ TW := tw_of (ids := [162, 160, 153, 112, 272, 1030, 412, 413]) (by decide +kernel)
def f0_paidTo (mm : Mem) (a0 : Nat) (a1 : Int32) : Option Int64 := bd (f6_at mm (a0 + 1 + 8 + 2) a1) (fun r1 => bd (f6_at mm (a0 + 20) r1) (fun r2 => bd (f0_takenOf mm a0 a1) (fun r3 => some (r2.toInt64 * r3.toInt64))))
theorem ctX0_paidTo {l : Launch} {C : Cfg} (hj : Dj C) {mm : Mem} {a0 : Nat} {a1 : Int32} {x : Int64} (o_a0 : Ob a0 0) (hf : f0_paidTo mm a0 a1 = some x) : Ct l C yX0_paidTo cX0_paidTo 2 (some .long) 2 44 [.ref a0, .int a1] mm (some (.long x)) mm := by
  refine Ct.of (tb := tbX0_paidTo) hj miX0_paidTo.2.1 miX0_paidTo.1 dtX0_paidTo (Nat.le_of_ble_eq_true rfl) ?_
  intro E B hQ hr X
  unfold f0_paidTo at hf
  show G E 2 0 [(0, .ref a0), (1, .int a1)] [] mm
  refine z_aload_n B 0 rfl 0 0 rfl rfl ?_
  refine z_getr 0 1 a0 B 1 rfl o_a0 rfl (iX0_paidTo _ (List.mem_of_getElem? (i := 0) rfl)) rfl ?_
  refine z_aload_n B 2 rfl 0 0 rfl rfl ?_
  refine z_getr 0 0 a0 B 3 rfl o_a0 rfl (iX0_paidTo _ (List.mem_of_getElem? (i := 1) rfl)) rfl ?_
  refine z_getr 1 1 (a0 + 1) B 4 rfl (obf_0_0 o_a0) rfl (iX0_paidTo _ (List.mem_of_getElem? (i := 2) rfl)) rfl ?_
  refine z_getr 2 3 (a0 + 1 + 8) B 5 rfl (obf_1_1 (obf_0_0 o_a0)) rfl (iX0_paidTo _ (List.mem_of_getElem? (i := 3) rfl)) rfl ?_
  refine z_iload_n B 6 rfl 1 1 rfl rfl ?_
  obtain ⟨r1, ec, hf⟩ := bd_e hf
  refine z_callN [.ref (a0 + 1 + 8 + 2), .int a1] [.ref (a0 + 20)] [.int r1, .ref (a0 + 20)] X B 7 rfl miX6_at ⟨List.mem_of_getElem? (i := 13) rfl, (iX0_paidTo _ (List.mem_of_getElem? (i := 4) rfl))⟩ (ctX6_at hj (obf_2_3 (obf_1_1 (obf_0_0 o_a0))) ec) ⟨Nat.le_of_ble_eq_true rfl, Nat.le_of_ble_eq_true rfl⟩ rfl rfl (Nat.le_of_ble_eq_true rfl) rfl ?_
  obtain ⟨r2, ec, hf⟩ := bd_e hf
  refine z_callN [.ref (a0 + 20), .int r1] [] [.int r2] X B 8 rfl miX6_at ⟨List.mem_of_getElem? (i := 13) rfl, (iX0_paidTo _ (List.mem_of_getElem? (i := 4) rfl))⟩ (ctX6_at hj (obf_0_1 o_a0) ec) ⟨Nat.le_of_ble_eq_true rfl, Nat.le_of_ble_eq_true rfl⟩ rfl rfl (Nat.le_of_ble_eq_true rfl) rfl ?_
  refine z_i2l B 9 rfl ?_
  refine z_aload_n B 10 rfl 0 0 rfl rfl ?_
  refine z_iload_n B 11 rfl 1 1 rfl rfl ?_
  obtain ⟨r3, ec, hf⟩ := bd_e hf
  refine z_callV a0 0 [.int a1] [.long r2.toInt64] [.int r3, .long r2.toInt64] X B 12 rfl (by decide) o_a0 rfl rfl miX0_takenOf ⟨(iX0_paidTo _ (List.mem_of_getElem? (i := 5) rfl)), (iX0_paidTo _ (List.mem_of_getElem? (i := 6) rfl)), (iX0_paidTo _ (List.mem_of_getElem? (i := 7) rfl))⟩ (ctX0_takenOf hj o_a0 ec) ⟨Nat.le_of_ble_eq_true rfl, Nat.le_of_ble_eq_true rfl⟩ rfl rfl (Nat.le_of_ble_eq_true rfl) rfl ?_
  refine z_i2l B 13 rfl ?_
  refine z_lmul B 14 rfl ?_
  cases hf
  exact z_lret B 15 rfl hQ hr
/-! ZoneCapacity$Auction.paidToOwner(I)J -/
def tbX0_paidToOwner : Tb := [(0, .aload_n 0, 1, 1), (1, .getfield 12, 3, 4), (4, .getfield 85, 3, 7), (7, .astore_n 2, 1, 8), (8, .lconst 0, 1, 9), (9, .lstore_n 3, 1, 10), (10, .iconst 0, 1, 11), (11, .istore 5, 2, 13), (13, .iload 5, 2, 15), (15, .aload_n 2, 1, 16), (16, .getfield 89, 3, 19), (19, .if_icmp .ge 31, 3, 22), (22, .aload_n 2, 1, 23), (23, .getfield 147, 3, 26), (26, .iload 5, 2, 28), (28, .invokestatic 69, 3, 31), (31, .iload_n 1, 1, 32), (32, .if_icmp .ne 12, 3, 35), (35, .lload_n 3, 1, 36), (36, .aload_n 0, 1, 37), (37, .iload 5, 2, 39), (39, .invokevirtual 150, 3, 42), (42, .ladd, 1, 43), (43, .lstore_n 3, 1, 44), (44, .iinc 5 1, 3, 47), (47, .goto (-34), 3, 50), (50, .lload_n 3, 1, 51), (51, .lreturn, 1, 52)]
theorem dtX0_paidToOwner : ∀ q ∈ tbX0_paidToOwner, decode cX0_paidToOwner q.1 = .ok (q.2.1, q.2.2.1) ∧ q.1 + q.2.2.1 = q.2.2.2 := by decide +kernel
theorem miX0_paidToOwner : MI yX0_paidToOwner cX0_paidToOwner 6 (some .long) 1 := ⟨tw_mem (List.mem_of_getElem? (i := 1034) (by decide +kernel)) rfl, by decide, by decide +kernel, tw_mem (List.mem_of_getElem? (i := 15) (by decide +kernel)) rfl⟩
abbrev rmX0_paidToOwner : Room := { frames := 3, cells := 0, slots := 0, locals := 65 }
def wX0_paidToOwner : List Cond := [.fieldLink "ZoneCapacity$Auction" 12 "ZoneCapacity$Auction" "market" "LZoneCapacity$Market;", .fieldLink "ZoneCapacity$Auction" 85 "ZoneCapacity$Market" "offers" "LZoneCapacity$Offers;", .fieldLink "ZoneCapacity$Auction" 89 "ZoneCapacity$Offers" "many" "I", .fieldLink "ZoneCapacity$Auction" 147 "ZoneCapacity$Offers" "owners" "[I", .static yX6_at, .methodLink "ZoneCapacity$Auction" 150 yX0_paidTo, .instanceMethod yX0_paidTo, .selects "ZoneCapacity$Auction" yX0_paidTo yX0_paidTo]
theorem iX0_paidToOwner : ∀ w ∈ wX0_paidToOwner, w ∈ TW := tw_of (ids := [160, 153, 106, 116, 272, 1035, 1027, 1028]) (by decide +kernel)
def f0_paidToOwner_j44 (k13 : Nat → Int32 → Nat → Int64 → Int32 → Option Int64) (mm : Mem) (x0 : Nat) (x1 : Int32) (x2 : Nat) (x3 : Int64) (x5 : Int32) : Option Int64 := nm (x5 + 1) (fun v2 => k13 x0 x1 x2 x3 v2)
theorem f0_paidToOwner_j44_ok {E : Ev} {l : Launch} {C : Cfg} {mm : Mem} {x : Int64} {k13 : Nat → Int32 → Nat → Int64 → Int32 → Option Int64} (hj : Dj C) (X : Ec E l C rmX0_paidToOwner) (B : Bx E RX0 tbX0_paidToOwner 6 (some .long)) (hQ : Rt E) (hr : Rs E (some (.long x)) mm) (hk13 : ∀ (x0 : Nat) (x1 : Int32) (x2 : Nat) (x3 : Int64) (x5 : Int32), Ob x0 0 → Ob x2 2 → k13 x0 x1 x2 x3 x5 = some x → G E 6 13 [(0, .ref x0), (1, .int x1), (2, .ref x2), (3, .long x3), (5, .int x5)] [] mm) (x0 : Nat) (x1 : Int32) (x2 : Nat) (x3 : Int64) (x5 : Int32) (o_x0 : Ob x0 0) (o_x2 : Ob x2 2) (hf : f0_paidToOwner_j44 k13 mm x0 x1 x2 x3 x5 = some x) : G E 6 44 [(0, .ref x0), (1, .int x1), (2, .ref x2), (3, .long x3), (5, .int x5)] [] mm := by
  unfold f0_paidToOwner_j44 at hf
  obtain ⟨v2, ex, hf⟩ := nm_x hf
  refine z_iinc v2 [(5, .int v2), (0, .ref x0), (1, .int x1), (2, .ref x2), (3, .long x3)] B 24 rfl 4 rfl (ex.symm) (by decide) rfl ?_
  refine z_goto B 25 rfl 13 (by decide) ?_
  refine z_sub [(0, .ref x0), (1, .int x1), (2, .ref x2), (3, .long x3), (5, .int v2)] [1, 2, 3, 4, 0] rfl ?_
  exact hk13 _ _ _ _ _ o_x0 o_x2  hf
def f0_paidToOwner_l13 (mm : Mem) : Nat → Nat → Int32 → Nat → Int64 → Int32 → Option Int64
  | 0, _, _, _, _, _ => none
  | n + 1, x0, x1, x2, x3, x5 => if x5 < (mm x2 0) then bd (f6_at mm (x2 + 5) x5) (fun r1 => if r1 = x1 then bd (f0_paidTo mm x0 x5) (fun r3 => nm (x3 + r3) (fun v4 => f0_paidToOwner_j44 (fun x0 x1 x2 x3 x5 => f0_paidToOwner_l13 mm n x0 x1 x2 x3 x5) mm x0 x1 x2 v4 x5)) else f0_paidToOwner_j44 (fun x0 x1 x2 x3 x5 => f0_paidToOwner_l13 mm n x0 x1 x2 x3 x5) mm x0 x1 x2 x3 x5) else some (x3)
theorem f0_paidToOwner_l13_ok {E : Ev} {l : Launch} {C : Cfg} {mm : Mem} {x : Int64} (hj : Dj C) (X : Ec E l C rmX0_paidToOwner) (B : Bx E RX0 tbX0_paidToOwner 6 (some .long)) (hQ : Rt E) (hr : Rs E (some (.long x)) mm) (n : Nat) : ∀ (x0 : Nat) (x1 : Int32) (x2 : Nat) (x3 : Int64) (x5 : Int32), Ob x0 0 → Ob x2 2 → f0_paidToOwner_l13 mm n x0 x1 x2 x3 x5 = some x → G E 6 13 [(0, .ref x0), (1, .int x1), (2, .ref x2), (3, .long x3), (5, .int x5)] [] mm := by
  induction n with
  | zero =>
    intro x0 x1 x2 x3 x5 o_x0 o_x2 hf
    rw [f0_paidToOwner_l13] at hf
    cases hf
  | succ n ih =>
    intro x0 x1 x2 x3 x5 o_x0 o_x2 hf
    rw [f0_paidToOwner_l13] at hf
    refine z_iload B 8 rfl 4 rfl ?_
    refine z_aload_n B 9 rfl 2 2 rfl rfl ?_
    refine z_geti 2 0 x2 B 10 rfl o_x2 rfl (iX0_paidToOwner _ (List.mem_of_getElem? (i := 2) rfl)) rfl ?_
    by_cases hc : x5 < (mm x2 0)
    · replace hf := (if_pos hc).symm.trans hf
      refine z_icmp_ge_f B 11 rfl 50 (by decide) hc ?_
      refine z_aload_n B 12 rfl 2 2 rfl rfl ?_
      refine z_getr 2 6 x2 B 13 rfl o_x2 rfl (iX0_paidToOwner _ (List.mem_of_getElem? (i := 3) rfl)) rfl ?_
      refine z_iload B 14 rfl 4 rfl ?_
      obtain ⟨r1, ec, hf⟩ := bd_e hf
      refine z_callN [.ref (x2 + 5), .int x5] [] [.int r1] X B 15 rfl miX6_at ⟨List.mem_of_getElem? (i := 13) rfl, (iX0_paidToOwner _ (List.mem_of_getElem? (i := 4) rfl))⟩ (ctX6_at hj (obf_2_6 o_x2) ec) ⟨Nat.le_of_ble_eq_true rfl, Nat.le_of_ble_eq_true rfl⟩ rfl rfl (Nat.le_of_ble_eq_true rfl) rfl ?_
      refine z_iload_n B 16 rfl 1 1 rfl rfl ?_
      by_cases hc : r1 = x1
      · replace hf := (if_pos hc).symm.trans hf
        refine z_icmp_ne_f B 17 rfl 44 (by decide) hc ?_
        refine z_lload_n B 18 rfl 3 3 rfl rfl ?_
        refine z_aload_n B 19 rfl 0 0 rfl rfl ?_
        refine z_iload B 20 rfl 4 rfl ?_
        obtain ⟨r3, ec, hf⟩ := bd_e hf
        refine z_callV x0 0 [.int x5] [.long x3] [.long r3, .long x3] X B 21 rfl (by decide) o_x0 rfl rfl miX0_paidTo ⟨(iX0_paidToOwner _ (List.mem_of_getElem? (i := 5) rfl)), (iX0_paidToOwner _ (List.mem_of_getElem? (i := 6) rfl)), (iX0_paidToOwner _ (List.mem_of_getElem? (i := 7) rfl))⟩ (ctX0_paidTo hj o_x0 ec) ⟨Nat.le_of_ble_eq_true rfl, Nat.le_of_ble_eq_true rfl⟩ rfl rfl (Nat.le_of_ble_eq_true rfl) rfl ?_
        refine z_ladd B 22 rfl ?_
        obtain ⟨v4, ex, hf⟩ := nm_x hf
        refine z_topl ex ?_
        refine z_lstore_n [(3, .long v4), (0, .ref x0), (1, .int x1), (2, .ref x2), (5, .int x5)] B 23 rfl 3 rfl (by decide) rfl ?_
        refine z_sub [(0, .ref x0), (1, .int x1), (2, .ref x2), (3, .long v4), (5, .int x5)] [1, 2, 3, 0, 4] rfl ?_
        exact f0_paidToOwner_j44_ok hj X B hQ hr ih _ _ _ _ _ o_x0 o_x2  hf
      · replace hf := (if_neg hc).symm.trans hf
        refine z_icmp_ne_t B 17 rfl 44 (by decide) hc ?_
        exact f0_paidToOwner_j44_ok hj X B hQ hr ih _ _ _ _ _ o_x0 o_x2  hf
    · replace hf := (if_neg hc).symm.trans hf
      refine z_icmp_ge_t B 11 rfl 50 (by decide) hc ?_
      refine z_lload_n B 26 rfl 3 3 rfl rfl ?_
      cases hf
      exact z_lret B 27 rfl hQ hr
def f0_paidToOwner (mm : Mem) (a0 : Nat) (a1 : Int32) : Option Int64 := f0_paidToOwner_l13 mm FU a0 a1 (a0 + 1 + 8) (0 : Int64) (0 : Int32)
theorem ctX0_paidToOwner {l : Launch} {C : Cfg} (hj : Dj C) {mm : Mem} {a0 : Nat} {a1 : Int32} {x : Int64} (o_a0 : Ob a0 0) (hf : f0_paidToOwner mm a0 a1 = some x) : Ct l C yX0_paidToOwner cX0_paidToOwner 6 (some .long) 3 65 [.ref a0, .int a1] mm (some (.long x)) mm := by
  refine Ct.of (tb := tbX0_paidToOwner) hj miX0_paidToOwner.2.1 miX0_paidToOwner.1 dtX0_paidToOwner (Nat.le_of_ble_eq_true rfl) ?_
  intro E B hQ hr X
  unfold f0_paidToOwner at hf
  show G E 6 0 [(0, .ref a0), (1, .int a1)] [] mm
  refine z_aload_n B 0 rfl 0 0 rfl rfl ?_
  refine z_getr 0 0 a0 B 1 rfl o_a0 rfl (iX0_paidToOwner _ (List.mem_of_getElem? (i := 0) rfl)) rfl ?_
  refine z_getr 1 1 (a0 + 1) B 2 rfl (obf_0_0 o_a0) rfl (iX0_paidToOwner _ (List.mem_of_getElem? (i := 1) rfl)) rfl ?_
  refine z_astore_n [(2, .ref (a0 + 1 + 8)), (0, .ref a0), (1, .int a1)] B 3 rfl 2 rfl (by decide) rfl ?_
  refine z_lconst 0 B 4 rfl (by decide) ?_
  refine z_lstore_n [(3, .long (0 : Int64)), (2, .ref (a0 + 1 + 8)), (0, .ref a0), (1, .int a1)] B 5 rfl 3 rfl (by decide) rfl ?_
  refine z_iconst 0 B 6 rfl (by decide) ?_
  refine z_istore [(5, .int (0 : Int32)), (3, .long (0 : Int64)), (2, .ref (a0 + 1 + 8)), (0, .ref a0), (1, .int a1)] B 7 rfl (by decide) rfl ?_
  refine z_sub [(0, .ref a0), (1, .int a1), (2, .ref (a0 + 1 + 8)), (3, .long (0 : Int64)), (5, .int (0 : Int32))] [3, 4, 2, 1, 0] rfl ?_
  exact f0_paidToOwner_l13_ok hj X B hQ hr FU _ _ _ _ _ o_a0 (obf_1_1 (obf_0_0 o_a0))  hf
/-! ZoneCapacity$Offers.has(I)Z -/
def tbX2_has : Tb := [(0, .iload_n 1, 1, 1), (1, .ifCond .lt 15, 3, 4), (4, .iload_n 1, 1, 5), (5, .aload_n 0, 1, 6), (6, .getfield 46, 3, 9), (9, .if_icmp .ge 7, 3, 12), (12, .iconst 1, 1, 13), (13, .goto 4, 3, 16), (16, .iconst 0, 1, 17), (17, .ireturn, 1, 18)]
theorem dtX2_has : ∀ q ∈ tbX2_has, decode cX2_has q.1 = .ok (q.2.1, q.2.2.1) ∧ q.1 + q.2.2.1 = q.2.2.2 := by decide +kernel
theorem miX2_has : MI yX2_has cX2_has 2 (some .boolean) 1 := ⟨tw_mem (List.mem_of_getElem? (i := 300) (by decide +kernel)) rfl, by decide, by decide +kernel, tw_mem (List.mem_of_getElem? (i := 18) (by decide +kernel)) rfl⟩
abbrev rmX2_has : Room := { frames := 0, cells := 0, slots := 0, locals := 0 }
def wX2_has : List Cond := [.fieldLink "ZoneCapacity$Offers" 46 "ZoneCapacity$Offers" "many" "I"]
theorem iX2_has : ∀ w ∈ wX2_has, w ∈ TW := tw_of (ids := [105]) (by decide +kernel)
def f2_has (mm : Mem) (a0 : Nat) (a1 : Int32) : Option Int32 := if a1 < 0 then some ((0 : Int32)) else if a1 < (mm a0 0) then some ((1 : Int32)) else some ((0 : Int32))
theorem ctX2_has {l : Launch} {C : Cfg} (hj : Dj C) {mm : Mem} {a0 : Nat} {a1 : Int32} {x : Int32} (o_a0 : Ob a0 2) (hf : f2_has mm a0 a1 = some x) : Ct l C yX2_has cX2_has 2 (some .boolean) 0 0 [.ref a0, .int a1] mm (some (.int x)) mm := by
  refine Ct.of (tb := tbX2_has) hj miX2_has.2.1 miX2_has.1 dtX2_has (Nat.le_of_ble_eq_true rfl) ?_
  intro E B hQ hr X
  unfold f2_has at hf
  show G E 2 0 [(0, .ref a0), (1, .int a1)] [] mm
  refine z_iload_n B 0 rfl 1 1 rfl rfl ?_
  by_cases hc : a1 < 0
  · replace hf := (if_pos hc).symm.trans hf
    refine z_if_lt_t B 1 rfl 16 (by decide) hc ?_
    refine z_iconst 0 B 8 rfl (by decide) ?_
    cases hf
    exact z_iret B 9 rfl (by decide) hQ hr
  · replace hf := (if_neg hc).symm.trans hf
    refine z_if_lt_f B 1 rfl 16 (by decide) hc ?_
    refine z_iload_n B 2 rfl 1 1 rfl rfl ?_
    refine z_aload_n B 3 rfl 0 0 rfl rfl ?_
    refine z_geti 2 0 a0 B 4 rfl o_a0 rfl (iX2_has _ (List.mem_of_getElem? (i := 0) rfl)) rfl ?_
    by_cases hc : a1 < (mm a0 0)
    · replace hf := (if_pos hc).symm.trans hf
      refine z_icmp_ge_f B 5 rfl 16 (by decide) hc ?_
      refine z_iconst 1 B 6 rfl (by decide) ?_
      refine z_goto B 7 rfl 17 (by decide) ?_
      cases hf
      exact z_iret B 9 rfl (by decide) hQ hr
    · replace hf := (if_neg hc).symm.trans hf
      refine z_icmp_ge_t B 5 rfl 16 (by decide) hc ?_
      refine z_iconst 0 B 8 rfl (by decide) ?_
      cases hf
      exact z_iret B 9 rfl (by decide) hQ hr
/-! ZoneCapacity$Offers.add(IIIIZZ)I -/
def tbX2_add : Tb := [(0, .aload_n 0, 1, 1), (1, .getfield 46, 3, 4), (4, .istore 7, 2, 6), (6, .aload_n 0, 1, 7), (7, .getfield 19, 3, 10), (10, .iload 7, 2, 12), (12, .iload_n 1, 1, 13), (13, .invokestatic 53, 3, 16), (16, .aload_n 0, 1, 17), (17, .getfield 22, 3, 20), (20, .iload 7, 2, 22), (22, .iload_n 2, 1, 23), (23, .invokestatic 53, 3, 26), (26, .aload_n 0, 1, 27), (27, .getfield 25, 3, 30), (30, .iload 7, 2, 32), (32, .iload_n 3, 1, 33), (33, .invokestatic 53, 3, 36), (36, .aload_n 0, 1, 37), (37, .getfield 28, 3, 40), (40, .iload 7, 2, 42), (42, .iload 4, 2, 44), (44, .invokestatic 53, 3, 47), (47, .aload_n 0, 1, 48), (48, .getfield 31, 3, 51), (51, .iload 7, 2, 53), (53, .iload 5, 2, 55), (55, .ifCond .eq 7, 3, 58), (58, .iconst 1, 1, 59), (59, .goto 4, 3, 62), (62, .iconst 0, 1, 63), (63, .invokestatic 53, 3, 66), (66, .aload_n 0, 1, 67), (67, .getfield 34, 3, 70), (70, .iload 7, 2, 72), (72, .iload 6, 2, 74), (74, .ifCond .eq 7, 3, 77), (77, .iconst 1, 1, 78), (78, .goto 4, 3, 81), (81, .iconst 0, 1, 82), (82, .invokestatic 53, 3, 85), (85, .aload_n 0, 1, 86), (86, .getfield 37, 3, 89), (89, .iload 7, 2, 91), (91, .iconst 0, 1, 92), (92, .invokestatic 53, 3, 95), (95, .aload_n 0, 1, 96), (96, .iload 7, 2, 98), (98, .iconst 1, 1, 99), (99, .iadd, 1, 100), (100, .putfield 46, 3, 103), (103, .iload 7, 2, 105), (105, .ireturn, 1, 106)]
theorem dtX2_add : ∀ q ∈ tbX2_add, decode cX2_add q.1 = .ok (q.2.1, q.2.2.1) ∧ q.1 + q.2.2.1 = q.2.2.2 := by decide +kernel
theorem miX2_add : MI yX2_add cX2_add 8 (some .int) 6 := ⟨tw_mem (List.mem_of_getElem? (i := 785) (by decide +kernel)) rfl, by decide, by decide +kernel, tw_mem (List.mem_of_getElem? (i := 18) (by decide +kernel)) rfl⟩
abbrev rmX2_add : Room := { frames := 1, cells := 0, slots := 0, locals := 22 }
def wX2_add : List Cond := [.fieldLink "ZoneCapacity$Offers" 46 "ZoneCapacity$Offers" "many" "I", .fieldLink "ZoneCapacity$Offers" 19 "ZoneCapacity$Offers" "zones" "[I", .static yX6_put, .fieldLink "ZoneCapacity$Offers" 22 "ZoneCapacity$Offers" "sizes" "[I", .fieldLink "ZoneCapacity$Offers" 25 "ZoneCapacity$Offers" "kinds" "[I", .fieldLink "ZoneCapacity$Offers" 28 "ZoneCapacity$Offers" "owners" "[I", .fieldLink "ZoneCapacity$Offers" 31 "ZoneCapacity$Offers" "must" "[I", .fieldLink "ZoneCapacity$Offers" 34 "ZoneCapacity$Offers" "free" "[I", .fieldLink "ZoneCapacity$Offers" 37 "ZoneCapacity$Offers" "steps" "[I"]
theorem iX2_add : ∀ w ∈ wX2_add, w ∈ TW := tw_of (ids := [105, 111, 291, 113, 114, 115, 117, 118, 120]) (by decide +kernel)
def f2_add_j82 (x0 : Nat) (x7 : Int32) (s0 : Int32) (s1 : Int32) (s2 : Nat) (mm : Mem) : Option (Int32 × Mem) := bd (f6_put mm s2 s1 s0) (fun r7 => bd (f6_put r7 (x0 + 8) x7 (0 : Int32)) (fun r8 => nm (up2 r8 x0 0 (x7 + (1 : Int32))) (fun m9 => some (x7, m9))))
theorem f2_add_j82_ok {E : Ev} {l : Launch} {C : Cfg} {x : (Int32 × Mem)} (hj : Dj C) (X : Ec E l C rmX2_add) (B : Bx E RX2 tbX2_add 8 (some .int)) (hQ : Rt E) (hr : Rs E (some (.int x.1)) x.2) (x0 : Nat) (x7 : Int32) (s0 : Int32) (s1 : Int32) (s2 : Nat) (mm : Mem) (o_x0 : Ob x0 2) (o_s2 : Ob s2 8) (hf : f2_add_j82 x0 x7 s0 s1 s2 mm = some x) : G E 8 82 [(0, .ref x0), (7, .int x7)] [.int s0, .int s1, .ref s2] mm := by
  unfold f2_add_j82 at hf
  obtain ⟨r7, ec, hf⟩ := bd_e hf
  refine z_callN [.ref s2, .int s1, .int s0] [] [] X B 40 rfl miX6_put ⟨List.mem_of_getElem? (i := 11) rfl, (iX2_add _ (List.mem_of_getElem? (i := 2) rfl))⟩ (ctX6_put hj o_s2 ec) ⟨Nat.le_of_ble_eq_true rfl, Nat.le_of_ble_eq_true rfl⟩ rfl rfl (Nat.le_of_ble_eq_true rfl) rfl ?_
  refine z_aload_n B 41 rfl 0 0 rfl rfl ?_
  refine z_getr 2 9 x0 B 42 rfl o_x0 rfl (iX2_add _ (List.mem_of_getElem? (i := 8) rfl)) rfl ?_
  refine z_iload B 43 rfl 1 rfl ?_
  refine z_iconst 0 B 44 rfl (by decide) ?_
  obtain ⟨r8, ec, hf⟩ := bd_e hf
  refine z_callN [.ref (x0 + 8), .int x7, .int (0 : Int32)] [] [] X B 45 rfl miX6_put ⟨List.mem_of_getElem? (i := 11) rfl, (iX2_add _ (List.mem_of_getElem? (i := 2) rfl))⟩ (ctX6_put hj (obf_2_9 o_x0) ec) ⟨Nat.le_of_ble_eq_true rfl, Nat.le_of_ble_eq_true rfl⟩ rfl rfl (Nat.le_of_ble_eq_true rfl) rfl ?_
  refine z_aload_n B 46 rfl 0 0 rfl rfl ?_
  refine z_iload B 47 rfl 1 rfl ?_
  refine z_iconst 1 B 48 rfl (by decide) ?_
  refine z_iadd B 49 rfl ?_
  refine z_puti 2 0 x0 B 50 rfl o_x0 rfl (iX2_add _ (List.mem_of_getElem? (i := 0) rfl)) rfl (ty := .int) (by decide) rfl rfl rfl ?_
  obtain ⟨m9, ex, hf⟩ := nm_x hf
  refine z_mem ex ?_
  refine z_iload B 51 rfl 1 rfl ?_
  cases hf
  exact z_iret B 52 rfl rfl hQ hr
def f2_add_j63 (x0 : Nat) (x6 : Int32) (x7 : Int32) (s0 : Int32) (s1 : Int32) (s2 : Nat) (mm : Mem) : Option (Int32 × Mem) := bd (f6_put mm s2 s1 s0) (fun r6 => if x6 = 0 then f2_add_j82 x0 x7 (0 : Int32) x7 (x0 + 7) r6 else f2_add_j82 x0 x7 (1 : Int32) x7 (x0 + 7) r6)
theorem f2_add_j63_ok {E : Ev} {l : Launch} {C : Cfg} {x : (Int32 × Mem)} (hj : Dj C) (X : Ec E l C rmX2_add) (B : Bx E RX2 tbX2_add 8 (some .int)) (hQ : Rt E) (hr : Rs E (some (.int x.1)) x.2) (x0 : Nat) (x6 : Int32) (x7 : Int32) (s0 : Int32) (s1 : Int32) (s2 : Nat) (mm : Mem) (o_x0 : Ob x0 2) (o_s2 : Ob s2 8) (hf : f2_add_j63 x0 x6 x7 s0 s1 s2 mm = some x) : G E 8 63 [(0, .ref x0), (6, .int x6), (7, .int x7)] [.int s0, .int s1, .ref s2] mm := by
  unfold f2_add_j63 at hf
  obtain ⟨r6, ec, hf⟩ := bd_e hf
  refine z_callN [.ref s2, .int s1, .int s0] [] [] X B 31 rfl miX6_put ⟨List.mem_of_getElem? (i := 11) rfl, (iX2_add _ (List.mem_of_getElem? (i := 2) rfl))⟩ (ctX6_put hj o_s2 ec) ⟨Nat.le_of_ble_eq_true rfl, Nat.le_of_ble_eq_true rfl⟩ rfl rfl (Nat.le_of_ble_eq_true rfl) rfl ?_
  refine z_aload_n B 32 rfl 0 0 rfl rfl ?_
  refine z_getr 2 8 x0 B 33 rfl o_x0 rfl (iX2_add _ (List.mem_of_getElem? (i := 7) rfl)) rfl ?_
  refine z_iload B 34 rfl 2 rfl ?_
  refine z_iload B 35 rfl 1 rfl ?_
  by_cases hc : x6 = 0
  · replace hf := (if_pos hc).symm.trans hf
    refine z_if_eq_t B 36 rfl 81 (by decide) hc ?_
    refine z_iconst 0 B 39 rfl (by decide) ?_
    refine z_sub [(0, .ref x0), (7, .int x7)] [0, 2] rfl ?_
    exact f2_add_j82_ok hj X B hQ hr _ _ _ _ _ _ o_x0 (obf_2_8 o_x0) hf
  · replace hf := (if_neg hc).symm.trans hf
    refine z_if_eq_f B 36 rfl 81 (by decide) hc ?_
    refine z_iconst 1 B 37 rfl (by decide) ?_
    refine z_goto B 38 rfl 82 (by decide) ?_
    refine z_sub [(0, .ref x0), (7, .int x7)] [0, 2] rfl ?_
    exact f2_add_j82_ok hj X B hQ hr _ _ _ _ _ _ o_x0 (obf_2_8 o_x0) hf
def f2_add (mm : Mem) (a0 : Nat) (a1 : Int32) (a2 : Int32) (a3 : Int32) (a4 : Int32) (a5 : Int32) (a6 : Int32) : Option (Int32 × Mem) := nm (mm a0 0) (fun v1 => bd (f6_put mm (a0 + 2) v1 a1) (fun r2 => bd (f6_put r2 (a0 + 3) v1 a2) (fun r3 => bd (f6_put r3 (a0 + 4) v1 a3) (fun r4 => bd (f6_put r4 (a0 + 5) v1 a4) (fun r5 => if a5 = 0 then f2_add_j63 a0 a6 v1 (0 : Int32) v1 (a0 + 6) r5 else f2_add_j63 a0 a6 v1 (1 : Int32) v1 (a0 + 6) r5)))))
theorem ctX2_add {l : Launch} {C : Cfg} (hj : Dj C) {mm : Mem} {a0 : Nat} {a1 : Int32} {a2 : Int32} {a3 : Int32} {a4 : Int32} {a5 : Int32} {a6 : Int32} {x : (Int32 × Mem)} (o_a0 : Ob a0 2) (hf : f2_add mm a0 a1 a2 a3 a4 a5 a6 = some x) : Ct l C yX2_add cX2_add 8 (some .int) 1 22 [.ref a0, .int a1, .int a2, .int a3, .int a4, .int a5, .int a6] mm (some (.int x.1)) x.2 := by
  refine Ct.of (tb := tbX2_add) hj miX2_add.2.1 miX2_add.1 dtX2_add (Nat.le_of_ble_eq_true rfl) ?_
  intro E B hQ hr X
  unfold f2_add at hf
  show G E 8 0 [(0, .ref a0), (1, .int a1), (2, .int a2), (3, .int a3), (4, .int a4), (5, .int a5), (6, .int a6)] [] mm
  refine z_aload_n B 0 rfl 0 0 rfl rfl ?_
  refine z_geti 2 0 a0 B 1 rfl o_a0 rfl (iX2_add _ (List.mem_of_getElem? (i := 0) rfl)) rfl ?_
  obtain ⟨v1, ex, hf⟩ := nm_x hf
  refine z_top ex ?_
  refine z_istore [(7, .int v1), (0, .ref a0), (1, .int a1), (2, .int a2), (3, .int a3), (4, .int a4), (5, .int a5), (6, .int a6)] B 2 rfl (by decide) rfl ?_
  refine z_aload_n B 3 rfl 0 1 rfl rfl ?_
  refine z_getr 2 3 a0 B 4 rfl o_a0 rfl (iX2_add _ (List.mem_of_getElem? (i := 1) rfl)) rfl ?_
  refine z_iload B 5 rfl 0 rfl ?_
  refine z_iload_n B 6 rfl 1 2 rfl rfl ?_
  obtain ⟨r2, ec, hf⟩ := bd_e hf
  refine z_callN [.ref (a0 + 2), .int v1, .int a1] [] [] X B 7 rfl miX6_put ⟨List.mem_of_getElem? (i := 11) rfl, (iX2_add _ (List.mem_of_getElem? (i := 2) rfl))⟩ (ctX6_put hj (obf_2_3 o_a0) ec) ⟨Nat.le_of_ble_eq_true rfl, Nat.le_of_ble_eq_true rfl⟩ rfl rfl (Nat.le_of_ble_eq_true rfl) rfl ?_
  refine z_aload_n B 8 rfl 0 1 rfl rfl ?_
  refine z_getr 2 4 a0 B 9 rfl o_a0 rfl (iX2_add _ (List.mem_of_getElem? (i := 3) rfl)) rfl ?_
  refine z_iload B 10 rfl 0 rfl ?_
  refine z_iload_n B 11 rfl 2 3 rfl rfl ?_
  obtain ⟨r3, ec, hf⟩ := bd_e hf
  refine z_callN [.ref (a0 + 3), .int v1, .int a2] [] [] X B 12 rfl miX6_put ⟨List.mem_of_getElem? (i := 11) rfl, (iX2_add _ (List.mem_of_getElem? (i := 2) rfl))⟩ (ctX6_put hj (obf_2_4 o_a0) ec) ⟨Nat.le_of_ble_eq_true rfl, Nat.le_of_ble_eq_true rfl⟩ rfl rfl (Nat.le_of_ble_eq_true rfl) rfl ?_
  refine z_aload_n B 13 rfl 0 1 rfl rfl ?_
  refine z_getr 2 5 a0 B 14 rfl o_a0 rfl (iX2_add _ (List.mem_of_getElem? (i := 4) rfl)) rfl ?_
  refine z_iload B 15 rfl 0 rfl ?_
  refine z_iload_n B 16 rfl 3 4 rfl rfl ?_
  obtain ⟨r4, ec, hf⟩ := bd_e hf
  refine z_callN [.ref (a0 + 4), .int v1, .int a3] [] [] X B 17 rfl miX6_put ⟨List.mem_of_getElem? (i := 11) rfl, (iX2_add _ (List.mem_of_getElem? (i := 2) rfl))⟩ (ctX6_put hj (obf_2_5 o_a0) ec) ⟨Nat.le_of_ble_eq_true rfl, Nat.le_of_ble_eq_true rfl⟩ rfl rfl (Nat.le_of_ble_eq_true rfl) rfl ?_
  refine z_aload_n B 18 rfl 0 1 rfl rfl ?_
  refine z_getr 2 6 a0 B 19 rfl o_a0 rfl (iX2_add _ (List.mem_of_getElem? (i := 5) rfl)) rfl ?_
  refine z_iload B 20 rfl 0 rfl ?_
  refine z_iload B 21 rfl 5 rfl ?_
  obtain ⟨r5, ec, hf⟩ := bd_e hf
  refine z_callN [.ref (a0 + 5), .int v1, .int a4] [] [] X B 22 rfl miX6_put ⟨List.mem_of_getElem? (i := 11) rfl, (iX2_add _ (List.mem_of_getElem? (i := 2) rfl))⟩ (ctX6_put hj (obf_2_6 o_a0) ec) ⟨Nat.le_of_ble_eq_true rfl, Nat.le_of_ble_eq_true rfl⟩ rfl rfl (Nat.le_of_ble_eq_true rfl) rfl ?_
  refine z_aload_n B 23 rfl 0 1 rfl rfl ?_
  refine z_getr 2 7 a0 B 24 rfl o_a0 rfl (iX2_add _ (List.mem_of_getElem? (i := 6) rfl)) rfl ?_
  refine z_iload B 25 rfl 0 rfl ?_
  refine z_iload B 26 rfl 6 rfl ?_
  by_cases hc : a5 = 0
  · replace hf := (if_pos hc).symm.trans hf
    refine z_if_eq_t B 27 rfl 62 (by decide) hc ?_
    refine z_iconst 0 B 30 rfl (by decide) ?_
    refine z_sub [(0, .ref a0), (6, .int a6), (7, .int v1)] [1, 7, 0] rfl ?_
    exact f2_add_j63_ok hj X B hQ hr _ _ _ _ _ _ _ o_a0 (obf_2_7 o_a0) hf
  · replace hf := (if_neg hc).symm.trans hf
    refine z_if_eq_f B 27 rfl 62 (by decide) hc ?_
    refine z_iconst 1 B 28 rfl (by decide) ?_
    refine z_goto B 29 rfl 63 (by decide) ?_
    refine z_sub [(0, .ref a0), (6, .int a6), (7, .int v1)] [1, 7, 0] rfl ?_
    exact f2_add_j63_ok hj X B hQ hr _ _ _ _ _ _ _ o_a0 (obf_2_7 o_a0) hf
/-! ZoneCapacity$Offers.addStep(III)I -/
def tbX2_addStep : Tb := [(0, .aload_n 0, 1, 1), (1, .getfield 37, 3, 4), (4, .iload_n 1, 1, 5), (5, .invokestatic 57, 3, 8), (8, .istore 4, 2, 10), (10, .aload_n 0, 1, 11), (11, .getfield 40, 3, 14), (14, .iload_n 1, 1, 15), (15, .iconst 3, 1, 16), (16, .imul, 1, 17), (17, .iload 4, 2, 19), (19, .iadd, 1, 20), (20, .iload_n 2, 1, 21), (21, .invokestatic 53, 3, 24), (24, .aload_n 0, 1, 25), (25, .getfield 43, 3, 28), (28, .iload_n 1, 1, 29), (29, .iconst 3, 1, 30), (30, .imul, 1, 31), (31, .iload 4, 2, 33), (33, .iadd, 1, 34), (34, .iload_n 3, 1, 35), (35, .invokestatic 53, 3, 38), (38, .aload_n 0, 1, 39), (39, .getfield 37, 3, 42), (42, .iload_n 1, 1, 43), (43, .iload 4, 2, 45), (45, .iconst 1, 1, 46), (46, .iadd, 1, 47), (47, .invokestatic 53, 3, 50), (50, .iload 4, 2, 52), (52, .iconst 1, 1, 53), (53, .iadd, 1, 54), (54, .ireturn, 1, 55)]
theorem dtX2_addStep : ∀ q ∈ tbX2_addStep, decode cX2_addStep q.1 = .ok (q.2.1, q.2.2.1) ∧ q.1 + q.2.2.1 = q.2.2.2 := by decide +kernel
theorem miX2_addStep : MI yX2_addStep cX2_addStep 5 (some .int) 3 := ⟨tw_mem (List.mem_of_getElem? (i := 803) (by decide +kernel)) rfl, by decide, by decide +kernel, tw_mem (List.mem_of_getElem? (i := 18) (by decide +kernel)) rfl⟩
abbrev rmX2_addStep : Room := { frames := 1, cells := 0, slots := 0, locals := 22 }
def wX2_addStep : List Cond := [.fieldLink "ZoneCapacity$Offers" 37 "ZoneCapacity$Offers" "steps" "[I", .static yX6_at, .fieldLink "ZoneCapacity$Offers" 40 "ZoneCapacity$Offers" "stepUnits" "[I", .static yX6_put, .fieldLink "ZoneCapacity$Offers" 43 "ZoneCapacity$Offers" "stepPrices" "[I"]
theorem iX2_addStep : ∀ w ∈ wX2_addStep, w ∈ TW := tw_of (ids := [120, 272, 122, 291, 123]) (by decide +kernel)
def f2_addStep (mm : Mem) (a0 : Nat) (a1 : Int32) (a2 : Int32) (a3 : Int32) : Option (Int32 × Mem) := bd (f6_at mm (a0 + 8) a1) (fun r1 => bd (f6_put mm (a0 + 9) ((a1 * (3 : Int32)) + r1) a2) (fun r2 => bd (f6_put r2 (a0 + 10) ((a1 * (3 : Int32)) + r1) a3) (fun r3 => bd (f6_put r3 (a0 + 8) a1 (r1 + (1 : Int32))) (fun r4 => some (r1 + (1 : Int32), r4)))))
theorem ctX2_addStep {l : Launch} {C : Cfg} (hj : Dj C) {mm : Mem} {a0 : Nat} {a1 : Int32} {a2 : Int32} {a3 : Int32} {x : (Int32 × Mem)} (o_a0 : Ob a0 2) (hf : f2_addStep mm a0 a1 a2 a3 = some x) : Ct l C yX2_addStep cX2_addStep 5 (some .int) 1 22 [.ref a0, .int a1, .int a2, .int a3] mm (some (.int x.1)) x.2 := by
  refine Ct.of (tb := tbX2_addStep) hj miX2_addStep.2.1 miX2_addStep.1 dtX2_addStep (Nat.le_of_ble_eq_true rfl) ?_
  intro E B hQ hr X
  unfold f2_addStep at hf
  show G E 5 0 [(0, .ref a0), (1, .int a1), (2, .int a2), (3, .int a3)] [] mm
  refine z_aload_n B 0 rfl 0 0 rfl rfl ?_
  refine z_getr 2 9 a0 B 1 rfl o_a0 rfl (iX2_addStep _ (List.mem_of_getElem? (i := 0) rfl)) rfl ?_
  refine z_iload_n B 2 rfl 1 1 rfl rfl ?_
  obtain ⟨r1, ec, hf⟩ := bd_e hf
  refine z_callN [.ref (a0 + 8), .int a1] [] [.int r1] X B 3 rfl miX6_at ⟨List.mem_of_getElem? (i := 10) rfl, (iX2_addStep _ (List.mem_of_getElem? (i := 1) rfl))⟩ (ctX6_at hj (obf_2_9 o_a0) ec) ⟨Nat.le_of_ble_eq_true rfl, Nat.le_of_ble_eq_true rfl⟩ rfl rfl (Nat.le_of_ble_eq_true rfl) rfl ?_
  refine z_istore [(4, .int r1), (0, .ref a0), (1, .int a1), (2, .int a2), (3, .int a3)] B 4 rfl (by decide) rfl ?_
  refine z_aload_n B 5 rfl 0 1 rfl rfl ?_
  refine z_getr 2 10 a0 B 6 rfl o_a0 rfl (iX2_addStep _ (List.mem_of_getElem? (i := 2) rfl)) rfl ?_
  refine z_iload_n B 7 rfl 1 2 rfl rfl ?_
  refine z_iconst 3 B 8 rfl (by decide) ?_
  refine z_imul B 9 rfl ?_
  refine z_iload B 10 rfl 0 rfl ?_
  refine z_iadd B 11 rfl ?_
  refine z_iload_n B 12 rfl 2 3 rfl rfl ?_
  obtain ⟨r2, ec, hf⟩ := bd_e hf
  refine z_callN [.ref (a0 + 9), .int ((a1 * (3 : Int32)) + r1), .int a2] [] [] X B 13 rfl miX6_put ⟨List.mem_of_getElem? (i := 11) rfl, (iX2_addStep _ (List.mem_of_getElem? (i := 3) rfl))⟩ (ctX6_put hj (obf_2_10 o_a0) ec) ⟨Nat.le_of_ble_eq_true rfl, Nat.le_of_ble_eq_true rfl⟩ rfl rfl (Nat.le_of_ble_eq_true rfl) rfl ?_
  refine z_aload_n B 14 rfl 0 1 rfl rfl ?_
  refine z_getr 2 11 a0 B 15 rfl o_a0 rfl (iX2_addStep _ (List.mem_of_getElem? (i := 4) rfl)) rfl ?_
  refine z_iload_n B 16 rfl 1 2 rfl rfl ?_
  refine z_iconst 3 B 17 rfl (by decide) ?_
  refine z_imul B 18 rfl ?_
  refine z_iload B 19 rfl 0 rfl ?_
  refine z_iadd B 20 rfl ?_
  refine z_iload_n B 21 rfl 3 4 rfl rfl ?_
  obtain ⟨r3, ec, hf⟩ := bd_e hf
  refine z_callN [.ref (a0 + 10), .int ((a1 * (3 : Int32)) + r1), .int a3] [] [] X B 22 rfl miX6_put ⟨List.mem_of_getElem? (i := 11) rfl, (iX2_addStep _ (List.mem_of_getElem? (i := 3) rfl))⟩ (ctX6_put hj (obf_2_11 o_a0) ec) ⟨Nat.le_of_ble_eq_true rfl, Nat.le_of_ble_eq_true rfl⟩ rfl rfl (Nat.le_of_ble_eq_true rfl) rfl ?_
  refine z_aload_n B 23 rfl 0 1 rfl rfl ?_
  refine z_getr 2 9 a0 B 24 rfl o_a0 rfl (iX2_addStep _ (List.mem_of_getElem? (i := 0) rfl)) rfl ?_
  refine z_iload_n B 25 rfl 1 2 rfl rfl ?_
  refine z_iload B 26 rfl 0 rfl ?_
  refine z_iconst 1 B 27 rfl (by decide) ?_
  refine z_iadd B 28 rfl ?_
  obtain ⟨r4, ec, hf⟩ := bd_e hf
  refine z_callN [.ref (a0 + 8), .int a1, .int (r1 + (1 : Int32))] [] [] X B 29 rfl miX6_put ⟨List.mem_of_getElem? (i := 11) rfl, (iX2_addStep _ (List.mem_of_getElem? (i := 3) rfl))⟩ (ctX6_put hj (obf_2_9 o_a0) ec) ⟨Nat.le_of_ble_eq_true rfl, Nat.le_of_ble_eq_true rfl⟩ rfl rfl (Nat.le_of_ble_eq_true rfl) rfl ?_
  refine z_iload B 30 rfl 0 rfl ?_
  refine z_iconst 1 B 31 rfl (by decide) ?_
  refine z_iadd B 32 rfl ?_
  cases hf
  exact z_iret B 33 rfl rfl hQ hr
/-! ZoneCapacity$Offers.dropSteps(I)I -/
def tbX2_dropSteps : Tb := [(0, .aload_n 0, 1, 1), (1, .getfield 37, 3, 4), (4, .iload_n 1, 1, 5), (5, .invokestatic 57, 3, 8), (8, .istore_n 2, 1, 9), (9, .aload_n 0, 1, 10), (10, .getfield 37, 3, 13), (13, .iload_n 1, 1, 14), (14, .iconst 0, 1, 15), (15, .invokestatic 53, 3, 18), (18, .iload_n 2, 1, 19), (19, .ireturn, 1, 20)]
theorem dtX2_dropSteps : ∀ q ∈ tbX2_dropSteps, decode cX2_dropSteps q.1 = .ok (q.2.1, q.2.2.1) ∧ q.1 + q.2.2.1 = q.2.2.2 := by decide +kernel
theorem miX2_dropSteps : MI yX2_dropSteps cX2_dropSteps 3 (some .int) 1 := ⟨tw_mem (List.mem_of_getElem? (i := 304) (by decide +kernel)) rfl, by decide, by decide +kernel, tw_mem (List.mem_of_getElem? (i := 18) (by decide +kernel)) rfl⟩
abbrev rmX2_dropSteps : Room := { frames := 1, cells := 0, slots := 0, locals := 22 }
def wX2_dropSteps : List Cond := [.fieldLink "ZoneCapacity$Offers" 37 "ZoneCapacity$Offers" "steps" "[I", .static yX6_at, .static yX6_put]
theorem iX2_dropSteps : ∀ w ∈ wX2_dropSteps, w ∈ TW := tw_of (ids := [120, 272, 291]) (by decide +kernel)
def f2_dropSteps (mm : Mem) (a0 : Nat) (a1 : Int32) : Option (Int32 × Mem) := bd (f6_at mm (a0 + 8) a1) (fun r1 => bd (f6_put mm (a0 + 8) a1 (0 : Int32)) (fun r2 => some (r1, r2)))
theorem ctX2_dropSteps {l : Launch} {C : Cfg} (hj : Dj C) {mm : Mem} {a0 : Nat} {a1 : Int32} {x : (Int32 × Mem)} (o_a0 : Ob a0 2) (hf : f2_dropSteps mm a0 a1 = some x) : Ct l C yX2_dropSteps cX2_dropSteps 3 (some .int) 1 22 [.ref a0, .int a1] mm (some (.int x.1)) x.2 := by
  refine Ct.of (tb := tbX2_dropSteps) hj miX2_dropSteps.2.1 miX2_dropSteps.1 dtX2_dropSteps (Nat.le_of_ble_eq_true rfl) ?_
  intro E B hQ hr X
  unfold f2_dropSteps at hf
  show G E 3 0 [(0, .ref a0), (1, .int a1)] [] mm
  refine z_aload_n B 0 rfl 0 0 rfl rfl ?_
  refine z_getr 2 9 a0 B 1 rfl o_a0 rfl (iX2_dropSteps _ (List.mem_of_getElem? (i := 0) rfl)) rfl ?_
  refine z_iload_n B 2 rfl 1 1 rfl rfl ?_
  obtain ⟨r1, ec, hf⟩ := bd_e hf
  refine z_callN [.ref (a0 + 8), .int a1] [] [.int r1] X B 3 rfl miX6_at ⟨List.mem_of_getElem? (i := 10) rfl, (iX2_dropSteps _ (List.mem_of_getElem? (i := 1) rfl))⟩ (ctX6_at hj (obf_2_9 o_a0) ec) ⟨Nat.le_of_ble_eq_true rfl, Nat.le_of_ble_eq_true rfl⟩ rfl rfl (Nat.le_of_ble_eq_true rfl) rfl ?_
  refine z_istore_n [(2, .int r1), (0, .ref a0), (1, .int a1)] B 4 rfl 2 rfl (by decide) rfl ?_
  refine z_aload_n B 5 rfl 0 1 rfl rfl ?_
  refine z_getr 2 9 a0 B 6 rfl o_a0 rfl (iX2_dropSteps _ (List.mem_of_getElem? (i := 0) rfl)) rfl ?_
  refine z_iload_n B 7 rfl 1 2 rfl rfl ?_
  refine z_iconst 0 B 8 rfl (by decide) ?_
  obtain ⟨r2, ec, hf⟩ := bd_e hf
  refine z_callN [.ref (a0 + 8), .int a1, .int (0 : Int32)] [] [] X B 9 rfl miX6_put ⟨List.mem_of_getElem? (i := 11) rfl, (iX2_dropSteps _ (List.mem_of_getElem? (i := 2) rfl))⟩ (ctX6_put hj (obf_2_9 o_a0) ec) ⟨Nat.le_of_ble_eq_true rfl, Nat.le_of_ble_eq_true rfl⟩ rfl rfl (Nat.le_of_ble_eq_true rfl) rfl ?_
  refine z_iload_n B 10 rfl 2 0 rfl rfl ?_
  cases hf
  exact z_iret B 11 rfl rfl hQ hr
/-! ZoneCapacity$Offers.lastPrice(I)I -/
def tbX2_lastPrice : Tb := [(0, .aload_n 0, 1, 1), (1, .getfield 37, 3, 4), (4, .iload_n 1, 1, 5), (5, .invokestatic 57, 3, 8), (8, .istore_n 2, 1, 9), (9, .iload_n 2, 1, 10), (10, .ifCond .ne 7, 3, 13), (13, .iconst 0, 1, 14), (14, .goto 17, 3, 17), (17, .aload_n 0, 1, 18), (18, .getfield 43, 3, 21), (21, .iload_n 1, 1, 22), (22, .iconst 3, 1, 23), (23, .imul, 1, 24), (24, .iload_n 2, 1, 25), (25, .iadd, 1, 26), (26, .iconst 1, 1, 27), (27, .isub, 1, 28), (28, .invokestatic 57, 3, 31), (31, .ireturn, 1, 32)]
theorem dtX2_lastPrice : ∀ q ∈ tbX2_lastPrice, decode cX2_lastPrice q.1 = .ok (q.2.1, q.2.2.1) ∧ q.1 + q.2.2.1 = q.2.2.2 := by decide +kernel
theorem miX2_lastPrice : MI yX2_lastPrice cX2_lastPrice 3 (some .int) 1 := ⟨tw_mem (List.mem_of_getElem? (i := 799) (by decide +kernel)) rfl, by decide, by decide +kernel, tw_mem (List.mem_of_getElem? (i := 18) (by decide +kernel)) rfl⟩
abbrev rmX2_lastPrice : Room := { frames := 1, cells := 0, slots := 0, locals := 21 }
def wX2_lastPrice : List Cond := [.fieldLink "ZoneCapacity$Offers" 37 "ZoneCapacity$Offers" "steps" "[I", .static yX6_at, .fieldLink "ZoneCapacity$Offers" 43 "ZoneCapacity$Offers" "stepPrices" "[I"]
theorem iX2_lastPrice : ∀ w ∈ wX2_lastPrice, w ∈ TW := tw_of (ids := [120, 272, 123]) (by decide +kernel)
def f2_lastPrice (mm : Mem) (a0 : Nat) (a1 : Int32) : Option Int32 := bd (f6_at mm (a0 + 8) a1) (fun r1 => if r1 = 0 then some ((0 : Int32)) else bd (f6_at mm (a0 + 10) (((a1 * (3 : Int32)) + r1) - (1 : Int32))) (fun r2 => some (r2)))
theorem ctX2_lastPrice {l : Launch} {C : Cfg} (hj : Dj C) {mm : Mem} {a0 : Nat} {a1 : Int32} {x : Int32} (o_a0 : Ob a0 2) (hf : f2_lastPrice mm a0 a1 = some x) : Ct l C yX2_lastPrice cX2_lastPrice 3 (some .int) 1 21 [.ref a0, .int a1] mm (some (.int x)) mm := by
  refine Ct.of (tb := tbX2_lastPrice) hj miX2_lastPrice.2.1 miX2_lastPrice.1 dtX2_lastPrice (Nat.le_of_ble_eq_true rfl) ?_
  intro E B hQ hr X
  unfold f2_lastPrice at hf
  show G E 3 0 [(0, .ref a0), (1, .int a1)] [] mm
  refine z_aload_n B 0 rfl 0 0 rfl rfl ?_
  refine z_getr 2 9 a0 B 1 rfl o_a0 rfl (iX2_lastPrice _ (List.mem_of_getElem? (i := 0) rfl)) rfl ?_
  refine z_iload_n B 2 rfl 1 1 rfl rfl ?_
  obtain ⟨r1, ec, hf⟩ := bd_e hf
  refine z_callN [.ref (a0 + 8), .int a1] [] [.int r1] X B 3 rfl miX6_at ⟨List.mem_of_getElem? (i := 10) rfl, (iX2_lastPrice _ (List.mem_of_getElem? (i := 1) rfl))⟩ (ctX6_at hj (obf_2_9 o_a0) ec) ⟨Nat.le_of_ble_eq_true rfl, Nat.le_of_ble_eq_true rfl⟩ rfl rfl (Nat.le_of_ble_eq_true rfl) rfl ?_
  refine z_istore_n [(2, .int r1), (0, .ref a0), (1, .int a1)] B 4 rfl 2 rfl (by decide) rfl ?_
  refine z_iload_n B 5 rfl 2 0 rfl rfl ?_
  by_cases hc : r1 = 0
  · replace hf := (if_pos hc).symm.trans hf
    refine z_if_ne_f B 6 rfl 17 (by decide) hc ?_
    refine z_iconst 0 B 7 rfl (by decide) ?_
    refine z_goto B 8 rfl 31 (by decide) ?_
    cases hf
    exact z_iret B 19 rfl rfl hQ hr
  · replace hf := (if_neg hc).symm.trans hf
    refine z_if_ne_t B 6 rfl 17 (by decide) hc ?_
    refine z_aload_n B 9 rfl 0 1 rfl rfl ?_
    refine z_getr 2 11 a0 B 10 rfl o_a0 rfl (iX2_lastPrice _ (List.mem_of_getElem? (i := 2) rfl)) rfl ?_
    refine z_iload_n B 11 rfl 1 2 rfl rfl ?_
    refine z_iconst 3 B 12 rfl (by decide) ?_
    refine z_imul B 13 rfl ?_
    refine z_iload_n B 14 rfl 2 0 rfl rfl ?_
    refine z_iadd B 15 rfl ?_
    refine z_iconst 1 B 16 rfl (by decide) ?_
    refine z_isub B 17 rfl ?_
    obtain ⟨r2, ec, hf⟩ := bd_e hf
    refine z_callN [.ref (a0 + 10), .int (((a1 * (3 : Int32)) + r1) - (1 : Int32))] [] [.int r2] X B 18 rfl miX6_at ⟨List.mem_of_getElem? (i := 10) rfl, (iX2_lastPrice _ (List.mem_of_getElem? (i := 1) rfl))⟩ (ctX6_at hj (obf_2_11 o_a0) ec) ⟨Nat.le_of_ble_eq_true rfl, Nat.le_of_ble_eq_true rfl⟩ rfl rfl (Nat.le_of_ble_eq_true rfl) rfl ?_
    cases hf
    exact z_iret B 19 rfl rfl hQ hr
/-! ZoneCapacity$Offers.changeCeiling(I)Z -/
def tbX2_changeCeiling : Tb := [(0, .aload_n 0, 1, 1), (1, .getfield 9, 3, 4), (4, .iload_n 1, 1, 5), (5, .if_icmp .ne 5, 3, 8), (8, .iconst 0, 1, 9), (9, .ireturn, 1, 10), (10, .aload_n 0, 1, 11), (11, .iload_n 1, 1, 12), (12, .putfield 9, 3, 15), (15, .iconst 1, 1, 16), (16, .ireturn, 1, 17)]
theorem dtX2_changeCeiling : ∀ q ∈ tbX2_changeCeiling, decode cX2_changeCeiling q.1 = .ok (q.2.1, q.2.2.1) ∧ q.1 + q.2.2.1 = q.2.2.2 := by decide +kernel
theorem miX2_changeCeiling : MI yX2_changeCeiling cX2_changeCeiling 2 (some .boolean) 1 := ⟨tw_mem (List.mem_of_getElem? (i := 322) (by decide +kernel)) rfl, by decide, by decide +kernel, tw_mem (List.mem_of_getElem? (i := 18) (by decide +kernel)) rfl⟩
abbrev rmX2_changeCeiling : Room := { frames := 0, cells := 0, slots := 0, locals := 0 }
def wX2_changeCeiling : List Cond := [.fieldLink "ZoneCapacity$Offers" 9 "ZoneCapacity$Offers" "ceiling" "I"]
theorem iX2_changeCeiling : ∀ w ∈ wX2_changeCeiling, w ∈ TW := tw_of (ids := [108]) (by decide +kernel)
def f2_changeCeiling (mm : Mem) (a0 : Nat) (a1 : Int32) : Option (Int32 × Mem) := if (mm a0 1) = a1 then some ((0 : Int32), mm) else nm (up2 mm a0 1 a1) (fun m1 => some ((1 : Int32), m1))
theorem ctX2_changeCeiling {l : Launch} {C : Cfg} (hj : Dj C) {mm : Mem} {a0 : Nat} {a1 : Int32} {x : (Int32 × Mem)} (o_a0 : Ob a0 2) (hf : f2_changeCeiling mm a0 a1 = some x) : Ct l C yX2_changeCeiling cX2_changeCeiling 2 (some .boolean) 0 0 [.ref a0, .int a1] mm (some (.int x.1)) x.2 := by
  refine Ct.of (tb := tbX2_changeCeiling) hj miX2_changeCeiling.2.1 miX2_changeCeiling.1 dtX2_changeCeiling (Nat.le_of_ble_eq_true rfl) ?_
  intro E B hQ hr X
  unfold f2_changeCeiling at hf
  show G E 2 0 [(0, .ref a0), (1, .int a1)] [] mm
  refine z_aload_n B 0 rfl 0 0 rfl rfl ?_
  refine z_geti 2 1 a0 B 1 rfl o_a0 rfl (iX2_changeCeiling _ (List.mem_of_getElem? (i := 0) rfl)) rfl ?_
  refine z_iload_n B 2 rfl 1 1 rfl rfl ?_
  by_cases hc : (mm a0 1) = a1
  · replace hf := (if_pos hc).symm.trans hf
    refine z_icmp_ne_f B 3 rfl 10 (by decide) hc ?_
    refine z_iconst 0 B 4 rfl (by decide) ?_
    cases hf
    exact z_iret B 5 rfl (by decide) hQ hr
  · replace hf := (if_neg hc).symm.trans hf
    refine z_icmp_ne_t B 3 rfl 10 (by decide) hc ?_
    refine z_aload_n B 6 rfl 0 0 rfl rfl ?_
    refine z_iload_n B 7 rfl 1 1 rfl rfl ?_
    refine z_puti 2 1 a0 B 8 rfl o_a0 rfl (iX2_changeCeiling _ (List.mem_of_getElem? (i := 0) rfl)) rfl (ty := .int) (by decide) rfl rfl rfl ?_
    obtain ⟨m1, ex, hf⟩ := nm_x hf
    refine z_mem ex ?_
    refine z_iconst 1 B 9 rfl (by decide) ?_
    cases hf
    exact z_iret B 10 rfl (by decide) hQ hr
/-! ZoneCapacity.within(III)Z -/
def tbX6_within : Tb := [(0, .iload_n 0, 1, 1), (1, .iload_n 1, 1, 2), (2, .if_icmp .lt 12, 3, 5), (5, .iload_n 0, 1, 6), (6, .iload_n 2, 1, 7), (7, .if_icmp .gt 7, 3, 10), (10, .iconst 1, 1, 11), (11, .goto 4, 3, 14), (14, .iconst 0, 1, 15), (15, .ireturn, 1, 16)]
theorem dtX6_within : ∀ q ∈ tbX6_within, decode cX6_within q.1 = .ok (q.2.1, q.2.2.1) ∧ q.1 + q.2.2.1 = q.2.2.2 := by decide +kernel
theorem miX6_within : MI yX6_within cX6_within 3 (some .boolean) 3 := ⟨tw_mem (List.mem_of_getElem? (i := 281) (by decide +kernel)) rfl, by decide, by decide +kernel, tw_mem (List.mem_of_getElem? (i := 14) (by decide +kernel)) rfl⟩
abbrev rmX6_within : Room := { frames := 0, cells := 0, slots := 0, locals := 0 }
def f6_within (mm : Mem) (a0 : Int32) (a1 : Int32) (a2 : Int32) : Option Int32 := if a0 < a1 then some ((0 : Int32)) else if a2 < a0 then some ((0 : Int32)) else some ((1 : Int32))
theorem ctX6_within {l : Launch} {C : Cfg} (hj : Dj C) {mm : Mem} {a0 : Int32} {a1 : Int32} {a2 : Int32} {x : Int32} (hf : f6_within mm a0 a1 a2 = some x) : Ct l C yX6_within cX6_within 3 (some .boolean) 0 0 [.int a0, .int a1, .int a2] mm (some (.int x)) mm := by
  refine Ct.of (tb := tbX6_within) hj miX6_within.2.1 miX6_within.1 dtX6_within (Nat.le_of_ble_eq_true rfl) ?_
  intro E B hQ hr X
  unfold f6_within at hf
  show G E 3 0 [(0, .int a0), (1, .int a1), (2, .int a2)] [] mm
  refine z_iload_n B 0 rfl 0 0 rfl rfl ?_
  refine z_iload_n B 1 rfl 1 1 rfl rfl ?_
  by_cases hc : a0 < a1
  · replace hf := (if_pos hc).symm.trans hf
    refine z_icmp_lt_t B 2 rfl 14 (by decide) hc ?_
    refine z_iconst 0 B 8 rfl (by decide) ?_
    cases hf
    exact z_iret B 9 rfl (by decide) hQ hr
  · replace hf := (if_neg hc).symm.trans hf
    refine z_icmp_lt_f B 2 rfl 14 (by decide) hc ?_
    refine z_iload_n B 3 rfl 0 0 rfl rfl ?_
    refine z_iload_n B 4 rfl 2 2 rfl rfl ?_
    by_cases hc : a2 < a0
    · replace hf := (if_pos hc).symm.trans hf
      refine z_icmp_gt_t B 5 rfl 14 (by decide) hc ?_
      refine z_iconst 0 B 8 rfl (by decide) ?_
      cases hf
      exact z_iret B 9 rfl (by decide) hQ hr
    · replace hf := (if_neg hc).symm.trans hf
      refine z_icmp_gt_f B 5 rfl 14 (by decide) hc ?_
      refine z_iconst 1 B 6 rfl (by decide) ?_
      refine z_goto B 7 rfl 15 (by decide) ?_
      cases hf
      exact z_iret B 9 rfl (by decide) hQ hr
/-! ZoneCapacity$Offers.hasLine(II)Z -/
def tbX2_hasLine : Tb := [(0, .aload_n 0, 1, 1), (1, .iload_n 1, 1, 2), (2, .invokevirtual 65, 3, 5), (5, .ifCond .eq 25, 3, 8), (8, .iload_n 2, 1, 9), (9, .iconst 0, 1, 10), (10, .iconst 3, 1, 11), (11, .invokestatic 69, 3, 14), (14, .ifCond .eq 16, 3, 17), (17, .aload_n 0, 1, 18), (18, .iload_n 1, 1, 19), (19, .iload_n 2, 1, 20), (20, .invokevirtual 73, 3, 23), (23, .ifCond .le 7, 3, 26), (26, .iconst 1, 1, 27), (27, .goto 4, 3, 30), (30, .iconst 0, 1, 31), (31, .ireturn, 1, 32)]
theorem dtX2_hasLine : ∀ q ∈ tbX2_hasLine, decode cX2_hasLine q.1 = .ok (q.2.1, q.2.2.1) ∧ q.1 + q.2.2.1 = q.2.2.2 := by decide +kernel
theorem miX2_hasLine : MI yX2_hasLine cX2_hasLine 3 (some .boolean) 2 := ⟨tw_mem (List.mem_of_getElem? (i := 418) (by decide +kernel)) rfl, by decide, by decide +kernel, tw_mem (List.mem_of_getElem? (i := 18) (by decide +kernel)) rfl⟩
abbrev rmX2_hasLine : Room := { frames := 3, cells := 0, slots := 0, locals := 66 }
def wX2_hasLine : List Cond := [.methodLink "ZoneCapacity$Offers" 65 yX2_has, .instanceMethod yX2_has, .selects "ZoneCapacity$Offers" yX2_has yX2_has, .static yX6_within, .methodLink "ZoneCapacity$Offers" 73 yX2_unitsOf, .instanceMethod yX2_unitsOf, .selects "ZoneCapacity$Offers" yX2_unitsOf yX2_unitsOf]
theorem iX2_hasLine : ∀ w ∈ wX2_hasLine, w ∈ TW := tw_of (ids := [419, 298, 299, 280, 421, 341, 342]) (by decide +kernel)
def f2_hasLine (mm : Mem) (a0 : Nat) (a1 : Int32) (a2 : Int32) : Option Int32 := bd (f2_has mm a0 a1) (fun r1 => if r1 = 0 then some ((0 : Int32)) else bd (f6_within mm a2 (0 : Int32) (3 : Int32)) (fun r2 => if r2 = 0 then some ((0 : Int32)) else bd (f2_unitsOf mm a0 a1 a2) (fun r3 => if 0 < r3 then some ((1 : Int32)) else some ((0 : Int32)))))
theorem ctX2_hasLine {l : Launch} {C : Cfg} (hj : Dj C) {mm : Mem} {a0 : Nat} {a1 : Int32} {a2 : Int32} {x : Int32} (o_a0 : Ob a0 2) (hf : f2_hasLine mm a0 a1 a2 = some x) : Ct l C yX2_hasLine cX2_hasLine 3 (some .boolean) 3 66 [.ref a0, .int a1, .int a2] mm (some (.int x)) mm := by
  refine Ct.of (tb := tbX2_hasLine) hj miX2_hasLine.2.1 miX2_hasLine.1 dtX2_hasLine (Nat.le_of_ble_eq_true rfl) ?_
  intro E B hQ hr X
  unfold f2_hasLine at hf
  show G E 3 0 [(0, .ref a0), (1, .int a1), (2, .int a2)] [] mm
  refine z_aload_n B 0 rfl 0 0 rfl rfl ?_
  refine z_iload_n B 1 rfl 1 1 rfl rfl ?_
  obtain ⟨r1, ec, hf⟩ := bd_e hf
  refine z_callV a0 2 [.int a1] [] [.int r1] X B 2 rfl (by decide) o_a0 rfl rfl miX2_has ⟨(iX2_hasLine _ (List.mem_of_getElem? (i := 0) rfl)), (iX2_hasLine _ (List.mem_of_getElem? (i := 1) rfl)), (iX2_hasLine _ (List.mem_of_getElem? (i := 2) rfl))⟩ (ctX2_has hj o_a0 ec) ⟨Nat.le_of_ble_eq_true rfl, Nat.le_of_ble_eq_true rfl⟩ rfl rfl (Nat.le_of_ble_eq_true rfl) rfl ?_
  by_cases hc : r1 = 0
  · replace hf := (if_pos hc).symm.trans hf
    refine z_if_eq_t B 3 rfl 30 (by decide) hc ?_
    refine z_iconst 0 B 16 rfl (by decide) ?_
    cases hf
    exact z_iret B 17 rfl (by decide) hQ hr
  · replace hf := (if_neg hc).symm.trans hf
    refine z_if_eq_f B 3 rfl 30 (by decide) hc ?_
    refine z_iload_n B 4 rfl 2 2 rfl rfl ?_
    refine z_iconst 0 B 5 rfl (by decide) ?_
    refine z_iconst 3 B 6 rfl (by decide) ?_
    obtain ⟨r2, ec, hf⟩ := bd_e hf
    refine z_callN [.int a2, .int (0 : Int32), .int (3 : Int32)] [] [.int r2] X B 7 rfl miX6_within ⟨List.mem_of_getElem? (i := 14) rfl, (iX2_hasLine _ (List.mem_of_getElem? (i := 3) rfl))⟩ (ctX6_within hj ec) ⟨Nat.le_of_ble_eq_true rfl, Nat.le_of_ble_eq_true rfl⟩ rfl rfl (Nat.le_of_ble_eq_true rfl) rfl ?_
    by_cases hc : r2 = 0
    · replace hf := (if_pos hc).symm.trans hf
      refine z_if_eq_t B 8 rfl 30 (by decide) hc ?_
      refine z_iconst 0 B 16 rfl (by decide) ?_
      cases hf
      exact z_iret B 17 rfl (by decide) hQ hr
    · replace hf := (if_neg hc).symm.trans hf
      refine z_if_eq_f B 8 rfl 30 (by decide) hc ?_
      refine z_aload_n B 9 rfl 0 0 rfl rfl ?_
      refine z_iload_n B 10 rfl 1 1 rfl rfl ?_
      refine z_iload_n B 11 rfl 2 2 rfl rfl ?_
      obtain ⟨r3, ec, hf⟩ := bd_e hf
      refine z_callV a0 2 [.int a1, .int a2] [] [.int r3] X B 12 rfl (by decide) o_a0 rfl rfl miX2_unitsOf ⟨(iX2_hasLine _ (List.mem_of_getElem? (i := 4) rfl)), (iX2_hasLine _ (List.mem_of_getElem? (i := 5) rfl)), (iX2_hasLine _ (List.mem_of_getElem? (i := 6) rfl))⟩ (ctX2_unitsOf hj o_a0 ec) ⟨Nat.le_of_ble_eq_true rfl, Nat.le_of_ble_eq_true rfl⟩ rfl rfl (Nat.le_of_ble_eq_true rfl) rfl ?_
      by_cases hc : 0 < r3
      · replace hf := (if_pos hc).symm.trans hf
        refine z_if_le_f B 13 rfl 30 (by decide) hc ?_
        refine z_iconst 1 B 14 rfl (by decide) ?_
        refine z_goto B 15 rfl 31 (by decide) ?_
        cases hf
        exact z_iret B 17 rfl (by decide) hQ hr
      · replace hf := (if_neg hc).symm.trans hf
        refine z_if_le_t B 13 rfl 30 (by decide) hc ?_
        refine z_iconst 0 B 16 rfl (by decide) ?_
        cases hf
        exact z_iret B 17 rfl (by decide) hQ hr
/-! ZoneCapacity$Zones.has(I)Z -/
def tbX5_has : Tb := [(0, .iload_n 1, 1, 1), (1, .ifCond .lt 15, 3, 4), (4, .iload_n 1, 1, 5), (5, .aload_n 0, 1, 6), (6, .getfield 9, 3, 9), (9, .if_icmp .ge 7, 3, 12), (12, .iconst 1, 1, 13), (13, .goto 4, 3, 16), (16, .iconst 0, 1, 17), (17, .ireturn, 1, 18)]
theorem dtX5_has : ∀ q ∈ tbX5_has, decode cX5_has q.1 = .ok (q.2.1, q.2.2.1) ∧ q.1 + q.2.2.1 = q.2.2.2 := by decide +kernel
theorem miX5_has : MI yX5_has cX5_has 2 (some .boolean) 1 := ⟨tw_mem (List.mem_of_getElem? (i := 270) (by decide +kernel)) rfl, by decide, by decide +kernel, tw_mem (List.mem_of_getElem? (i := 17) (by decide +kernel)) rfl⟩
abbrev rmX5_has : Room := { frames := 0, cells := 0, slots := 0, locals := 0 }
def wX5_has : List Cond := [.fieldLink "ZoneCapacity$Zones" 9 "ZoneCapacity$Zones" "many" "I"]
theorem iX5_has : ∀ w ∈ wX5_has, w ∈ TW := tw_of (ids := [68]) (by decide +kernel)
def f5_has (mm : Mem) (a0 : Nat) (a1 : Int32) : Option Int32 := if a1 < 0 then some ((0 : Int32)) else if a1 < (mm a0 0) then some ((1 : Int32)) else some ((0 : Int32))
theorem ctX5_has {l : Launch} {C : Cfg} (hj : Dj C) {mm : Mem} {a0 : Nat} {a1 : Int32} {x : Int32} (o_a0 : Ob a0 5) (hf : f5_has mm a0 a1 = some x) : Ct l C yX5_has cX5_has 2 (some .boolean) 0 0 [.ref a0, .int a1] mm (some (.int x)) mm := by
  refine Ct.of (tb := tbX5_has) hj miX5_has.2.1 miX5_has.1 dtX5_has (Nat.le_of_ble_eq_true rfl) ?_
  intro E B hQ hr X
  unfold f5_has at hf
  show G E 2 0 [(0, .ref a0), (1, .int a1)] [] mm
  refine z_iload_n B 0 rfl 1 1 rfl rfl ?_
  by_cases hc : a1 < 0
  · replace hf := (if_pos hc).symm.trans hf
    refine z_if_lt_t B 1 rfl 16 (by decide) hc ?_
    refine z_iconst 0 B 8 rfl (by decide) ?_
    cases hf
    exact z_iret B 9 rfl (by decide) hQ hr
  · replace hf := (if_neg hc).symm.trans hf
    refine z_if_lt_f B 1 rfl 16 (by decide) hc ?_
    refine z_iload_n B 2 rfl 1 1 rfl rfl ?_
    refine z_aload_n B 3 rfl 0 0 rfl rfl ?_
    refine z_geti 5 0 a0 B 4 rfl o_a0 rfl (iX5_has _ (List.mem_of_getElem? (i := 0) rfl)) rfl ?_
    by_cases hc : a1 < (mm a0 0)
    · replace hf := (if_pos hc).symm.trans hf
      refine z_icmp_ge_f B 5 rfl 16 (by decide) hc ?_
      refine z_iconst 1 B 6 rfl (by decide) ?_
      refine z_goto B 7 rfl 17 (by decide) ?_
      cases hf
      exact z_iret B 9 rfl (by decide) hQ hr
    · replace hf := (if_neg hc).symm.trans hf
      refine z_icmp_ge_t B 5 rfl 16 (by decide) hc ?_
      refine z_iconst 0 B 8 rfl (by decide) ?_
      cases hf
      exact z_iret B 9 rfl (by decide) hQ hr
/-! ZoneCapacity$Zones.hasInner(I)Z -/
def tbX5_hasInner : Tb := [(0, .iload_n 1, 1, 1), (1, .ifCond .eq 15, 3, 4), (4, .aload_n 0, 1, 5), (5, .iload_n 1, 1, 6), (6, .invokevirtual 38, 3, 9), (9, .ifCond .eq 7, 3, 12), (12, .iconst 1, 1, 13), (13, .goto 4, 3, 16), (16, .iconst 0, 1, 17), (17, .ireturn, 1, 18)]
theorem dtX5_hasInner : ∀ q ∈ tbX5_hasInner, decode cX5_hasInner q.1 = .ok (q.2.1, q.2.2.1) ∧ q.1 + q.2.2.1 = q.2.2.2 := by decide +kernel
theorem miX5_hasInner : MI yX5_hasInner cX5_hasInner 2 (some .boolean) 1 := ⟨tw_mem (List.mem_of_getElem? (i := 326) (by decide +kernel)) rfl, by decide, by decide +kernel, tw_mem (List.mem_of_getElem? (i := 17) (by decide +kernel)) rfl⟩
abbrev rmX5_hasInner : Room := { frames := 1, cells := 0, slots := 0, locals := 21 }
def wX5_hasInner : List Cond := [.methodLink "ZoneCapacity$Zones" 38 yX5_has, .instanceMethod yX5_has, .selects "ZoneCapacity$Zones" yX5_has yX5_has]
theorem iX5_hasInner : ∀ w ∈ wX5_hasInner, w ∈ TW := tw_of (ids := [327, 268, 269]) (by decide +kernel)
def f5_hasInner (mm : Mem) (a0 : Nat) (a1 : Int32) : Option Int32 := if a1 = 0 then some ((0 : Int32)) else bd (f5_has mm a0 a1) (fun r1 => if r1 = 0 then some ((0 : Int32)) else some ((1 : Int32)))
theorem ctX5_hasInner {l : Launch} {C : Cfg} (hj : Dj C) {mm : Mem} {a0 : Nat} {a1 : Int32} {x : Int32} (o_a0 : Ob a0 5) (hf : f5_hasInner mm a0 a1 = some x) : Ct l C yX5_hasInner cX5_hasInner 2 (some .boolean) 1 21 [.ref a0, .int a1] mm (some (.int x)) mm := by
  refine Ct.of (tb := tbX5_hasInner) hj miX5_hasInner.2.1 miX5_hasInner.1 dtX5_hasInner (Nat.le_of_ble_eq_true rfl) ?_
  intro E B hQ hr X
  unfold f5_hasInner at hf
  show G E 2 0 [(0, .ref a0), (1, .int a1)] [] mm
  refine z_iload_n B 0 rfl 1 1 rfl rfl ?_
  by_cases hc : a1 = 0
  · replace hf := (if_pos hc).symm.trans hf
    refine z_if_eq_t B 1 rfl 16 (by decide) hc ?_
    refine z_iconst 0 B 8 rfl (by decide) ?_
    cases hf
    exact z_iret B 9 rfl (by decide) hQ hr
  · replace hf := (if_neg hc).symm.trans hf
    refine z_if_eq_f B 1 rfl 16 (by decide) hc ?_
    refine z_aload_n B 2 rfl 0 0 rfl rfl ?_
    refine z_iload_n B 3 rfl 1 1 rfl rfl ?_
    obtain ⟨r1, ec, hf⟩ := bd_e hf
    refine z_callV a0 5 [.int a1] [] [.int r1] X B 4 rfl (by decide) o_a0 rfl rfl miX5_has ⟨(iX5_hasInner _ (List.mem_of_getElem? (i := 0) rfl)), (iX5_hasInner _ (List.mem_of_getElem? (i := 1) rfl)), (iX5_hasInner _ (List.mem_of_getElem? (i := 2) rfl))⟩ (ctX5_has hj o_a0 ec) ⟨Nat.le_of_ble_eq_true rfl, Nat.le_of_ble_eq_true rfl⟩ rfl rfl (Nat.le_of_ble_eq_true rfl) rfl ?_
    by_cases hc : r1 = 0
    · replace hf := (if_pos hc).symm.trans hf
      refine z_if_eq_t B 5 rfl 16 (by decide) hc ?_
      refine z_iconst 0 B 8 rfl (by decide) ?_
      cases hf
      exact z_iret B 9 rfl (by decide) hQ hr
    · replace hf := (if_neg hc).symm.trans hf
      refine z_if_eq_f B 5 rfl 16 (by decide) hc ?_
      refine z_iconst 1 B 6 rfl (by decide) ?_
      refine z_goto B 7 rfl 17 (by decide) ?_
      cases hf
      exact z_iret B 9 rfl (by decide) hQ hr
/-! ZoneCapacity$Zones.add(III)I -/
def tbX5_add : Tb := [(0, .aload_n 0, 1, 1), (1, .getfield 9, 3, 4), (4, .istore 4, 2, 6), (6, .aload_n 0, 1, 7), (7, .getfield 15, 3, 10), (10, .iload 4, 2, 12), (12, .iload_n 1, 1, 13), (13, .invokestatic 42, 3, 16), (16, .aload_n 0, 1, 17), (17, .getfield 19, 3, 20), (20, .iload 4, 2, 22), (22, .iload_n 2, 1, 23), (23, .invokestatic 42, 3, 26), (26, .aload_n 0, 1, 27), (27, .getfield 22, 3, 30), (30, .iload 4, 2, 32), (32, .iload_n 3, 1, 33), (33, .invokestatic 42, 3, 36), (36, .aload_n 0, 1, 37), (37, .getfield 25, 3, 40), (40, .iload 4, 2, 42), (42, .iconst 0, 1, 43), (43, .invokestatic 42, 3, 46), (46, .aload_n 0, 1, 47), (47, .iload 4, 2, 49), (49, .iconst 1, 1, 50), (50, .iadd, 1, 51), (51, .putfield 9, 3, 54), (54, .iload 4, 2, 56), (56, .ireturn, 1, 57)]
theorem dtX5_add : ∀ q ∈ tbX5_add, decode cX5_add q.1 = .ok (q.2.1, q.2.2.1) ∧ q.1 + q.2.2.1 = q.2.2.2 := by decide +kernel
theorem miX5_add : MI yX5_add cX5_add 5 (some .int) 3 := ⟨tw_mem (List.mem_of_getElem? (i := 596) (by decide +kernel)) rfl, by decide, by decide +kernel, tw_mem (List.mem_of_getElem? (i := 17) (by decide +kernel)) rfl⟩
abbrev rmX5_add : Room := { frames := 1, cells := 0, slots := 0, locals := 22 }
def wX5_add : List Cond := [.fieldLink "ZoneCapacity$Zones" 9 "ZoneCapacity$Zones" "many" "I", .fieldLink "ZoneCapacity$Zones" 15 "ZoneCapacity$Zones" "outer" "[I", .static yX6_put, .fieldLink "ZoneCapacity$Zones" 19 "ZoneCapacity$Zones" "in" "[I", .fieldLink "ZoneCapacity$Zones" 22 "ZoneCapacity$Zones" "out" "[I", .fieldLink "ZoneCapacity$Zones" 25 "ZoneCapacity$Zones" "points" "[I"]
theorem iX5_add : ∀ w ∈ wX5_add, w ∈ TW := tw_of (ids := [68, 71, 291, 73, 76, 79]) (by decide +kernel)
def f5_add (mm : Mem) (a0 : Nat) (a1 : Int32) (a2 : Int32) (a3 : Int32) : Option (Int32 × Mem) := nm (mm a0 0) (fun v1 => bd (f6_put mm (a0 + 1) v1 a1) (fun r2 => bd (f6_put r2 (a0 + 2) v1 a2) (fun r3 => bd (f6_put r3 (a0 + 3) v1 a3) (fun r4 => bd (f6_put r4 (a0 + 4) v1 (0 : Int32)) (fun r5 => nm (up2 r5 a0 0 (v1 + (1 : Int32))) (fun m6 => some (v1, m6)))))))
theorem ctX5_add {l : Launch} {C : Cfg} (hj : Dj C) {mm : Mem} {a0 : Nat} {a1 : Int32} {a2 : Int32} {a3 : Int32} {x : (Int32 × Mem)} (o_a0 : Ob a0 5) (hf : f5_add mm a0 a1 a2 a3 = some x) : Ct l C yX5_add cX5_add 5 (some .int) 1 22 [.ref a0, .int a1, .int a2, .int a3] mm (some (.int x.1)) x.2 := by
  refine Ct.of (tb := tbX5_add) hj miX5_add.2.1 miX5_add.1 dtX5_add (Nat.le_of_ble_eq_true rfl) ?_
  intro E B hQ hr X
  unfold f5_add at hf
  show G E 5 0 [(0, .ref a0), (1, .int a1), (2, .int a2), (3, .int a3)] [] mm
  refine z_aload_n B 0 rfl 0 0 rfl rfl ?_
  refine z_geti 5 0 a0 B 1 rfl o_a0 rfl (iX5_add _ (List.mem_of_getElem? (i := 0) rfl)) rfl ?_
  obtain ⟨v1, ex, hf⟩ := nm_x hf
  refine z_top ex ?_
  refine z_istore [(4, .int v1), (0, .ref a0), (1, .int a1), (2, .int a2), (3, .int a3)] B 2 rfl (by decide) rfl ?_
  refine z_aload_n B 3 rfl 0 1 rfl rfl ?_
  refine z_getr 5 1 a0 B 4 rfl o_a0 rfl (iX5_add _ (List.mem_of_getElem? (i := 1) rfl)) rfl ?_
  refine z_iload B 5 rfl 0 rfl ?_
  refine z_iload_n B 6 rfl 1 2 rfl rfl ?_
  obtain ⟨r2, ec, hf⟩ := bd_e hf
  refine z_callN [.ref (a0 + 1), .int v1, .int a1] [] [] X B 7 rfl miX6_put ⟨List.mem_of_getElem? (i := 9) rfl, (iX5_add _ (List.mem_of_getElem? (i := 2) rfl))⟩ (ctX6_put hj (obf_5_1 o_a0) ec) ⟨Nat.le_of_ble_eq_true rfl, Nat.le_of_ble_eq_true rfl⟩ rfl rfl (Nat.le_of_ble_eq_true rfl) rfl ?_
  refine z_aload_n B 8 rfl 0 1 rfl rfl ?_
  refine z_getr 5 2 a0 B 9 rfl o_a0 rfl (iX5_add _ (List.mem_of_getElem? (i := 3) rfl)) rfl ?_
  refine z_iload B 10 rfl 0 rfl ?_
  refine z_iload_n B 11 rfl 2 3 rfl rfl ?_
  obtain ⟨r3, ec, hf⟩ := bd_e hf
  refine z_callN [.ref (a0 + 2), .int v1, .int a2] [] [] X B 12 rfl miX6_put ⟨List.mem_of_getElem? (i := 9) rfl, (iX5_add _ (List.mem_of_getElem? (i := 2) rfl))⟩ (ctX6_put hj (obf_5_2 o_a0) ec) ⟨Nat.le_of_ble_eq_true rfl, Nat.le_of_ble_eq_true rfl⟩ rfl rfl (Nat.le_of_ble_eq_true rfl) rfl ?_
  refine z_aload_n B 13 rfl 0 1 rfl rfl ?_
  refine z_getr 5 3 a0 B 14 rfl o_a0 rfl (iX5_add _ (List.mem_of_getElem? (i := 4) rfl)) rfl ?_
  refine z_iload B 15 rfl 0 rfl ?_
  refine z_iload_n B 16 rfl 3 4 rfl rfl ?_
  obtain ⟨r4, ec, hf⟩ := bd_e hf
  refine z_callN [.ref (a0 + 3), .int v1, .int a3] [] [] X B 17 rfl miX6_put ⟨List.mem_of_getElem? (i := 9) rfl, (iX5_add _ (List.mem_of_getElem? (i := 2) rfl))⟩ (ctX6_put hj (obf_5_3 o_a0) ec) ⟨Nat.le_of_ble_eq_true rfl, Nat.le_of_ble_eq_true rfl⟩ rfl rfl (Nat.le_of_ble_eq_true rfl) rfl ?_
  refine z_aload_n B 18 rfl 0 1 rfl rfl ?_
  refine z_getr 5 4 a0 B 19 rfl o_a0 rfl (iX5_add _ (List.mem_of_getElem? (i := 5) rfl)) rfl ?_
  refine z_iload B 20 rfl 0 rfl ?_
  refine z_iconst 0 B 21 rfl (by decide) ?_
  obtain ⟨r5, ec, hf⟩ := bd_e hf
  refine z_callN [.ref (a0 + 4), .int v1, .int (0 : Int32)] [] [] X B 22 rfl miX6_put ⟨List.mem_of_getElem? (i := 9) rfl, (iX5_add _ (List.mem_of_getElem? (i := 2) rfl))⟩ (ctX6_put hj (obf_5_4 o_a0) ec) ⟨Nat.le_of_ble_eq_true rfl, Nat.le_of_ble_eq_true rfl⟩ rfl rfl (Nat.le_of_ble_eq_true rfl) rfl ?_
  refine z_aload_n B 23 rfl 0 1 rfl rfl ?_
  refine z_iload B 24 rfl 0 rfl ?_
  refine z_iconst 1 B 25 rfl (by decide) ?_
  refine z_iadd B 26 rfl ?_
  refine z_puti 5 0 a0 B 27 rfl o_a0 rfl (iX5_add _ (List.mem_of_getElem? (i := 0) rfl)) rfl (ty := .int) (by decide) rfl rfl rfl ?_
  obtain ⟨m6, ex, hf⟩ := nm_x hf
  refine z_mem ex ?_
  refine z_iload B 28 rfl 0 rfl ?_
  cases hf
  exact z_iret B 29 rfl rfl hQ hr
/-! ZoneCapacity$Zones.addPoint(III)I -/
def tbX5_addPoint : Tb := [(0, .aload_n 0, 1, 1), (1, .getfield 25, 3, 4), (4, .iload_n 1, 1, 5), (5, .invokestatic 46, 3, 8), (8, .istore 4, 2, 10), (10, .aload_n 0, 1, 11), (11, .getfield 28, 3, 14), (14, .iload_n 1, 1, 15), (15, .iconst 4, 1, 16), (16, .imul, 1, 17), (17, .iload 4, 2, 19), (19, .iadd, 1, 20), (20, .iload_n 2, 1, 21), (21, .invokestatic 42, 3, 24), (24, .aload_n 0, 1, 25), (25, .getfield 31, 3, 28), (28, .iload_n 1, 1, 29), (29, .iconst 4, 1, 30), (30, .imul, 1, 31), (31, .iload 4, 2, 33), (33, .iadd, 1, 34), (34, .iload_n 3, 1, 35), (35, .invokestatic 42, 3, 38), (38, .aload_n 0, 1, 39), (39, .getfield 25, 3, 42), (42, .iload_n 1, 1, 43), (43, .iload 4, 2, 45), (45, .iconst 1, 1, 46), (46, .iadd, 1, 47), (47, .invokestatic 42, 3, 50), (50, .iload 4, 2, 52), (52, .iconst 1, 1, 53), (53, .iadd, 1, 54), (54, .ireturn, 1, 55)]
theorem dtX5_addPoint : ∀ q ∈ tbX5_addPoint, decode cX5_addPoint q.1 = .ok (q.2.1, q.2.2.1) ∧ q.1 + q.2.2.1 = q.2.2.2 := by decide +kernel
theorem miX5_addPoint : MI yX5_addPoint cX5_addPoint 5 (some .int) 3 := ⟨tw_mem (List.mem_of_getElem? (i := 289) (by decide +kernel)) rfl, by decide, by decide +kernel, tw_mem (List.mem_of_getElem? (i := 17) (by decide +kernel)) rfl⟩
abbrev rmX5_addPoint : Room := { frames := 1, cells := 0, slots := 0, locals := 22 }
def wX5_addPoint : List Cond := [.fieldLink "ZoneCapacity$Zones" 25 "ZoneCapacity$Zones" "points" "[I", .static yX6_at, .fieldLink "ZoneCapacity$Zones" 28 "ZoneCapacity$Zones" "pointUnits" "[I", .static yX6_put, .fieldLink "ZoneCapacity$Zones" 31 "ZoneCapacity$Zones" "pointPrices" "[I"]
theorem iX5_addPoint : ∀ w ∈ wX5_addPoint, w ∈ TW := tw_of (ids := [79, 272, 81, 291, 82]) (by decide +kernel)
def f5_addPoint (mm : Mem) (a0 : Nat) (a1 : Int32) (a2 : Int32) (a3 : Int32) : Option (Int32 × Mem) := bd (f6_at mm (a0 + 4) a1) (fun r1 => bd (f6_put mm (a0 + 5) ((a1 * (4 : Int32)) + r1) a2) (fun r2 => bd (f6_put r2 (a0 + 6) ((a1 * (4 : Int32)) + r1) a3) (fun r3 => bd (f6_put r3 (a0 + 4) a1 (r1 + (1 : Int32))) (fun r4 => some (r1 + (1 : Int32), r4)))))
theorem ctX5_addPoint {l : Launch} {C : Cfg} (hj : Dj C) {mm : Mem} {a0 : Nat} {a1 : Int32} {a2 : Int32} {a3 : Int32} {x : (Int32 × Mem)} (o_a0 : Ob a0 5) (hf : f5_addPoint mm a0 a1 a2 a3 = some x) : Ct l C yX5_addPoint cX5_addPoint 5 (some .int) 1 22 [.ref a0, .int a1, .int a2, .int a3] mm (some (.int x.1)) x.2 := by
  refine Ct.of (tb := tbX5_addPoint) hj miX5_addPoint.2.1 miX5_addPoint.1 dtX5_addPoint (Nat.le_of_ble_eq_true rfl) ?_
  intro E B hQ hr X
  unfold f5_addPoint at hf
  show G E 5 0 [(0, .ref a0), (1, .int a1), (2, .int a2), (3, .int a3)] [] mm
  refine z_aload_n B 0 rfl 0 0 rfl rfl ?_
  refine z_getr 5 4 a0 B 1 rfl o_a0 rfl (iX5_addPoint _ (List.mem_of_getElem? (i := 0) rfl)) rfl ?_
  refine z_iload_n B 2 rfl 1 1 rfl rfl ?_
  obtain ⟨r1, ec, hf⟩ := bd_e hf
  refine z_callN [.ref (a0 + 4), .int a1] [] [.int r1] X B 3 rfl miX6_at ⟨List.mem_of_getElem? (i := 8) rfl, (iX5_addPoint _ (List.mem_of_getElem? (i := 1) rfl))⟩ (ctX6_at hj (obf_5_4 o_a0) ec) ⟨Nat.le_of_ble_eq_true rfl, Nat.le_of_ble_eq_true rfl⟩ rfl rfl (Nat.le_of_ble_eq_true rfl) rfl ?_
  refine z_istore [(4, .int r1), (0, .ref a0), (1, .int a1), (2, .int a2), (3, .int a3)] B 4 rfl (by decide) rfl ?_
  refine z_aload_n B 5 rfl 0 1 rfl rfl ?_
  refine z_getr 5 5 a0 B 6 rfl o_a0 rfl (iX5_addPoint _ (List.mem_of_getElem? (i := 2) rfl)) rfl ?_
  refine z_iload_n B 7 rfl 1 2 rfl rfl ?_
  refine z_iconst 4 B 8 rfl (by decide) ?_
  refine z_imul B 9 rfl ?_
  refine z_iload B 10 rfl 0 rfl ?_
  refine z_iadd B 11 rfl ?_
  refine z_iload_n B 12 rfl 2 3 rfl rfl ?_
  obtain ⟨r2, ec, hf⟩ := bd_e hf
  refine z_callN [.ref (a0 + 5), .int ((a1 * (4 : Int32)) + r1), .int a2] [] [] X B 13 rfl miX6_put ⟨List.mem_of_getElem? (i := 9) rfl, (iX5_addPoint _ (List.mem_of_getElem? (i := 3) rfl))⟩ (ctX6_put hj (obf_5_5 o_a0) ec) ⟨Nat.le_of_ble_eq_true rfl, Nat.le_of_ble_eq_true rfl⟩ rfl rfl (Nat.le_of_ble_eq_true rfl) rfl ?_
  refine z_aload_n B 14 rfl 0 1 rfl rfl ?_
  refine z_getr 5 6 a0 B 15 rfl o_a0 rfl (iX5_addPoint _ (List.mem_of_getElem? (i := 4) rfl)) rfl ?_
  refine z_iload_n B 16 rfl 1 2 rfl rfl ?_
  refine z_iconst 4 B 17 rfl (by decide) ?_
  refine z_imul B 18 rfl ?_
  refine z_iload B 19 rfl 0 rfl ?_
  refine z_iadd B 20 rfl ?_
  refine z_iload_n B 21 rfl 3 4 rfl rfl ?_
  obtain ⟨r3, ec, hf⟩ := bd_e hf
  refine z_callN [.ref (a0 + 6), .int ((a1 * (4 : Int32)) + r1), .int a3] [] [] X B 22 rfl miX6_put ⟨List.mem_of_getElem? (i := 9) rfl, (iX5_addPoint _ (List.mem_of_getElem? (i := 3) rfl))⟩ (ctX6_put hj (obf_5_6 o_a0) ec) ⟨Nat.le_of_ble_eq_true rfl, Nat.le_of_ble_eq_true rfl⟩ rfl rfl (Nat.le_of_ble_eq_true rfl) rfl ?_
  refine z_aload_n B 23 rfl 0 1 rfl rfl ?_
  refine z_getr 5 4 a0 B 24 rfl o_a0 rfl (iX5_addPoint _ (List.mem_of_getElem? (i := 0) rfl)) rfl ?_
  refine z_iload_n B 25 rfl 1 2 rfl rfl ?_
  refine z_iload B 26 rfl 0 rfl ?_
  refine z_iconst 1 B 27 rfl (by decide) ?_
  refine z_iadd B 28 rfl ?_
  obtain ⟨r4, ec, hf⟩ := bd_e hf
  refine z_callN [.ref (a0 + 4), .int a1, .int (r1 + (1 : Int32))] [] [] X B 29 rfl miX6_put ⟨List.mem_of_getElem? (i := 9) rfl, (iX5_addPoint _ (List.mem_of_getElem? (i := 3) rfl))⟩ (ctX6_put hj (obf_5_4 o_a0) ec) ⟨Nat.le_of_ble_eq_true rfl, Nat.le_of_ble_eq_true rfl⟩ rfl rfl (Nat.le_of_ble_eq_true rfl) rfl ?_
  refine z_iload B 30 rfl 0 rfl ?_
  refine z_iconst 1 B 31 rfl (by decide) ?_
  refine z_iadd B 32 rfl ?_
  cases hf
  exact z_iret B 33 rfl rfl hQ hr
/-! ZoneCapacity$Zones.dropPoints(I)I -/
def tbX5_dropPoints : Tb := [(0, .aload_n 0, 1, 1), (1, .getfield 25, 3, 4), (4, .iload_n 1, 1, 5), (5, .invokestatic 46, 3, 8), (8, .istore_n 2, 1, 9), (9, .aload_n 0, 1, 10), (10, .getfield 25, 3, 13), (13, .iload_n 1, 1, 14), (14, .iconst 0, 1, 15), (15, .invokestatic 42, 3, 18), (18, .iload_n 2, 1, 19), (19, .ireturn, 1, 20)]
theorem dtX5_dropPoints : ∀ q ∈ tbX5_dropPoints, decode cX5_dropPoints q.1 = .ok (q.2.1, q.2.2.1) ∧ q.1 + q.2.2.1 = q.2.2.2 := by decide +kernel
theorem miX5_dropPoints : MI yX5_dropPoints cX5_dropPoints 3 (some .int) 1 := ⟨tw_mem (List.mem_of_getElem? (i := 310) (by decide +kernel)) rfl, by decide, by decide +kernel, tw_mem (List.mem_of_getElem? (i := 17) (by decide +kernel)) rfl⟩
abbrev rmX5_dropPoints : Room := { frames := 1, cells := 0, slots := 0, locals := 22 }
def wX5_dropPoints : List Cond := [.fieldLink "ZoneCapacity$Zones" 25 "ZoneCapacity$Zones" "points" "[I", .static yX6_at, .static yX6_put]
theorem iX5_dropPoints : ∀ w ∈ wX5_dropPoints, w ∈ TW := tw_of (ids := [79, 272, 291]) (by decide +kernel)
def f5_dropPoints (mm : Mem) (a0 : Nat) (a1 : Int32) : Option (Int32 × Mem) := bd (f6_at mm (a0 + 4) a1) (fun r1 => bd (f6_put mm (a0 + 4) a1 (0 : Int32)) (fun r2 => some (r1, r2)))
theorem ctX5_dropPoints {l : Launch} {C : Cfg} (hj : Dj C) {mm : Mem} {a0 : Nat} {a1 : Int32} {x : (Int32 × Mem)} (o_a0 : Ob a0 5) (hf : f5_dropPoints mm a0 a1 = some x) : Ct l C yX5_dropPoints cX5_dropPoints 3 (some .int) 1 22 [.ref a0, .int a1] mm (some (.int x.1)) x.2 := by
  refine Ct.of (tb := tbX5_dropPoints) hj miX5_dropPoints.2.1 miX5_dropPoints.1 dtX5_dropPoints (Nat.le_of_ble_eq_true rfl) ?_
  intro E B hQ hr X
  unfold f5_dropPoints at hf
  show G E 3 0 [(0, .ref a0), (1, .int a1)] [] mm
  refine z_aload_n B 0 rfl 0 0 rfl rfl ?_
  refine z_getr 5 4 a0 B 1 rfl o_a0 rfl (iX5_dropPoints _ (List.mem_of_getElem? (i := 0) rfl)) rfl ?_
  refine z_iload_n B 2 rfl 1 1 rfl rfl ?_
  obtain ⟨r1, ec, hf⟩ := bd_e hf
  refine z_callN [.ref (a0 + 4), .int a1] [] [.int r1] X B 3 rfl miX6_at ⟨List.mem_of_getElem? (i := 8) rfl, (iX5_dropPoints _ (List.mem_of_getElem? (i := 1) rfl))⟩ (ctX6_at hj (obf_5_4 o_a0) ec) ⟨Nat.le_of_ble_eq_true rfl, Nat.le_of_ble_eq_true rfl⟩ rfl rfl (Nat.le_of_ble_eq_true rfl) rfl ?_
  refine z_istore_n [(2, .int r1), (0, .ref a0), (1, .int a1)] B 4 rfl 2 rfl (by decide) rfl ?_
  refine z_aload_n B 5 rfl 0 1 rfl rfl ?_
  refine z_getr 5 4 a0 B 6 rfl o_a0 rfl (iX5_dropPoints _ (List.mem_of_getElem? (i := 0) rfl)) rfl ?_
  refine z_iload_n B 7 rfl 1 2 rfl rfl ?_
  refine z_iconst 0 B 8 rfl (by decide) ?_
  obtain ⟨r2, ec, hf⟩ := bd_e hf
  refine z_callN [.ref (a0 + 4), .int a1, .int (0 : Int32)] [] [] X B 9 rfl miX6_put ⟨List.mem_of_getElem? (i := 9) rfl, (iX5_dropPoints _ (List.mem_of_getElem? (i := 2) rfl))⟩ (ctX6_put hj (obf_5_4 o_a0) ec) ⟨Nat.le_of_ble_eq_true rfl, Nat.le_of_ble_eq_true rfl⟩ rfl rfl (Nat.le_of_ble_eq_true rfl) rfl ?_
  refine z_iload_n B 10 rfl 2 0 rfl rfl ?_
  cases hf
  exact z_iret B 11 rfl rfl hQ hr
/-! ZoneCapacity$Zones.wanted(I)I -/
def tbX5_wanted : Tb := [(0, .aload_n 0, 1, 1), (1, .getfield 25, 3, 4), (4, .iload_n 1, 1, 5), (5, .invokestatic 46, 3, 8), (8, .istore_n 2, 1, 9), (9, .iload_n 2, 1, 10), (10, .ifCond .ne 7, 3, 13), (13, .iconst 0, 1, 14), (14, .goto 17, 3, 17), (17, .aload_n 0, 1, 18), (18, .getfield 28, 3, 21), (21, .iload_n 1, 1, 22), (22, .iconst 4, 1, 23), (23, .imul, 1, 24), (24, .iload_n 2, 1, 25), (25, .iadd, 1, 26), (26, .iconst 1, 1, 27), (27, .isub, 1, 28), (28, .invokestatic 46, 3, 31), (31, .ireturn, 1, 32)]
theorem dtX5_wanted : ∀ q ∈ tbX5_wanted, decode cX5_wanted q.1 = .ok (q.2.1, q.2.2.1) ∧ q.1 + q.2.2.1 = q.2.2.2 := by decide +kernel
theorem miX5_wanted : MI yX5_wanted cX5_wanted 3 (some .int) 1 := ⟨tw_mem (List.mem_of_getElem? (i := 277) (by decide +kernel)) rfl, by decide, by decide +kernel, tw_mem (List.mem_of_getElem? (i := 17) (by decide +kernel)) rfl⟩
abbrev rmX5_wanted : Room := { frames := 1, cells := 0, slots := 0, locals := 21 }
def wX5_wanted : List Cond := [.fieldLink "ZoneCapacity$Zones" 25 "ZoneCapacity$Zones" "points" "[I", .static yX6_at, .fieldLink "ZoneCapacity$Zones" 28 "ZoneCapacity$Zones" "pointUnits" "[I"]
theorem iX5_wanted : ∀ w ∈ wX5_wanted, w ∈ TW := tw_of (ids := [79, 272, 81]) (by decide +kernel)
def f5_wanted (mm : Mem) (a0 : Nat) (a1 : Int32) : Option Int32 := bd (f6_at mm (a0 + 4) a1) (fun r1 => if r1 = 0 then some ((0 : Int32)) else bd (f6_at mm (a0 + 5) (((a1 * (4 : Int32)) + r1) - (1 : Int32))) (fun r2 => some (r2)))
theorem ctX5_wanted {l : Launch} {C : Cfg} (hj : Dj C) {mm : Mem} {a0 : Nat} {a1 : Int32} {x : Int32} (o_a0 : Ob a0 5) (hf : f5_wanted mm a0 a1 = some x) : Ct l C yX5_wanted cX5_wanted 3 (some .int) 1 21 [.ref a0, .int a1] mm (some (.int x)) mm := by
  refine Ct.of (tb := tbX5_wanted) hj miX5_wanted.2.1 miX5_wanted.1 dtX5_wanted (Nat.le_of_ble_eq_true rfl) ?_
  intro E B hQ hr X
  unfold f5_wanted at hf
  show G E 3 0 [(0, .ref a0), (1, .int a1)] [] mm
  refine z_aload_n B 0 rfl 0 0 rfl rfl ?_
  refine z_getr 5 4 a0 B 1 rfl o_a0 rfl (iX5_wanted _ (List.mem_of_getElem? (i := 0) rfl)) rfl ?_
  refine z_iload_n B 2 rfl 1 1 rfl rfl ?_
  obtain ⟨r1, ec, hf⟩ := bd_e hf
  refine z_callN [.ref (a0 + 4), .int a1] [] [.int r1] X B 3 rfl miX6_at ⟨List.mem_of_getElem? (i := 8) rfl, (iX5_wanted _ (List.mem_of_getElem? (i := 1) rfl))⟩ (ctX6_at hj (obf_5_4 o_a0) ec) ⟨Nat.le_of_ble_eq_true rfl, Nat.le_of_ble_eq_true rfl⟩ rfl rfl (Nat.le_of_ble_eq_true rfl) rfl ?_
  refine z_istore_n [(2, .int r1), (0, .ref a0), (1, .int a1)] B 4 rfl 2 rfl (by decide) rfl ?_
  refine z_iload_n B 5 rfl 2 0 rfl rfl ?_
  by_cases hc : r1 = 0
  · replace hf := (if_pos hc).symm.trans hf
    refine z_if_ne_f B 6 rfl 17 (by decide) hc ?_
    refine z_iconst 0 B 7 rfl (by decide) ?_
    refine z_goto B 8 rfl 31 (by decide) ?_
    cases hf
    exact z_iret B 19 rfl rfl hQ hr
  · replace hf := (if_neg hc).symm.trans hf
    refine z_if_ne_t B 6 rfl 17 (by decide) hc ?_
    refine z_aload_n B 9 rfl 0 1 rfl rfl ?_
    refine z_getr 5 5 a0 B 10 rfl o_a0 rfl (iX5_wanted _ (List.mem_of_getElem? (i := 2) rfl)) rfl ?_
    refine z_iload_n B 11 rfl 1 2 rfl rfl ?_
    refine z_iconst 4 B 12 rfl (by decide) ?_
    refine z_imul B 13 rfl ?_
    refine z_iload_n B 14 rfl 2 0 rfl rfl ?_
    refine z_iadd B 15 rfl ?_
    refine z_iconst 1 B 16 rfl (by decide) ?_
    refine z_isub B 17 rfl ?_
    obtain ⟨r2, ec, hf⟩ := bd_e hf
    refine z_callN [.ref (a0 + 5), .int (((a1 * (4 : Int32)) + r1) - (1 : Int32))] [] [.int r2] X B 18 rfl miX6_at ⟨List.mem_of_getElem? (i := 8) rfl, (iX5_wanted _ (List.mem_of_getElem? (i := 1) rfl))⟩ (ctX6_at hj (obf_5_5 o_a0) ec) ⟨Nat.le_of_ble_eq_true rfl, Nat.le_of_ble_eq_true rfl⟩ rfl rfl (Nat.le_of_ble_eq_true rfl) rfl ?_
    cases hf
    exact z_iret B 19 rfl rfl hQ hr
/-! ZoneCapacity$Zones.lastPrice(I)I -/
def tbX5_lastPrice : Tb := [(0, .aload_n 0, 1, 1), (1, .getfield 25, 3, 4), (4, .iload_n 1, 1, 5), (5, .invokestatic 46, 3, 8), (8, .istore_n 2, 1, 9), (9, .iload_n 2, 1, 10), (10, .ifCond .ne 9, 3, 13), (13, .sipush 9999, 3, 16), (16, .goto 17, 3, 19), (19, .aload_n 0, 1, 20), (20, .getfield 31, 3, 23), (23, .iload_n 1, 1, 24), (24, .iconst 4, 1, 25), (25, .imul, 1, 26), (26, .iload_n 2, 1, 27), (27, .iadd, 1, 28), (28, .iconst 1, 1, 29), (29, .isub, 1, 30), (30, .invokestatic 46, 3, 33), (33, .ireturn, 1, 34)]
theorem dtX5_lastPrice : ∀ q ∈ tbX5_lastPrice, decode cX5_lastPrice q.1 = .ok (q.2.1, q.2.2.1) ∧ q.1 + q.2.2.1 = q.2.2.2 := by decide +kernel
theorem miX5_lastPrice : MI yX5_lastPrice cX5_lastPrice 3 (some .int) 1 := ⟨tw_mem (List.mem_of_getElem? (i := 285) (by decide +kernel)) rfl, by decide, by decide +kernel, tw_mem (List.mem_of_getElem? (i := 17) (by decide +kernel)) rfl⟩
abbrev rmX5_lastPrice : Room := { frames := 1, cells := 0, slots := 0, locals := 21 }
def wX5_lastPrice : List Cond := [.fieldLink "ZoneCapacity$Zones" 25 "ZoneCapacity$Zones" "points" "[I", .static yX6_at, .fieldLink "ZoneCapacity$Zones" 31 "ZoneCapacity$Zones" "pointPrices" "[I"]
theorem iX5_lastPrice : ∀ w ∈ wX5_lastPrice, w ∈ TW := tw_of (ids := [79, 272, 82]) (by decide +kernel)
def f5_lastPrice (mm : Mem) (a0 : Nat) (a1 : Int32) : Option Int32 := bd (f6_at mm (a0 + 4) a1) (fun r1 => if r1 = 0 then some ((9999 : Int32)) else bd (f6_at mm (a0 + 6) (((a1 * (4 : Int32)) + r1) - (1 : Int32))) (fun r2 => some (r2)))
theorem ctX5_lastPrice {l : Launch} {C : Cfg} (hj : Dj C) {mm : Mem} {a0 : Nat} {a1 : Int32} {x : Int32} (o_a0 : Ob a0 5) (hf : f5_lastPrice mm a0 a1 = some x) : Ct l C yX5_lastPrice cX5_lastPrice 3 (some .int) 1 21 [.ref a0, .int a1] mm (some (.int x)) mm := by
  refine Ct.of (tb := tbX5_lastPrice) hj miX5_lastPrice.2.1 miX5_lastPrice.1 dtX5_lastPrice (Nat.le_of_ble_eq_true rfl) ?_
  intro E B hQ hr X
  unfold f5_lastPrice at hf
  show G E 3 0 [(0, .ref a0), (1, .int a1)] [] mm
  refine z_aload_n B 0 rfl 0 0 rfl rfl ?_
  refine z_getr 5 4 a0 B 1 rfl o_a0 rfl (iX5_lastPrice _ (List.mem_of_getElem? (i := 0) rfl)) rfl ?_
  refine z_iload_n B 2 rfl 1 1 rfl rfl ?_
  obtain ⟨r1, ec, hf⟩ := bd_e hf
  refine z_callN [.ref (a0 + 4), .int a1] [] [.int r1] X B 3 rfl miX6_at ⟨List.mem_of_getElem? (i := 8) rfl, (iX5_lastPrice _ (List.mem_of_getElem? (i := 1) rfl))⟩ (ctX6_at hj (obf_5_4 o_a0) ec) ⟨Nat.le_of_ble_eq_true rfl, Nat.le_of_ble_eq_true rfl⟩ rfl rfl (Nat.le_of_ble_eq_true rfl) rfl ?_
  refine z_istore_n [(2, .int r1), (0, .ref a0), (1, .int a1)] B 4 rfl 2 rfl (by decide) rfl ?_
  refine z_iload_n B 5 rfl 2 0 rfl rfl ?_
  by_cases hc : r1 = 0
  · replace hf := (if_pos hc).symm.trans hf
    refine z_if_ne_f B 6 rfl 19 (by decide) hc ?_
    refine z_sipush 9999 B 7 rfl (by decide) ?_
    refine z_goto B 8 rfl 33 (by decide) ?_
    cases hf
    exact z_iret B 19 rfl rfl hQ hr
  · replace hf := (if_neg hc).symm.trans hf
    refine z_if_ne_t B 6 rfl 19 (by decide) hc ?_
    refine z_aload_n B 9 rfl 0 1 rfl rfl ?_
    refine z_getr 5 6 a0 B 10 rfl o_a0 rfl (iX5_lastPrice _ (List.mem_of_getElem? (i := 2) rfl)) rfl ?_
    refine z_iload_n B 11 rfl 1 2 rfl rfl ?_
    refine z_iconst 4 B 12 rfl (by decide) ?_
    refine z_imul B 13 rfl ?_
    refine z_iload_n B 14 rfl 2 0 rfl rfl ?_
    refine z_iadd B 15 rfl ?_
    refine z_iconst 1 B 16 rfl (by decide) ?_
    refine z_isub B 17 rfl ?_
    obtain ⟨r2, ec, hf⟩ := bd_e hf
    refine z_callN [.ref (a0 + 6), .int (((a1 * (4 : Int32)) + r1) - (1 : Int32))] [] [.int r2] X B 18 rfl miX6_at ⟨List.mem_of_getElem? (i := 8) rfl, (iX5_lastPrice _ (List.mem_of_getElem? (i := 1) rfl))⟩ (ctX6_at hj (obf_5_6 o_a0) ec) ⟨Nat.le_of_ble_eq_true rfl, Nat.le_of_ble_eq_true rfl⟩ rfl rfl (Nat.le_of_ble_eq_true rfl) rfl ?_
    cases hf
    exact z_iret B 19 rfl rfl hQ hr
/-! ZoneCapacity$Zones.worthOf(II)I -/
def tbX5_worthOf : Tb := [(0, .iload_n 2, 1, 1), (1, .iconst 1, 1, 2), (2, .if_icmp .ge 5, 3, 5), (5, .iconst (-1), 1, 6), (6, .ireturn, 1, 7), (7, .iconst 0, 1, 8), (8, .istore_n 3, 1, 9), (9, .aload_n 0, 1, 10), (10, .getfield 31, 3, 13), (13, .iload_n 1, 1, 14), (14, .iconst 4, 1, 15), (15, .imul, 1, 16), (16, .invokestatic 46, 3, 19), (19, .istore 4, 2, 21), (21, .iconst 0, 1, 22), (22, .istore 5, 2, 24), (24, .iload 5, 2, 26), (26, .aload_n 0, 1, 27), (27, .getfield 25, 3, 30), (30, .iload_n 1, 1, 31), (31, .invokestatic 46, 3, 34), (34, .if_icmp .ge 71, 3, 37), (37, .aload_n 0, 1, 38), (38, .getfield 28, 3, 41), (41, .iload_n 1, 1, 42), (42, .iconst 4, 1, 43), (43, .imul, 1, 44), (44, .iload 5, 2, 46), (46, .iadd, 1, 47), (47, .invokestatic 46, 3, 50), (50, .istore 6, 2, 52), (52, .aload_n 0, 1, 53), (53, .getfield 31, 3, 56), (56, .iload_n 1, 1, 57), (57, .iconst 4, 1, 58), (58, .imul, 1, 59), (59, .iload 5, 2, 61), (61, .iadd, 1, 62), (62, .invokestatic 46, 3, 65), (65, .istore 7, 2, 67), (67, .iload_n 2, 1, 68), (68, .iload 6, 2, 70), (70, .if_icmp .gt 22, 3, 73), (73, .iload 4, 2, 75), (75, .iload 4, 2, 77), (77, .iload 7, 2, 79), (79, .isub, 1, 80), (80, .iload_n 2, 1, 81), (81, .iload_n 3, 1, 82), (82, .isub, 1, 83), (83, .iload 6, 2, 85), (85, .iload_n 3, 1, 86), (86, .isub, 1, 87), (87, .invokestatic 50, 3, 90), (90, .isub, 1, 91), (91, .ireturn, 1, 92), (92, .iload 6, 2, 94), (94, .istore_n 3, 1, 95), (95, .iload 7, 2, 97), (97, .istore 4, 2, 99), (99, .iinc 5 1, 3, 102), (102, .goto (-78), 3, 105), (105, .iconst (-1), 1, 106), (106, .ireturn, 1, 107)]
theorem dtX5_worthOf : ∀ q ∈ tbX5_worthOf, decode cX5_worthOf q.1 = .ok (q.2.1, q.2.2.1) ∧ q.1 + q.2.2.1 = q.2.2.2 := by decide +kernel
theorem miX5_worthOf : MI yX5_worthOf cX5_worthOf 8 (some .int) 2 := ⟨tw_mem (List.mem_of_getElem? (i := 828) (by decide +kernel)) rfl, by decide, by decide +kernel, tw_mem (List.mem_of_getElem? (i := 17) (by decide +kernel)) rfl⟩
abbrev rmX5_worthOf : Room := { frames := 1, cells := 0, slots := 0, locals := 22 }
def wX5_worthOf : List Cond := [.fieldLink "ZoneCapacity$Zones" 31 "ZoneCapacity$Zones" "pointPrices" "[I", .static yX6_at, .fieldLink "ZoneCapacity$Zones" 25 "ZoneCapacity$Zones" "points" "[I", .fieldLink "ZoneCapacity$Zones" 28 "ZoneCapacity$Zones" "pointUnits" "[I", .methodLink "ZoneCapacity$Zones" 50 yX5_fallen, .static yX5_fallen]
theorem iX5_worthOf : ∀ w ∈ wX5_worthOf, w ∈ TW := tw_of (ids := [82, 272, 79, 81, 434, 435]) (by decide +kernel)
def f5_worthOf_l24 (mm : Mem) : Nat → Nat → Int32 → Int32 → Int32 → Int32 → Int32 → Option Int32
  | 0, _, _, _, _, _, _ => none
  | n + 1, x0, x1, x2, x3, x4, x5 => bd (f6_at mm (x0 + 4) x1) (fun r2 => if x5 < r2 then bd (f6_at mm (x0 + 5) ((x1 * (4 : Int32)) + x5)) (fun r3 => bd (f6_at mm (x0 + 6) ((x1 * (4 : Int32)) + x5)) (fun r4 => if r3 < x2 then nm (x5 + 1) (fun v5 => f5_worthOf_l24 mm n x0 x1 x2 r3 r4 v5) else bd (f5_fallen mm (x4 - r4) (x2 - x3) (r3 - x3)) (fun r6 => some (x4 - r6)))) else some ((-1 : Int32)))
theorem f5_worthOf_l24_ok {E : Ev} {l : Launch} {C : Cfg} {mm : Mem} {x : Int32} (hj : Dj C) (X : Ec E l C rmX5_worthOf) (B : Bx E RX5 tbX5_worthOf 8 (some .int)) (hQ : Rt E) (hr : Rs E (some (.int x)) mm) (n : Nat) : ∀ (x0 : Nat) (x1 : Int32) (x2 : Int32) (x3 : Int32) (x4 : Int32) (x5 : Int32), Ob x0 5 → f5_worthOf_l24 mm n x0 x1 x2 x3 x4 x5 = some x → G E 8 24 [(0, .ref x0), (1, .int x1), (2, .int x2), (3, .int x3), (4, .int x4), (5, .int x5)] [] mm := by
  induction n with
  | zero =>
    intro x0 x1 x2 x3 x4 x5 o_x0 hf
    rw [f5_worthOf_l24] at hf
    cases hf
  | succ n ih =>
    intro x0 x1 x2 x3 x4 x5 o_x0 hf
    rw [f5_worthOf_l24] at hf
    refine z_iload B 16 rfl 5 rfl ?_
    refine z_aload_n B 17 rfl 0 0 rfl rfl ?_
    refine z_getr 5 4 x0 B 18 rfl o_x0 rfl (iX5_worthOf _ (List.mem_of_getElem? (i := 2) rfl)) rfl ?_
    refine z_iload_n B 19 rfl 1 1 rfl rfl ?_
    obtain ⟨r2, ec, hf⟩ := bd_e hf
    refine z_callN [.ref (x0 + 4), .int x1] [.int x5] [.int r2, .int x5] X B 20 rfl miX6_at ⟨List.mem_of_getElem? (i := 8) rfl, (iX5_worthOf _ (List.mem_of_getElem? (i := 1) rfl))⟩ (ctX6_at hj (obf_5_4 o_x0) ec) ⟨Nat.le_of_ble_eq_true rfl, Nat.le_of_ble_eq_true rfl⟩ rfl rfl (Nat.le_of_ble_eq_true rfl) rfl ?_
    by_cases hc : x5 < r2
    · replace hf := (if_pos hc).symm.trans hf
      refine z_icmp_ge_f B 21 rfl 105 (by decide) hc ?_
      refine z_aload_n B 22 rfl 0 0 rfl rfl ?_
      refine z_getr 5 5 x0 B 23 rfl o_x0 rfl (iX5_worthOf _ (List.mem_of_getElem? (i := 3) rfl)) rfl ?_
      refine z_iload_n B 24 rfl 1 1 rfl rfl ?_
      refine z_iconst 4 B 25 rfl (by decide) ?_
      refine z_imul B 26 rfl ?_
      refine z_iload B 27 rfl 5 rfl ?_
      refine z_iadd B 28 rfl ?_
      obtain ⟨r3, ec, hf⟩ := bd_e hf
      refine z_callN [.ref (x0 + 5), .int ((x1 * (4 : Int32)) + x5)] [] [.int r3] X B 29 rfl miX6_at ⟨List.mem_of_getElem? (i := 8) rfl, (iX5_worthOf _ (List.mem_of_getElem? (i := 1) rfl))⟩ (ctX6_at hj (obf_5_5 o_x0) ec) ⟨Nat.le_of_ble_eq_true rfl, Nat.le_of_ble_eq_true rfl⟩ rfl rfl (Nat.le_of_ble_eq_true rfl) rfl ?_
      refine z_istore [(6, .int r3), (0, .ref x0), (1, .int x1), (2, .int x2), (3, .int x3), (4, .int x4), (5, .int x5)] B 30 rfl (by decide) rfl ?_
      refine z_aload_n B 31 rfl 0 1 rfl rfl ?_
      refine z_getr 5 6 x0 B 32 rfl o_x0 rfl (iX5_worthOf _ (List.mem_of_getElem? (i := 0) rfl)) rfl ?_
      refine z_iload_n B 33 rfl 1 2 rfl rfl ?_
      refine z_iconst 4 B 34 rfl (by decide) ?_
      refine z_imul B 35 rfl ?_
      refine z_iload B 36 rfl 6 rfl ?_
      refine z_iadd B 37 rfl ?_
      obtain ⟨r4, ec, hf⟩ := bd_e hf
      refine z_callN [.ref (x0 + 6), .int ((x1 * (4 : Int32)) + x5)] [] [.int r4] X B 38 rfl miX6_at ⟨List.mem_of_getElem? (i := 8) rfl, (iX5_worthOf _ (List.mem_of_getElem? (i := 1) rfl))⟩ (ctX6_at hj (obf_5_6 o_x0) ec) ⟨Nat.le_of_ble_eq_true rfl, Nat.le_of_ble_eq_true rfl⟩ rfl rfl (Nat.le_of_ble_eq_true rfl) rfl ?_
      refine z_istore [(7, .int r4), (6, .int r3), (0, .ref x0), (1, .int x1), (2, .int x2), (3, .int x3), (4, .int x4), (5, .int x5)] B 39 rfl (by decide) rfl ?_
      refine z_iload_n B 40 rfl 2 4 rfl rfl ?_
      refine z_iload B 41 rfl 1 rfl ?_
      by_cases hc : r3 < x2
      · replace hf := (if_pos hc).symm.trans hf
        refine z_icmp_gt_t B 42 rfl 92 (by decide) hc ?_
        refine z_iload B 56 rfl 1 rfl ?_
        refine z_istore_n [(3, .int r3), (7, .int r4), (6, .int r3), (0, .ref x0), (1, .int x1), (2, .int x2), (4, .int x4), (5, .int x5)] B 57 rfl 3 rfl (by decide) rfl ?_
        refine z_iload B 58 rfl 1 rfl ?_
        refine z_istore [(4, .int r4), (3, .int r3), (7, .int r4), (6, .int r3), (0, .ref x0), (1, .int x1), (2, .int x2), (5, .int x5)] B 59 rfl (by decide) rfl ?_
        obtain ⟨v5, ex, hf⟩ := nm_x hf
        refine z_iinc v5 [(5, .int v5), (4, .int r4), (3, .int r3), (7, .int r4), (6, .int r3), (0, .ref x0), (1, .int x1), (2, .int x2)] B 60 rfl 7 rfl (ex.symm) (by decide) rfl ?_
        refine z_goto B 61 rfl 24 (by decide) ?_
        refine z_sub [(0, .ref x0), (1, .int x1), (2, .int x2), (3, .int r3), (4, .int r4), (5, .int v5)] [5, 6, 7, 2, 1, 0] rfl ?_
        exact ih _ _ _ _ _ _ o_x0  hf
      · replace hf := (if_neg hc).symm.trans hf
        refine z_icmp_gt_f B 42 rfl 92 (by decide) hc ?_
        refine z_iload B 43 rfl 6 rfl ?_
        refine z_iload B 44 rfl 6 rfl ?_
        refine z_iload B 45 rfl 0 rfl ?_
        refine z_isub B 46 rfl ?_
        refine z_iload_n B 47 rfl 2 4 rfl rfl ?_
        refine z_iload_n B 48 rfl 3 5 rfl rfl ?_
        refine z_isub B 49 rfl ?_
        refine z_iload B 50 rfl 1 rfl ?_
        refine z_iload_n B 51 rfl 3 5 rfl rfl ?_
        refine z_isub B 52 rfl ?_
        obtain ⟨r6, ec, hf⟩ := bd_e hf
        refine z_callS [.int (x4 - r4), .int (x2 - x3), .int (r3 - x3)] [.int x4] [.int r6, .int x4] X B 53 rfl miX5_fallen ⟨(iX5_worthOf _ (List.mem_of_getElem? (i := 4) rfl)), (iX5_worthOf _ (List.mem_of_getElem? (i := 5) rfl))⟩ (ctX5_fallen hj ec) ⟨Nat.le_of_ble_eq_true rfl, Nat.le_of_ble_eq_true rfl⟩ rfl rfl (Nat.le_of_ble_eq_true rfl) rfl ?_
        refine z_isub B 54 rfl ?_
        cases hf
        exact z_iret B 55 rfl rfl hQ hr
    · replace hf := (if_neg hc).symm.trans hf
      refine z_icmp_ge_t B 21 rfl 105 (by decide) hc ?_
      refine z_iconst (-1) B 62 rfl (by decide) ?_
      cases hf
      exact z_iret B 63 rfl rfl hQ hr
def f5_worthOf (mm : Mem) (a0 : Nat) (a1 : Int32) (a2 : Int32) : Option Int32 := if a2 < (1 : Int32) then some ((-1 : Int32)) else bd (f6_at mm (a0 + 6) (a1 * (4 : Int32))) (fun r1 => f5_worthOf_l24 mm FU a0 a1 a2 (0 : Int32) r1 (0 : Int32))
theorem ctX5_worthOf {l : Launch} {C : Cfg} (hj : Dj C) {mm : Mem} {a0 : Nat} {a1 : Int32} {a2 : Int32} {x : Int32} (o_a0 : Ob a0 5) (hf : f5_worthOf mm a0 a1 a2 = some x) : Ct l C yX5_worthOf cX5_worthOf 8 (some .int) 1 22 [.ref a0, .int a1, .int a2] mm (some (.int x)) mm := by
  refine Ct.of (tb := tbX5_worthOf) hj miX5_worthOf.2.1 miX5_worthOf.1 dtX5_worthOf (Nat.le_of_ble_eq_true rfl) ?_
  intro E B hQ hr X
  unfold f5_worthOf at hf
  show G E 8 0 [(0, .ref a0), (1, .int a1), (2, .int a2)] [] mm
  refine z_iload_n B 0 rfl 2 2 rfl rfl ?_
  refine z_iconst 1 B 1 rfl (by decide) ?_
  by_cases hc : a2 < (1 : Int32)
  · replace hf := (if_pos hc).symm.trans hf
    refine z_icmp_ge_f B 2 rfl 7 (by decide) hc ?_
    refine z_iconst (-1) B 3 rfl (by decide) ?_
    cases hf
    exact z_iret B 4 rfl rfl hQ hr
  · replace hf := (if_neg hc).symm.trans hf
    refine z_icmp_ge_t B 2 rfl 7 (by decide) hc ?_
    refine z_iconst 0 B 5 rfl (by decide) ?_
    refine z_istore_n [(3, .int (0 : Int32)), (0, .ref a0), (1, .int a1), (2, .int a2)] B 6 rfl 3 rfl (by decide) rfl ?_
    refine z_aload_n B 7 rfl 0 1 rfl rfl ?_
    refine z_getr 5 6 a0 B 8 rfl o_a0 rfl (iX5_worthOf _ (List.mem_of_getElem? (i := 0) rfl)) rfl ?_
    refine z_iload_n B 9 rfl 1 2 rfl rfl ?_
    refine z_iconst 4 B 10 rfl (by decide) ?_
    refine z_imul B 11 rfl ?_
    obtain ⟨r1, ec, hf⟩ := bd_e hf
    refine z_callN [.ref (a0 + 6), .int (a1 * (4 : Int32))] [] [.int r1] X B 12 rfl miX6_at ⟨List.mem_of_getElem? (i := 8) rfl, (iX5_worthOf _ (List.mem_of_getElem? (i := 1) rfl))⟩ (ctX6_at hj (obf_5_6 o_a0) ec) ⟨Nat.le_of_ble_eq_true rfl, Nat.le_of_ble_eq_true rfl⟩ rfl rfl (Nat.le_of_ble_eq_true rfl) rfl ?_
    refine z_istore [(4, .int r1), (3, .int (0 : Int32)), (0, .ref a0), (1, .int a1), (2, .int a2)] B 13 rfl (by decide) rfl ?_
    refine z_iconst 0 B 14 rfl (by decide) ?_
    refine z_istore [(5, .int (0 : Int32)), (4, .int r1), (3, .int (0 : Int32)), (0, .ref a0), (1, .int a1), (2, .int a2)] B 15 rfl (by decide) rfl ?_
    refine z_sub [(0, .ref a0), (1, .int a1), (2, .int a2), (3, .int (0 : Int32)), (4, .int r1), (5, .int (0 : Int32))] [3, 4, 5, 2, 1, 0] rfl ?_
    exact f5_worthOf_l24_ok hj X B hQ hr FU _ _ _ _ _ _ o_a0  hf
