/-! ZoneCapacity$Teller.tellFloor()Z -/
def tbX4_tellFloor : Tb := [(0, .aload_n 0, 1, 1), (1, .invokevirtual 32, 3, 4), (4, .aload_n 0, 1, 5), (5, .iconst 0, 1, 6), (6, .iconst 3, 1, 7), (7, .invokevirtual 97, 3, 10), (10, .ifCond .ne 5, 3, 13), (13, .iconst 0, 1, 14), (14, .ireturn, 1, 15), (15, .aload_n 0, 1, 16), (16, .getfield 100, 3, 19), (19, .istore_n 1, 1, 20), (20, .aload_n 0, 1, 21), (21, .iconst 0, 1, 22), (22, .sipush 9999, 3, 25), (25, .invokevirtual 97, 3, 28), (28, .ifCond .ne 5, 3, 31), (31, .iconst 0, 1, 32), (32, .ireturn, 1, 33), (33, .aload_n 0, 1, 34), (34, .getfield 21, 3, 37), (37, .getfield 123, 3, 40), (40, .getfield 150, 3, 43), (43, .iload_n 1, 1, 44), (44, .aload_n 0, 1, 45), (45, .getfield 100, 3, 48), (48, .invokestatic 154, 3, 51), (51, .aload_n 0, 1, 52), (52, .invokevirtual 107, 3, 55), (55, .ireturn, 1, 56)]
theorem dtX4_tellFloor : ∀ q ∈ tbX4_tellFloor, decode cX4_tellFloor q.1 = .ok (q.2.1, q.2.2.1) ∧ q.1 + q.2.2.1 = q.2.2.2 := by decide +kernel
theorem miX4_tellFloor : MI yX4_tellFloor cX4_tellFloor 2 (some .boolean) 0 := ⟨tw_mem (List.mem_of_getElem? (i := 540) (by decide +kernel)) rfl, by decide, by decide +kernel, tw_mem (List.mem_of_getElem? (i := 76) (by decide +kernel)) rfl⟩
abbrev rmX4_tellFloor : Room := { frames := 3, cells := 0, slots := 0, locals := 64 }
def wX4_tellFloor : List Cond := [.methodLink "ZoneCapacity$Teller" 32 yX4_advance, .instanceMethod yX4_advance, .selects "ZoneCapacity$Teller" yX4_advance yX4_advance, .methodLink "ZoneCapacity$Teller" 97 yX4_takeNumber, .instanceMethod yX4_takeNumber, .selects "ZoneCapacity$Teller" yX4_takeNumber yX4_takeNumber, .fieldLink "ZoneCapacity$Teller" 100 "ZoneCapacity$Teller" "got" "I", .fieldLink "ZoneCapacity$Teller" 21 "ZoneCapacity$Teller" "draft" "LZoneCapacity$Market;", .fieldLink "ZoneCapacity$Teller" 123 "ZoneCapacity$Market" "offers" "LZoneCapacity$Offers;", .fieldLink "ZoneCapacity$Teller" 150 "ZoneCapacity$Offers" "floors" "[I", .static yX6_put, .methodLink "ZoneCapacity$Teller" 107 yX4_takeEnd, .instanceMethod yX4_takeEnd, .selects "ZoneCapacity$Teller" yX4_takeEnd yX4_takeEnd]
theorem iX4_tellFloor : ∀ w ∈ wX4_tellFloor, w ∈ TW := tw_of (ids := [381, 383, 0, 462, 464, 5, 297, 289, 214, 163, 348, 472, 474, 6]) (by decide +kernel)
def f4_tellFloor (mm : Mem) : Option (Int32 × Mem) := bd (f4_advance mm) (fun r1 => bd (f4_takeNumber r1 (0 : Int32) (3 : Int32)) (fun r2 => if r2.1 = 0 then some ((0 : Int32), r2.2) else nm (r2.2 73 7) (fun v3 => bd (f4_takeNumber r2.2 (0 : Int32) (9999 : Int32)) (fun r4 => if r4.1 = 0 then some ((0 : Int32), r4.2) else bd (f6_put r4.2 85 v3 (r4.2 73 7)) (fun r5 => bd (f4_takeEnd r5) (fun r6 => bok r6.1 (some (r6.1, r6.2))))))))
theorem ctX4_tellFloor {l : Launch} {C : Cfg} (hj : Dj C) {mm : Mem} {x : (Int32 × Mem)} (hf : f4_tellFloor mm = some x) : Ct l C yX4_tellFloor cX4_tellFloor 2 (some .boolean) 3 64 [.ref 73] mm (some (.int x.1)) x.2 := by
  refine Ct.of (tb := tbX4_tellFloor) hj miX4_tellFloor.2.1 miX4_tellFloor.1 dtX4_tellFloor (Nat.le_of_ble_eq_true rfl) ?_
  intro E B hQ hr X
  unfold f4_tellFloor at hf
  show G E 2 0 [(0, .ref 73)] [] mm
  refine z_aload_n B 0 rfl 0 0 rfl rfl ?_
  obtain ⟨r1, ec, hf⟩ := bd_e hf
  refine z_callV 73 4 [] [] [] X B 1 rfl ob_73 rfl rfl miX4_advance ⟨(iX4_tellFloor _ (List.mem_of_getElem? (i := 0) rfl)), (iX4_tellFloor _ (List.mem_of_getElem? (i := 1) rfl)), (iX4_tellFloor _ (List.mem_of_getElem? (i := 2) rfl))⟩ (ctX4_advance hj ec) ⟨Nat.le_of_ble_eq_true rfl, Nat.le_of_ble_eq_true rfl⟩ rfl rfl (Nat.le_of_ble_eq_true rfl) rfl ?_
  refine z_aload_n B 2 rfl 0 0 rfl rfl ?_
  refine z_iconst 0 B 3 rfl (by decide) ?_
  refine z_iconst 3 B 4 rfl (by decide) ?_
  obtain ⟨r2, ec, hf⟩ := bd_e hf
  refine z_callV 73 4 [.int (0 : Int32), .int (3 : Int32)] [] [.int r2.1] X B 5 rfl ob_73 rfl rfl miX4_takeNumber ⟨(iX4_tellFloor _ (List.mem_of_getElem? (i := 3) rfl)), (iX4_tellFloor _ (List.mem_of_getElem? (i := 4) rfl)), (iX4_tellFloor _ (List.mem_of_getElem? (i := 5) rfl))⟩ (ctX4_takeNumber hj ec) ⟨Nat.le_of_ble_eq_true rfl, Nat.le_of_ble_eq_true rfl⟩ rfl rfl (Nat.le_of_ble_eq_true rfl) rfl ?_
  by_cases hc : r2.1 = 0
  · replace hf := (if_pos hc).symm.trans hf
    refine z_if_ne_f B 6 rfl 15 (by decide) hc ?_
    refine z_iconst 0 B 7 rfl (by decide) ?_
    cases hf
    exact z_iret B 8 rfl (by decide) hQ hr
  · replace hf := (if_neg hc).symm.trans hf
    refine z_if_ne_t B 6 rfl 15 (by decide) hc ?_
    refine z_aload_n B 9 rfl 0 0 rfl rfl ?_
    refine z_geti 4 7 73 B 10 rfl ob_73 rfl (iX4_tellFloor _ (List.mem_of_getElem? (i := 6) rfl)) rfl ?_
    obtain ⟨v3, ex, hf⟩ := nm_x hf
    refine z_top ex ?_
    refine z_istore_n [(1, .int v3), (0, .ref 73)] B 11 rfl 1 rfl (by decide) rfl ?_
    refine z_aload_n B 12 rfl 0 1 rfl rfl ?_
    refine z_iconst 0 B 13 rfl (by decide) ?_
    refine z_sipush 9999 B 14 rfl (by decide) ?_
    obtain ⟨r4, ec, hf⟩ := bd_e hf
    refine z_callV 73 4 [.int (0 : Int32), .int (9999 : Int32)] [] [.int r4.1] X B 15 rfl ob_73 rfl rfl miX4_takeNumber ⟨(iX4_tellFloor _ (List.mem_of_getElem? (i := 3) rfl)), (iX4_tellFloor _ (List.mem_of_getElem? (i := 4) rfl)), (iX4_tellFloor _ (List.mem_of_getElem? (i := 5) rfl))⟩ (ctX4_takeNumber hj ec) ⟨Nat.le_of_ble_eq_true rfl, Nat.le_of_ble_eq_true rfl⟩ rfl rfl (Nat.le_of_ble_eq_true rfl) rfl ?_
    by_cases hc : r4.1 = 0
    · replace hf := (if_pos hc).symm.trans hf
      refine z_if_ne_f B 16 rfl 33 (by decide) hc ?_
      refine z_iconst 0 B 17 rfl (by decide) ?_
      cases hf
      exact z_iret B 18 rfl (by decide) hQ hr
    · replace hf := (if_neg hc).symm.trans hf
      refine z_if_ne_t B 16 rfl 33 (by decide) hc ?_
      refine z_aload_n B 19 rfl 0 1 rfl rfl ?_
      refine z_getr 4 1 73 B 20 rfl ob_73 rfl (iX4_tellFloor _ (List.mem_of_getElem? (i := 7) rfl)) rfl ?_
      refine z_getr 1 1 76 B 21 rfl ob_76 rfl (iX4_tellFloor _ (List.mem_of_getElem? (i := 8) rfl)) rfl ?_
      refine z_getr 2 2 84 B 22 rfl ob_84 rfl (iX4_tellFloor _ (List.mem_of_getElem? (i := 9) rfl)) rfl ?_
      refine z_iload_n B 23 rfl 1 0 rfl rfl ?_
      refine z_aload_n B 24 rfl 0 1 rfl rfl ?_
      refine z_geti 4 7 73 B 25 rfl ob_73 rfl (iX4_tellFloor _ (List.mem_of_getElem? (i := 6) rfl)) rfl ?_
      obtain ⟨r5, ec, hf⟩ := bd_e hf
      refine z_callN [.ref 85, .int v3, .int (r4.2 73 7)] [] [] X B 26 rfl miX6_put ⟨List.mem_of_getElem? (i := 17) rfl, (iX4_tellFloor _ (List.mem_of_getElem? (i := 10) rfl))⟩ (ctX6_put hj ob_85 ec) ⟨Nat.le_of_ble_eq_true rfl, Nat.le_of_ble_eq_true rfl⟩ rfl rfl (Nat.le_of_ble_eq_true rfl) rfl ?_
      refine z_aload_n B 27 rfl 0 1 rfl rfl ?_
      obtain ⟨r6, ec, hf⟩ := bd_e hf
      refine z_callV 73 4 [] [] [.int r6.1] X B 28 rfl ob_73 rfl rfl miX4_takeEnd ⟨(iX4_tellFloor _ (List.mem_of_getElem? (i := 11) rfl)), (iX4_tellFloor _ (List.mem_of_getElem? (i := 12) rfl)), (iX4_tellFloor _ (List.mem_of_getElem? (i := 13) rfl))⟩ (ctX4_takeEnd hj ec) ⟨Nat.le_of_ble_eq_true rfl, Nat.le_of_ble_eq_true rfl⟩ rfl rfl (Nat.le_of_ble_eq_true rfl) rfl ?_
      obtain ⟨hb, hf⟩ := bok_e hf
      cases hf
      exact z_iret B 29 rfl (bok_n hb) hQ hr
/-! ZoneCapacity$Teller.tellCeiling()Z -/
def tbX4_tellCeiling : Tb := [(0, .aload_n 0, 1, 1), (1, .invokevirtual 32, 3, 4), (4, .aload_n 0, 1, 5), (5, .iconst 0, 1, 6), (6, .sipush 9999, 3, 9), (9, .invokevirtual 97, 3, 12), (12, .ifCond .ne 5, 3, 15), (15, .iconst 0, 1, 16), (16, .ireturn, 1, 17), (17, .aload_n 0, 1, 18), (18, .getfield 21, 3, 21), (21, .getfield 123, 3, 24), (24, .aload_n 0, 1, 25), (25, .getfield 100, 3, 28), (28, .putfield 158, 3, 31), (31, .aload_n 0, 1, 32), (32, .invokevirtual 107, 3, 35), (35, .ireturn, 1, 36)]
theorem dtX4_tellCeiling : ∀ q ∈ tbX4_tellCeiling, decode cX4_tellCeiling q.1 = .ok (q.2.1, q.2.2.1) ∧ q.1 + q.2.2.1 = q.2.2.2 := by decide +kernel
theorem miX4_tellCeiling : MI yX4_tellCeiling cX4_tellCeiling 1 (some .boolean) 0 := ⟨tw_mem (List.mem_of_getElem? (i := 546) (by decide +kernel)) rfl, by decide, by decide +kernel, tw_mem (List.mem_of_getElem? (i := 76) (by decide +kernel)) rfl⟩
abbrev rmX4_tellCeiling : Room := { frames := 3, cells := 0, slots := 0, locals := 64 }
def wX4_tellCeiling : List Cond := [.methodLink "ZoneCapacity$Teller" 32 yX4_advance, .instanceMethod yX4_advance, .selects "ZoneCapacity$Teller" yX4_advance yX4_advance, .methodLink "ZoneCapacity$Teller" 97 yX4_takeNumber, .instanceMethod yX4_takeNumber, .selects "ZoneCapacity$Teller" yX4_takeNumber yX4_takeNumber, .fieldLink "ZoneCapacity$Teller" 21 "ZoneCapacity$Teller" "draft" "LZoneCapacity$Market;", .fieldLink "ZoneCapacity$Teller" 123 "ZoneCapacity$Market" "offers" "LZoneCapacity$Offers;", .fieldLink "ZoneCapacity$Teller" 100 "ZoneCapacity$Teller" "got" "I", .fieldLink "ZoneCapacity$Teller" 158 "ZoneCapacity$Offers" "ceiling" "I", .methodLink "ZoneCapacity$Teller" 107 yX4_takeEnd, .instanceMethod yX4_takeEnd, .selects "ZoneCapacity$Teller" yX4_takeEnd yX4_takeEnd]
theorem iX4_tellCeiling : ∀ w ∈ wX4_tellCeiling, w ∈ TW := tw_of (ids := [381, 383, 0, 462, 464, 5, 289, 214, 297, 160, 472, 474, 6]) (by decide +kernel)
def f4_tellCeiling (mm : Mem) : Option (Int32 × Mem) := bd (f4_advance mm) (fun r1 => bd (f4_takeNumber r1 (0 : Int32) (9999 : Int32)) (fun r2 => if r2.1 = 0 then some ((0 : Int32), r2.2) else nm (up2 r2.2 84 1 (r2.2 73 7)) (fun m3 => bd (f4_takeEnd m3) (fun r4 => bok r4.1 (some (r4.1, r4.2))))))
theorem ctX4_tellCeiling {l : Launch} {C : Cfg} (hj : Dj C) {mm : Mem} {x : (Int32 × Mem)} (hf : f4_tellCeiling mm = some x) : Ct l C yX4_tellCeiling cX4_tellCeiling 1 (some .boolean) 3 64 [.ref 73] mm (some (.int x.1)) x.2 := by
  refine Ct.of (tb := tbX4_tellCeiling) hj miX4_tellCeiling.2.1 miX4_tellCeiling.1 dtX4_tellCeiling (Nat.le_of_ble_eq_true rfl) ?_
  intro E B hQ hr X
  unfold f4_tellCeiling at hf
  show G E 1 0 [(0, .ref 73)] [] mm
  refine z_aload_n B 0 rfl 0 0 rfl rfl ?_
  obtain ⟨r1, ec, hf⟩ := bd_e hf
  refine z_callV 73 4 [] [] [] X B 1 rfl ob_73 rfl rfl miX4_advance ⟨(iX4_tellCeiling _ (List.mem_of_getElem? (i := 0) rfl)), (iX4_tellCeiling _ (List.mem_of_getElem? (i := 1) rfl)), (iX4_tellCeiling _ (List.mem_of_getElem? (i := 2) rfl))⟩ (ctX4_advance hj ec) ⟨Nat.le_of_ble_eq_true rfl, Nat.le_of_ble_eq_true rfl⟩ rfl rfl (Nat.le_of_ble_eq_true rfl) rfl ?_
  refine z_aload_n B 2 rfl 0 0 rfl rfl ?_
  refine z_iconst 0 B 3 rfl (by decide) ?_
  refine z_sipush 9999 B 4 rfl (by decide) ?_
  obtain ⟨r2, ec, hf⟩ := bd_e hf
  refine z_callV 73 4 [.int (0 : Int32), .int (9999 : Int32)] [] [.int r2.1] X B 5 rfl ob_73 rfl rfl miX4_takeNumber ⟨(iX4_tellCeiling _ (List.mem_of_getElem? (i := 3) rfl)), (iX4_tellCeiling _ (List.mem_of_getElem? (i := 4) rfl)), (iX4_tellCeiling _ (List.mem_of_getElem? (i := 5) rfl))⟩ (ctX4_takeNumber hj ec) ⟨Nat.le_of_ble_eq_true rfl, Nat.le_of_ble_eq_true rfl⟩ rfl rfl (Nat.le_of_ble_eq_true rfl) rfl ?_
  by_cases hc : r2.1 = 0
  · replace hf := (if_pos hc).symm.trans hf
    refine z_if_ne_f B 6 rfl 17 (by decide) hc ?_
    refine z_iconst 0 B 7 rfl (by decide) ?_
    cases hf
    exact z_iret B 8 rfl (by decide) hQ hr
  · replace hf := (if_neg hc).symm.trans hf
    refine z_if_ne_t B 6 rfl 17 (by decide) hc ?_
    refine z_aload_n B 9 rfl 0 0 rfl rfl ?_
    refine z_getr 4 1 73 B 10 rfl ob_73 rfl (iX4_tellCeiling _ (List.mem_of_getElem? (i := 6) rfl)) rfl ?_
    refine z_getr 1 1 76 B 11 rfl ob_76 rfl (iX4_tellCeiling _ (List.mem_of_getElem? (i := 7) rfl)) rfl ?_
    refine z_aload_n B 12 rfl 0 0 rfl rfl ?_
    refine z_geti 4 7 73 B 13 rfl ob_73 rfl (iX4_tellCeiling _ (List.mem_of_getElem? (i := 8) rfl)) rfl ?_
    refine z_puti 2 1 84 B 14 rfl ob_84 rfl (iX4_tellCeiling _ (List.mem_of_getElem? (i := 9) rfl)) rfl (ty := .int) (by decide) rfl rfl rfl ?_
    obtain ⟨m3, ex, hf⟩ := nm_x hf
    refine z_mem ex ?_
    refine z_aload_n B 15 rfl 0 0 rfl rfl ?_
    obtain ⟨r4, ec, hf⟩ := bd_e hf
    refine z_callV 73 4 [] [] [.int r4.1] X B 16 rfl ob_73 rfl rfl miX4_takeEnd ⟨(iX4_tellCeiling _ (List.mem_of_getElem? (i := 10) rfl)), (iX4_tellCeiling _ (List.mem_of_getElem? (i := 11) rfl)), (iX4_tellCeiling _ (List.mem_of_getElem? (i := 12) rfl))⟩ (ctX4_takeEnd hj ec) ⟨Nat.le_of_ble_eq_true rfl, Nat.le_of_ble_eq_true rfl⟩ rfl rfl (Nat.le_of_ble_eq_true rfl) rfl ?_
    obtain ⟨hb, hf⟩ := bok_e hf
    cases hf
    exact z_iret B 17 rfl (bok_n hb) hQ hr
/-! ZoneCapacity$Teller.tellLimits()Z -/
def tbX4_tellLimits : Tb := [(0, .aload_n 0, 1, 1), (1, .getfield 21, 3, 4), (4, .getfield 88, 3, 7), (7, .astore_n 1, 1, 8), (8, .aload_n 0, 1, 9), (9, .invokevirtual 32, 3, 12), (12, .aload_n 0, 1, 13), (13, .iconst 1, 1, 14), (14, .aload_n 1, 1, 15), (15, .getfield 92, 3, 18), (18, .iconst 1, 1, 19), (19, .isub, 1, 20), (20, .invokevirtual 97, 3, 23), (23, .ifCond .ne 5, 3, 26), (26, .iconst 0, 1, 27), (27, .ireturn, 1, 28), (28, .aload_n 0, 1, 29), (29, .getfield 100, 3, 32), (32, .istore_n 2, 1, 33), (33, .aload_n 0, 1, 34), (34, .iconst 0, 1, 35), (35, .sipush 9999, 3, 38), (38, .invokevirtual 97, 3, 41), (41, .ifCond .ne 5, 3, 44), (44, .iconst 0, 1, 45), (45, .ireturn, 1, 46), (46, .aload_n 1, 1, 47), (47, .getfield 160, 3, 50), (50, .iload_n 2, 1, 51), (51, .aload_n 0, 1, 52), (52, .getfield 100, 3, 55), (55, .invokestatic 154, 3, 58), (58, .aload_n 0, 1, 59), (59, .iconst 0, 1, 60), (60, .sipush 9999, 3, 63), (63, .invokevirtual 97, 3, 66), (66, .ifCond .ne 5, 3, 69), (69, .iconst 0, 1, 70), (70, .ireturn, 1, 71), (71, .aload_n 1, 1, 72), (72, .getfield 163, 3, 75), (75, .iload_n 2, 1, 76), (76, .aload_n 0, 1, 77), (77, .getfield 100, 3, 80), (80, .invokestatic 154, 3, 83), (83, .aload_n 0, 1, 84), (84, .invokevirtual 107, 3, 87), (87, .ireturn, 1, 88)]
theorem dtX4_tellLimits : ∀ q ∈ tbX4_tellLimits, decode cX4_tellLimits q.1 = .ok (q.2.1, q.2.2.1) ∧ q.1 + q.2.2.1 = q.2.2.2 := by decide +kernel
theorem miX4_tellLimits : MI yX4_tellLimits cX4_tellLimits 3 (some .boolean) 0 := ⟨tw_mem (List.mem_of_getElem? (i := 551) (by decide +kernel)) rfl, by decide, by decide +kernel, tw_mem (List.mem_of_getElem? (i := 76) (by decide +kernel)) rfl⟩
abbrev rmX4_tellLimits : Room := { frames := 3, cells := 0, slots := 0, locals := 64 }
def wX4_tellLimits : List Cond := [.fieldLink "ZoneCapacity$Teller" 21 "ZoneCapacity$Teller" "draft" "LZoneCapacity$Market;", .fieldLink "ZoneCapacity$Teller" 88 "ZoneCapacity$Market" "zones" "LZoneCapacity$Zones;", .methodLink "ZoneCapacity$Teller" 32 yX4_advance, .instanceMethod yX4_advance, .selects "ZoneCapacity$Teller" yX4_advance yX4_advance, .fieldLink "ZoneCapacity$Teller" 92 "ZoneCapacity$Zones" "many" "I", .methodLink "ZoneCapacity$Teller" 97 yX4_takeNumber, .instanceMethod yX4_takeNumber, .selects "ZoneCapacity$Teller" yX4_takeNumber yX4_takeNumber, .fieldLink "ZoneCapacity$Teller" 100 "ZoneCapacity$Teller" "got" "I", .fieldLink "ZoneCapacity$Teller" 160 "ZoneCapacity$Zones" "in" "[I", .static yX6_put, .fieldLink "ZoneCapacity$Teller" 163 "ZoneCapacity$Zones" "out" "[I", .methodLink "ZoneCapacity$Teller" 107 yX4_takeEnd, .instanceMethod yX4_takeEnd, .selects "ZoneCapacity$Teller" yX4_takeEnd yX4_takeEnd]
theorem iX4_tellLimits : ∀ w ∈ wX4_tellLimits, w ∈ TW := tw_of (ids := [289, 210, 381, 383, 0, 116, 462, 464, 5, 297, 122, 348, 126, 472, 474, 6]) (by decide +kernel)
def f4_tellLimits (mm : Mem) : Option (Int32 × Mem) := bd (f4_advance mm) (fun r1 => bd (f4_takeNumber r1 (1 : Int32) ((r1 77 0) - (1 : Int32))) (fun r2 => if r2.1 = 0 then some ((0 : Int32), r2.2) else nm (r2.2 73 7) (fun v3 => bd (f4_takeNumber r2.2 (0 : Int32) (9999 : Int32)) (fun r4 => if r4.1 = 0 then some ((0 : Int32), r4.2) else bd (f6_put r4.2 79 v3 (r4.2 73 7)) (fun r5 => bd (f4_takeNumber r5 (0 : Int32) (9999 : Int32)) (fun r6 => if r6.1 = 0 then some ((0 : Int32), r6.2) else bd (f6_put r6.2 80 v3 (r6.2 73 7)) (fun r7 => bd (f4_takeEnd r7) (fun r8 => bok r8.1 (some (r8.1, r8.2))))))))))
theorem ctX4_tellLimits {l : Launch} {C : Cfg} (hj : Dj C) {mm : Mem} {x : (Int32 × Mem)} (hf : f4_tellLimits mm = some x) : Ct l C yX4_tellLimits cX4_tellLimits 3 (some .boolean) 3 64 [.ref 73] mm (some (.int x.1)) x.2 := by
  refine Ct.of (tb := tbX4_tellLimits) hj miX4_tellLimits.2.1 miX4_tellLimits.1 dtX4_tellLimits (Nat.le_of_ble_eq_true rfl) ?_
  intro E B hQ hr X
  unfold f4_tellLimits at hf
  show G E 3 0 [(0, .ref 73)] [] mm
  refine z_aload_n B 0 rfl 0 0 rfl rfl ?_
  refine z_getr 4 1 73 B 1 rfl ob_73 rfl (iX4_tellLimits _ (List.mem_of_getElem? (i := 0) rfl)) rfl ?_
  refine z_getr 1 0 76 B 2 rfl ob_76 rfl (iX4_tellLimits _ (List.mem_of_getElem? (i := 1) rfl)) rfl ?_
  refine z_astore_n [(1, .ref 77), (0, .ref 73)] B 3 rfl 1 rfl (by decide) rfl ?_
  refine z_aload_n B 4 rfl 0 1 rfl rfl ?_
  obtain ⟨r1, ec, hf⟩ := bd_e hf
  refine z_callV 73 4 [] [] [] X B 5 rfl ob_73 rfl rfl miX4_advance ⟨(iX4_tellLimits _ (List.mem_of_getElem? (i := 2) rfl)), (iX4_tellLimits _ (List.mem_of_getElem? (i := 3) rfl)), (iX4_tellLimits _ (List.mem_of_getElem? (i := 4) rfl))⟩ (ctX4_advance hj ec) ⟨Nat.le_of_ble_eq_true rfl, Nat.le_of_ble_eq_true rfl⟩ rfl rfl (Nat.le_of_ble_eq_true rfl) rfl ?_
  refine z_aload_n B 6 rfl 0 1 rfl rfl ?_
  refine z_iconst 1 B 7 rfl (by decide) ?_
  refine z_aload_n B 8 rfl 1 0 rfl rfl ?_
  refine z_geti 5 0 77 B 9 rfl ob_77 rfl (iX4_tellLimits _ (List.mem_of_getElem? (i := 5) rfl)) rfl ?_
  refine z_iconst 1 B 10 rfl (by decide) ?_
  refine z_isub B 11 rfl ?_
  obtain ⟨r2, ec, hf⟩ := bd_e hf
  refine z_callV 73 4 [.int (1 : Int32), .int ((r1 77 0) - (1 : Int32))] [] [.int r2.1] X B 12 rfl ob_73 rfl rfl miX4_takeNumber ⟨(iX4_tellLimits _ (List.mem_of_getElem? (i := 6) rfl)), (iX4_tellLimits _ (List.mem_of_getElem? (i := 7) rfl)), (iX4_tellLimits _ (List.mem_of_getElem? (i := 8) rfl))⟩ (ctX4_takeNumber hj ec) ⟨Nat.le_of_ble_eq_true rfl, Nat.le_of_ble_eq_true rfl⟩ rfl rfl (Nat.le_of_ble_eq_true rfl) rfl ?_
  by_cases hc : r2.1 = 0
  · replace hf := (if_pos hc).symm.trans hf
    refine z_if_ne_f B 13 rfl 28 (by decide) hc ?_
    refine z_iconst 0 B 14 rfl (by decide) ?_
    cases hf
    exact z_iret B 15 rfl (by decide) hQ hr
  · replace hf := (if_neg hc).symm.trans hf
    refine z_if_ne_t B 13 rfl 28 (by decide) hc ?_
    refine z_aload_n B 16 rfl 0 1 rfl rfl ?_
    refine z_geti 4 7 73 B 17 rfl ob_73 rfl (iX4_tellLimits _ (List.mem_of_getElem? (i := 9) rfl)) rfl ?_
    obtain ⟨v3, ex, hf⟩ := nm_x hf
    refine z_top ex ?_
    refine z_istore_n [(2, .int v3), (1, .ref 77), (0, .ref 73)] B 18 rfl 2 rfl (by decide) rfl ?_
    refine z_aload_n B 19 rfl 0 2 rfl rfl ?_
    refine z_iconst 0 B 20 rfl (by decide) ?_
    refine z_sipush 9999 B 21 rfl (by decide) ?_
    obtain ⟨r4, ec, hf⟩ := bd_e hf
    refine z_callV 73 4 [.int (0 : Int32), .int (9999 : Int32)] [] [.int r4.1] X B 22 rfl ob_73 rfl rfl miX4_takeNumber ⟨(iX4_tellLimits _ (List.mem_of_getElem? (i := 6) rfl)), (iX4_tellLimits _ (List.mem_of_getElem? (i := 7) rfl)), (iX4_tellLimits _ (List.mem_of_getElem? (i := 8) rfl))⟩ (ctX4_takeNumber hj ec) ⟨Nat.le_of_ble_eq_true rfl, Nat.le_of_ble_eq_true rfl⟩ rfl rfl (Nat.le_of_ble_eq_true rfl) rfl ?_
    by_cases hc : r4.1 = 0
    · replace hf := (if_pos hc).symm.trans hf
      refine z_if_ne_f B 23 rfl 46 (by decide) hc ?_
      refine z_iconst 0 B 24 rfl (by decide) ?_
      cases hf
      exact z_iret B 25 rfl (by decide) hQ hr
    · replace hf := (if_neg hc).symm.trans hf
      refine z_if_ne_t B 23 rfl 46 (by decide) hc ?_
      refine z_aload_n B 26 rfl 1 1 rfl rfl ?_
      refine z_getr 5 2 77 B 27 rfl ob_77 rfl (iX4_tellLimits _ (List.mem_of_getElem? (i := 10) rfl)) rfl ?_
      refine z_iload_n B 28 rfl 2 0 rfl rfl ?_
      refine z_aload_n B 29 rfl 0 2 rfl rfl ?_
      refine z_geti 4 7 73 B 30 rfl ob_73 rfl (iX4_tellLimits _ (List.mem_of_getElem? (i := 9) rfl)) rfl ?_
      obtain ⟨r5, ec, hf⟩ := bd_e hf
      refine z_callN [.ref 79, .int v3, .int (r4.2 73 7)] [] [] X B 31 rfl miX6_put ⟨List.mem_of_getElem? (i := 17) rfl, (iX4_tellLimits _ (List.mem_of_getElem? (i := 11) rfl))⟩ (ctX6_put hj ob_79 ec) ⟨Nat.le_of_ble_eq_true rfl, Nat.le_of_ble_eq_true rfl⟩ rfl rfl (Nat.le_of_ble_eq_true rfl) rfl ?_
      refine z_aload_n B 32 rfl 0 2 rfl rfl ?_
      refine z_iconst 0 B 33 rfl (by decide) ?_
      refine z_sipush 9999 B 34 rfl (by decide) ?_
      obtain ⟨r6, ec, hf⟩ := bd_e hf
      refine z_callV 73 4 [.int (0 : Int32), .int (9999 : Int32)] [] [.int r6.1] X B 35 rfl ob_73 rfl rfl miX4_takeNumber ⟨(iX4_tellLimits _ (List.mem_of_getElem? (i := 6) rfl)), (iX4_tellLimits _ (List.mem_of_getElem? (i := 7) rfl)), (iX4_tellLimits _ (List.mem_of_getElem? (i := 8) rfl))⟩ (ctX4_takeNumber hj ec) ⟨Nat.le_of_ble_eq_true rfl, Nat.le_of_ble_eq_true rfl⟩ rfl rfl (Nat.le_of_ble_eq_true rfl) rfl ?_
      by_cases hc : r6.1 = 0
      · replace hf := (if_pos hc).symm.trans hf
        refine z_if_ne_f B 36 rfl 71 (by decide) hc ?_
        refine z_iconst 0 B 37 rfl (by decide) ?_
        cases hf
        exact z_iret B 38 rfl (by decide) hQ hr
      · replace hf := (if_neg hc).symm.trans hf
        refine z_if_ne_t B 36 rfl 71 (by decide) hc ?_
        refine z_aload_n B 39 rfl 1 1 rfl rfl ?_
        refine z_getr 5 3 77 B 40 rfl ob_77 rfl (iX4_tellLimits _ (List.mem_of_getElem? (i := 12) rfl)) rfl ?_
        refine z_iload_n B 41 rfl 2 0 rfl rfl ?_
        refine z_aload_n B 42 rfl 0 2 rfl rfl ?_
        refine z_geti 4 7 73 B 43 rfl ob_73 rfl (iX4_tellLimits _ (List.mem_of_getElem? (i := 9) rfl)) rfl ?_
        obtain ⟨r7, ec, hf⟩ := bd_e hf
        refine z_callN [.ref 80, .int v3, .int (r6.2 73 7)] [] [] X B 44 rfl miX6_put ⟨List.mem_of_getElem? (i := 17) rfl, (iX4_tellLimits _ (List.mem_of_getElem? (i := 11) rfl))⟩ (ctX6_put hj ob_80 ec) ⟨Nat.le_of_ble_eq_true rfl, Nat.le_of_ble_eq_true rfl⟩ rfl rfl (Nat.le_of_ble_eq_true rfl) rfl ?_
        refine z_aload_n B 45 rfl 0 2 rfl rfl ?_
        obtain ⟨r8, ec, hf⟩ := bd_e hf
        refine z_callV 73 4 [] [] [.int r8.1] X B 46 rfl ob_73 rfl rfl miX4_takeEnd ⟨(iX4_tellLimits _ (List.mem_of_getElem? (i := 13) rfl)), (iX4_tellLimits _ (List.mem_of_getElem? (i := 14) rfl)), (iX4_tellLimits _ (List.mem_of_getElem? (i := 15) rfl))⟩ (ctX4_takeEnd hj ec) ⟨Nat.le_of_ble_eq_true rfl, Nat.le_of_ble_eq_true rfl⟩ rfl rfl (Nat.le_of_ble_eq_true rfl) rfl ?_
        obtain ⟨hb, hf⟩ := bok_e hf
        cases hf
        exact z_iret B 47 rfl (bok_n hb) hQ hr
/-! ZoneCapacity$Teller.tellStatement()Z -/
def tbX4_tellStatement : Tb := [(0, .aload_n 0, 1, 1), (1, .ldc 42, 2, 3), (3, .invokevirtual 44, 3, 6), (6, .ifCond .eq 8, 3, 9), (9, .aload_n 0, 1, 10), (10, .invokevirtual 48, 3, 13), (13, .ireturn, 1, 14), (14, .aload_n 0, 1, 15), (15, .ldc 51, 2, 17), (17, .invokevirtual 44, 3, 20), (20, .ifCond .eq 8, 3, 23), (23, .aload_n 0, 1, 24), (24, .invokevirtual 53, 3, 27), (27, .ireturn, 1, 28), (28, .aload_n 0, 1, 29), (29, .ldc 56, 2, 31), (31, .invokevirtual 44, 3, 34), (34, .ifCond .eq 8, 3, 37), (37, .aload_n 0, 1, 38), (38, .invokevirtual 58, 3, 41), (41, .ireturn, 1, 42), (42, .aload_n 0, 1, 43), (43, .ldc 61, 2, 45), (45, .invokevirtual 44, 3, 48), (48, .ifCond .eq 8, 3, 51), (51, .aload_n 0, 1, 52), (52, .invokevirtual 63, 3, 55), (55, .ireturn, 1, 56), (56, .aload_n 0, 1, 57), (57, .ldc 66, 2, 59), (59, .invokevirtual 44, 3, 62), (62, .ifCond .eq 8, 3, 65), (65, .aload_n 0, 1, 66), (66, .invokevirtual 68, 3, 69), (69, .ireturn, 1, 70), (70, .aload_n 0, 1, 71), (71, .ldc 71, 2, 73), (73, .invokevirtual 44, 3, 76), (76, .ifCond .eq 8, 3, 79), (79, .aload_n 0, 1, 80), (80, .invokevirtual 73, 3, 83), (83, .ireturn, 1, 84), (84, .aload_n 0, 1, 85), (85, .ldc 76, 2, 87), (87, .invokevirtual 44, 3, 90), (90, .ifCond .eq 10, 3, 93), (93, .aload_n 0, 1, 94), (94, .invokevirtual 78, 3, 97), (97, .goto 12, 3, 100), (100, .aload_n 0, 1, 101), (101, .iconst 1, 1, 102), (102, .aload_n 0, 1, 103), (103, .getfield 81, 3, 106), (106, .invokevirtual 84, 3, 109), (109, .ireturn, 1, 110)]
theorem dtX4_tellStatement : ∀ q ∈ tbX4_tellStatement, decode cX4_tellStatement q.1 = .ok (q.2.1, q.2.2.1) ∧ q.1 + q.2.2.1 = q.2.2.2 := by decide +kernel
theorem miX4_tellStatement : MI yX4_tellStatement cX4_tellStatement 1 (some .boolean) 0 := ⟨tw_mem (List.mem_of_getElem? (i := 400) (by decide +kernel)) rfl, by decide, by decide +kernel, tw_mem (List.mem_of_getElem? (i := 76) (by decide +kernel)) rfl⟩
abbrev rmX4_tellStatement : Room := { frames := 7, cells := 0, slots := 0, locals := 155 }
def wX4_tellStatement : List Cond := [.methodLink "ZoneCapacity$Teller" 44 yX4_isWord, .instanceMethod yX4_isWord, .selects "ZoneCapacity$Teller" yX4_isWord yX4_isWord, .fieldLink "ZoneCapacity$Teller" 81 "ZoneCapacity$Teller" "place" "I", .methodLink "ZoneCapacity$Teller" 84 yX4_blame, .instanceMethod yX4_blame, .selects "ZoneCapacity$Teller" yX4_blame yX4_blame, .methodLink "ZoneCapacity$Teller" 78 yX4_tellLimits, .instanceMethod yX4_tellLimits, .selects "ZoneCapacity$Teller" yX4_tellLimits yX4_tellLimits, .methodLink "ZoneCapacity$Teller" 73 yX4_tellCeiling, .instanceMethod yX4_tellCeiling, .selects "ZoneCapacity$Teller" yX4_tellCeiling yX4_tellCeiling, .methodLink "ZoneCapacity$Teller" 68 yX4_tellFloor, .instanceMethod yX4_tellFloor, .selects "ZoneCapacity$Teller" yX4_tellFloor yX4_tellFloor, .methodLink "ZoneCapacity$Teller" 63 yX4_tellOffer, .instanceMethod yX4_tellOffer, .selects "ZoneCapacity$Teller" yX4_tellOffer yX4_tellOffer, .methodLink "ZoneCapacity$Teller" 58 yX4_tellResource, .instanceMethod yX4_tellResource, .selects "ZoneCapacity$Teller" yX4_tellResource yX4_tellResource, .methodLink "ZoneCapacity$Teller" 53 yX4_tellCurve, .instanceMethod yX4_tellCurve, .selects "ZoneCapacity$Teller" yX4_tellCurve yX4_tellCurve, .methodLink "ZoneCapacity$Teller" 48 yX4_tellZone, .instanceMethod yX4_tellZone, .selects "ZoneCapacity$Teller" yX4_tellZone yX4_tellZone]
theorem iX4_tellStatement : ∀ w ∈ wX4_tellStatement, w ∈ TW := tw_of (ids := [402, 404, 2, 294, 458, 460, 4, 548, 550, 13, 543, 545, 12, 537, 539, 11, 515, 517, 10, 499, 501, 8, 477, 479, 7, 454, 456, 3]) (by decide +kernel)
def f4_tellStatement (mm : Mem) : Option (Int32 × Mem) := bd (f4_isWord mm 1000) (fun r1 => if r1 = 0 then bd (f4_isWord mm 1001) (fun r2 => if r2 = 0 then bd (f4_isWord mm 1002) (fun r3 => if r3 = 0 then bd (f4_isWord mm 1003) (fun r4 => if r4 = 0 then bd (f4_isWord mm 1004) (fun r5 => if r5 = 0 then bd (f4_isWord mm 1005) (fun r6 => if r6 = 0 then bd (f4_isWord mm 1006) (fun r7 => if r7 = 0 then bd (f4_blame mm (1 : Int32) (mm 73 4)) (fun r8 => bok r8.1 (some (r8.1, r8.2))) else bd (f4_tellLimits mm) (fun r9 => bok r9.1 (some (r9.1, r9.2)))) else bd (f4_tellCeiling mm) (fun r10 => bok r10.1 (some (r10.1, r10.2)))) else bd (f4_tellFloor mm) (fun r11 => bok r11.1 (some (r11.1, r11.2)))) else bd (f4_tellOffer mm) (fun r12 => bok r12.1 (some (r12.1, r12.2)))) else bd (f4_tellResource mm) (fun r13 => bok r13.1 (some (r13.1, r13.2)))) else bd (f4_tellCurve mm) (fun r14 => bok r14.1 (some (r14.1, r14.2)))) else bd (f4_tellZone mm) (fun r15 => bok r15.1 (some (r15.1, r15.2))))
theorem ctX4_tellStatement {l : Launch} {C : Cfg} (hj : Dj C) {mm : Mem} {x : (Int32 × Mem)} (hf : f4_tellStatement mm = some x) : Ct l C yX4_tellStatement cX4_tellStatement 1 (some .boolean) 7 155 [.ref 73] mm (some (.int x.1)) x.2 := by
  refine Ct.of (tb := tbX4_tellStatement) hj miX4_tellStatement.2.1 miX4_tellStatement.1 dtX4_tellStatement (Nat.le_of_ble_eq_true rfl) ?_
  intro E B hQ hr X
  unfold f4_tellStatement at hf
  show G E 1 0 [(0, .ref 73)] [] mm
  refine z_aload_n B 0 rfl 0 0 rfl rfl ?_
  refine z_ldcs 0 1000 B 1 rfl rfl rfl rfl ?_
  obtain ⟨r1, ec, hf⟩ := bd_e hf
  refine z_callV 73 4 [.ref 1000] [] [.int r1] X B 2 rfl ob_73 rfl rfl miX4_isWord ⟨(iX4_tellStatement _ (List.mem_of_getElem? (i := 0) rfl)), (iX4_tellStatement _ (List.mem_of_getElem? (i := 1) rfl)), (iX4_tellStatement _ (List.mem_of_getElem? (i := 2) rfl))⟩ (ctX4_isWord hj (so_mk 0 (by decide)) ec) ⟨Nat.le_of_ble_eq_true rfl, Nat.le_of_ble_eq_true rfl⟩ rfl rfl (Nat.le_of_ble_eq_true rfl) rfl ?_
  by_cases hc : r1 = 0
  · replace hf := (if_pos hc).symm.trans hf
    refine z_if_eq_t B 3 rfl 14 (by decide) hc ?_
    refine z_aload_n B 7 rfl 0 0 rfl rfl ?_
    refine z_ldcs 1 1001 B 8 rfl rfl rfl rfl ?_
    obtain ⟨r2, ec, hf⟩ := bd_e hf
    refine z_callV 73 4 [.ref 1001] [] [.int r2] X B 9 rfl ob_73 rfl rfl miX4_isWord ⟨(iX4_tellStatement _ (List.mem_of_getElem? (i := 0) rfl)), (iX4_tellStatement _ (List.mem_of_getElem? (i := 1) rfl)), (iX4_tellStatement _ (List.mem_of_getElem? (i := 2) rfl))⟩ (ctX4_isWord hj (so_mk 1 (by decide)) ec) ⟨Nat.le_of_ble_eq_true rfl, Nat.le_of_ble_eq_true rfl⟩ rfl rfl (Nat.le_of_ble_eq_true rfl) rfl ?_
    by_cases hc : r2 = 0
    · replace hf := (if_pos hc).symm.trans hf
      refine z_if_eq_t B 10 rfl 28 (by decide) hc ?_
      refine z_aload_n B 14 rfl 0 0 rfl rfl ?_
      refine z_ldcs 2 1002 B 15 rfl rfl rfl rfl ?_
      obtain ⟨r3, ec, hf⟩ := bd_e hf
      refine z_callV 73 4 [.ref 1002] [] [.int r3] X B 16 rfl ob_73 rfl rfl miX4_isWord ⟨(iX4_tellStatement _ (List.mem_of_getElem? (i := 0) rfl)), (iX4_tellStatement _ (List.mem_of_getElem? (i := 1) rfl)), (iX4_tellStatement _ (List.mem_of_getElem? (i := 2) rfl))⟩ (ctX4_isWord hj (so_mk 2 (by decide)) ec) ⟨Nat.le_of_ble_eq_true rfl, Nat.le_of_ble_eq_true rfl⟩ rfl rfl (Nat.le_of_ble_eq_true rfl) rfl ?_
      by_cases hc : r3 = 0
      · replace hf := (if_pos hc).symm.trans hf
        refine z_if_eq_t B 17 rfl 42 (by decide) hc ?_
        refine z_aload_n B 21 rfl 0 0 rfl rfl ?_
        refine z_ldcs 3 1003 B 22 rfl rfl rfl rfl ?_
        obtain ⟨r4, ec, hf⟩ := bd_e hf
        refine z_callV 73 4 [.ref 1003] [] [.int r4] X B 23 rfl ob_73 rfl rfl miX4_isWord ⟨(iX4_tellStatement _ (List.mem_of_getElem? (i := 0) rfl)), (iX4_tellStatement _ (List.mem_of_getElem? (i := 1) rfl)), (iX4_tellStatement _ (List.mem_of_getElem? (i := 2) rfl))⟩ (ctX4_isWord hj (so_mk 3 (by decide)) ec) ⟨Nat.le_of_ble_eq_true rfl, Nat.le_of_ble_eq_true rfl⟩ rfl rfl (Nat.le_of_ble_eq_true rfl) rfl ?_
        by_cases hc : r4 = 0
        · replace hf := (if_pos hc).symm.trans hf
          refine z_if_eq_t B 24 rfl 56 (by decide) hc ?_
          refine z_aload_n B 28 rfl 0 0 rfl rfl ?_
          refine z_ldcs 4 1004 B 29 rfl rfl rfl rfl ?_
          obtain ⟨r5, ec, hf⟩ := bd_e hf
          refine z_callV 73 4 [.ref 1004] [] [.int r5] X B 30 rfl ob_73 rfl rfl miX4_isWord ⟨(iX4_tellStatement _ (List.mem_of_getElem? (i := 0) rfl)), (iX4_tellStatement _ (List.mem_of_getElem? (i := 1) rfl)), (iX4_tellStatement _ (List.mem_of_getElem? (i := 2) rfl))⟩ (ctX4_isWord hj (so_mk 4 (by decide)) ec) ⟨Nat.le_of_ble_eq_true rfl, Nat.le_of_ble_eq_true rfl⟩ rfl rfl (Nat.le_of_ble_eq_true rfl) rfl ?_
          by_cases hc : r5 = 0
          · replace hf := (if_pos hc).symm.trans hf
            refine z_if_eq_t B 31 rfl 70 (by decide) hc ?_
            refine z_aload_n B 35 rfl 0 0 rfl rfl ?_
            refine z_ldcs 5 1005 B 36 rfl rfl rfl rfl ?_
            obtain ⟨r6, ec, hf⟩ := bd_e hf
            refine z_callV 73 4 [.ref 1005] [] [.int r6] X B 37 rfl ob_73 rfl rfl miX4_isWord ⟨(iX4_tellStatement _ (List.mem_of_getElem? (i := 0) rfl)), (iX4_tellStatement _ (List.mem_of_getElem? (i := 1) rfl)), (iX4_tellStatement _ (List.mem_of_getElem? (i := 2) rfl))⟩ (ctX4_isWord hj (so_mk 5 (by decide)) ec) ⟨Nat.le_of_ble_eq_true rfl, Nat.le_of_ble_eq_true rfl⟩ rfl rfl (Nat.le_of_ble_eq_true rfl) rfl ?_
            by_cases hc : r6 = 0
            · replace hf := (if_pos hc).symm.trans hf
              refine z_if_eq_t B 38 rfl 84 (by decide) hc ?_
              refine z_aload_n B 42 rfl 0 0 rfl rfl ?_
              refine z_ldcs 6 1006 B 43 rfl rfl rfl rfl ?_
              obtain ⟨r7, ec, hf⟩ := bd_e hf
              refine z_callV 73 4 [.ref 1006] [] [.int r7] X B 44 rfl ob_73 rfl rfl miX4_isWord ⟨(iX4_tellStatement _ (List.mem_of_getElem? (i := 0) rfl)), (iX4_tellStatement _ (List.mem_of_getElem? (i := 1) rfl)), (iX4_tellStatement _ (List.mem_of_getElem? (i := 2) rfl))⟩ (ctX4_isWord hj (so_mk 6 (by decide)) ec) ⟨Nat.le_of_ble_eq_true rfl, Nat.le_of_ble_eq_true rfl⟩ rfl rfl (Nat.le_of_ble_eq_true rfl) rfl ?_
              by_cases hc : r7 = 0
              · replace hf := (if_pos hc).symm.trans hf
                refine z_if_eq_t B 45 rfl 100 (by decide) hc ?_
                refine z_aload_n B 49 rfl 0 0 rfl rfl ?_
                refine z_iconst 1 B 50 rfl (by decide) ?_
                refine z_aload_n B 51 rfl 0 0 rfl rfl ?_
                refine z_geti 4 4 73 B 52 rfl ob_73 rfl (iX4_tellStatement _ (List.mem_of_getElem? (i := 3) rfl)) rfl ?_
                obtain ⟨r8, ec, hf⟩ := bd_e hf
                refine z_callV 73 4 [.int (1 : Int32), .int (mm 73 4)] [] [.int r8.1] X B 53 rfl ob_73 rfl rfl miX4_blame ⟨(iX4_tellStatement _ (List.mem_of_getElem? (i := 4) rfl)), (iX4_tellStatement _ (List.mem_of_getElem? (i := 5) rfl)), (iX4_tellStatement _ (List.mem_of_getElem? (i := 6) rfl))⟩ (ctX4_blame hj ec) ⟨Nat.le_of_ble_eq_true rfl, Nat.le_of_ble_eq_true rfl⟩ rfl rfl (Nat.le_of_ble_eq_true rfl) rfl ?_
                obtain ⟨hb, hf⟩ := bok_e hf
                cases hf
                exact z_iret B 54 rfl (bok_n hb) hQ hr
              · replace hf := (if_neg hc).symm.trans hf
                refine z_if_eq_f B 45 rfl 100 (by decide) hc ?_
                refine z_aload_n B 46 rfl 0 0 rfl rfl ?_
                obtain ⟨r9, ec, hf⟩ := bd_e hf
                refine z_callV 73 4 [] [] [.int r9.1] X B 47 rfl ob_73 rfl rfl miX4_tellLimits ⟨(iX4_tellStatement _ (List.mem_of_getElem? (i := 7) rfl)), (iX4_tellStatement _ (List.mem_of_getElem? (i := 8) rfl)), (iX4_tellStatement _ (List.mem_of_getElem? (i := 9) rfl))⟩ (ctX4_tellLimits hj ec) ⟨Nat.le_of_ble_eq_true rfl, Nat.le_of_ble_eq_true rfl⟩ rfl rfl (Nat.le_of_ble_eq_true rfl) rfl ?_
                refine z_goto B 48 rfl 109 (by decide) ?_
                obtain ⟨hb, hf⟩ := bok_e hf
                cases hf
                exact z_iret B 54 rfl (bok_n hb) hQ hr
            · replace hf := (if_neg hc).symm.trans hf
              refine z_if_eq_f B 38 rfl 84 (by decide) hc ?_
              refine z_aload_n B 39 rfl 0 0 rfl rfl ?_
              obtain ⟨r10, ec, hf⟩ := bd_e hf
              refine z_callV 73 4 [] [] [.int r10.1] X B 40 rfl ob_73 rfl rfl miX4_tellCeiling ⟨(iX4_tellStatement _ (List.mem_of_getElem? (i := 10) rfl)), (iX4_tellStatement _ (List.mem_of_getElem? (i := 11) rfl)), (iX4_tellStatement _ (List.mem_of_getElem? (i := 12) rfl))⟩ (ctX4_tellCeiling hj ec) ⟨Nat.le_of_ble_eq_true rfl, Nat.le_of_ble_eq_true rfl⟩ rfl rfl (Nat.le_of_ble_eq_true rfl) rfl ?_
              obtain ⟨hb, hf⟩ := bok_e hf
              cases hf
              exact z_iret B 41 rfl (bok_n hb) hQ hr
          · replace hf := (if_neg hc).symm.trans hf
            refine z_if_eq_f B 31 rfl 70 (by decide) hc ?_
            refine z_aload_n B 32 rfl 0 0 rfl rfl ?_
            obtain ⟨r11, ec, hf⟩ := bd_e hf
            refine z_callV 73 4 [] [] [.int r11.1] X B 33 rfl ob_73 rfl rfl miX4_tellFloor ⟨(iX4_tellStatement _ (List.mem_of_getElem? (i := 13) rfl)), (iX4_tellStatement _ (List.mem_of_getElem? (i := 14) rfl)), (iX4_tellStatement _ (List.mem_of_getElem? (i := 15) rfl))⟩ (ctX4_tellFloor hj ec) ⟨Nat.le_of_ble_eq_true rfl, Nat.le_of_ble_eq_true rfl⟩ rfl rfl (Nat.le_of_ble_eq_true rfl) rfl ?_
            obtain ⟨hb, hf⟩ := bok_e hf
            cases hf
            exact z_iret B 34 rfl (bok_n hb) hQ hr
        · replace hf := (if_neg hc).symm.trans hf
          refine z_if_eq_f B 24 rfl 56 (by decide) hc ?_
          refine z_aload_n B 25 rfl 0 0 rfl rfl ?_
          obtain ⟨r12, ec, hf⟩ := bd_e hf
          refine z_callV 73 4 [] [] [.int r12.1] X B 26 rfl ob_73 rfl rfl miX4_tellOffer ⟨(iX4_tellStatement _ (List.mem_of_getElem? (i := 16) rfl)), (iX4_tellStatement _ (List.mem_of_getElem? (i := 17) rfl)), (iX4_tellStatement _ (List.mem_of_getElem? (i := 18) rfl))⟩ (ctX4_tellOffer hj ec) ⟨Nat.le_of_ble_eq_true rfl, Nat.le_of_ble_eq_true rfl⟩ rfl rfl (Nat.le_of_ble_eq_true rfl) rfl ?_
          obtain ⟨hb, hf⟩ := bok_e hf
          cases hf
          exact z_iret B 27 rfl (bok_n hb) hQ hr
      · replace hf := (if_neg hc).symm.trans hf
        refine z_if_eq_f B 17 rfl 42 (by decide) hc ?_
        refine z_aload_n B 18 rfl 0 0 rfl rfl ?_
        obtain ⟨r13, ec, hf⟩ := bd_e hf
        refine z_callV 73 4 [] [] [.int r13.1] X B 19 rfl ob_73 rfl rfl miX4_tellResource ⟨(iX4_tellStatement _ (List.mem_of_getElem? (i := 19) rfl)), (iX4_tellStatement _ (List.mem_of_getElem? (i := 20) rfl)), (iX4_tellStatement _ (List.mem_of_getElem? (i := 21) rfl))⟩ (ctX4_tellResource hj ec) ⟨Nat.le_of_ble_eq_true rfl, Nat.le_of_ble_eq_true rfl⟩ rfl rfl (Nat.le_of_ble_eq_true rfl) rfl ?_
        obtain ⟨hb, hf⟩ := bok_e hf
        cases hf
        exact z_iret B 20 rfl (bok_n hb) hQ hr
    · replace hf := (if_neg hc).symm.trans hf
      refine z_if_eq_f B 10 rfl 28 (by decide) hc ?_
      refine z_aload_n B 11 rfl 0 0 rfl rfl ?_
      obtain ⟨r14, ec, hf⟩ := bd_e hf
      refine z_callV 73 4 [] [] [.int r14.1] X B 12 rfl ob_73 rfl rfl miX4_tellCurve ⟨(iX4_tellStatement _ (List.mem_of_getElem? (i := 22) rfl)), (iX4_tellStatement _ (List.mem_of_getElem? (i := 23) rfl)), (iX4_tellStatement _ (List.mem_of_getElem? (i := 24) rfl))⟩ (ctX4_tellCurve hj ec) ⟨Nat.le_of_ble_eq_true rfl, Nat.le_of_ble_eq_true rfl⟩ rfl rfl (Nat.le_of_ble_eq_true rfl) rfl ?_
      obtain ⟨hb, hf⟩ := bok_e hf
      cases hf
      exact z_iret B 13 rfl (bok_n hb) hQ hr
  · replace hf := (if_neg hc).symm.trans hf
    refine z_if_eq_f B 3 rfl 14 (by decide) hc ?_
    refine z_aload_n B 4 rfl 0 0 rfl rfl ?_
    obtain ⟨r15, ec, hf⟩ := bd_e hf
    refine z_callV 73 4 [] [] [.int r15.1] X B 5 rfl ob_73 rfl rfl miX4_tellZone ⟨(iX4_tellStatement _ (List.mem_of_getElem? (i := 25) rfl)), (iX4_tellStatement _ (List.mem_of_getElem? (i := 26) rfl)), (iX4_tellStatement _ (List.mem_of_getElem? (i := 27) rfl))⟩ (ctX4_tellZone hj ec) ⟨Nat.le_of_ble_eq_true rfl, Nat.le_of_ble_eq_true rfl⟩ rfl rfl (Nat.le_of_ble_eq_true rfl) rfl ?_
    obtain ⟨hb, hf⟩ := bok_e hf
    cases hf
    exact z_iret B 6 rfl (bok_n hb) hQ hr
/-! ZoneCapacity$Teller.tellAll()I -/
def tbX4_tellAll : Tb := [(0, .aload_n 0, 1, 1), (1, .iconst 0, 1, 2), (2, .putfield 25, 3, 5), (5, .aload_n 0, 1, 6), (6, .iconst 0, 1, 7), (7, .putfield 29, 3, 10), (10, .aload_n 0, 1, 11), (11, .invokevirtual 32, 3, 14), (14, .iconst 0, 1, 15), (15, .istore_n 1, 1, 16), (16, .aload_n 0, 1, 17), (17, .getfield 35, 3, 20), (20, .iconst 3, 1, 21), (21, .if_icmp .eq 25, 3, 24), (24, .iload_n 1, 1, 25), (25, .sipush 500, 3, 28), (28, .if_icmp .ge 18, 3, 31), (31, .aload_n 0, 1, 32), (32, .invokevirtual 38, 3, 35), (35, .ifCond .ne 5, 3, 38), (38, .iconst (-1), 1, 39), (39, .ireturn, 1, 40), (40, .iinc 1 1, 3, 43), (43, .goto (-27), 3, 46), (46, .iload_n 1, 1, 47), (47, .ireturn, 1, 48)]
theorem dtX4_tellAll : ∀ q ∈ tbX4_tellAll, decode cX4_tellAll q.1 = .ok (q.2.1, q.2.2.1) ∧ q.1 + q.2.2.1 = q.2.2.2 := by decide +kernel
theorem miX4_tellAll : MI yX4_tellAll cX4_tellAll 2 (some .int) 0 := ⟨tw_mem (List.mem_of_getElem? (i := 380) (by decide +kernel)) rfl, by decide, by decide +kernel, tw_mem (List.mem_of_getElem? (i := 76) (by decide +kernel)) rfl⟩
abbrev rmX4_tellAll : Room := { frames := 8, cells := 0, slots := 0, locals := 175 }
def wX4_tellAll : List Cond := [.fieldLink "ZoneCapacity$Teller" 25 "ZoneCapacity$Teller" "fault" "I", .fieldLink "ZoneCapacity$Teller" 29 "ZoneCapacity$Teller" "next" "I", .methodLink "ZoneCapacity$Teller" 32 yX4_advance, .instanceMethod yX4_advance, .selects "ZoneCapacity$Teller" yX4_advance yX4_advance, .fieldLink "ZoneCapacity$Teller" 35 "ZoneCapacity$Teller" "token" "I", .methodLink "ZoneCapacity$Teller" 38 yX4_tellStatement, .instanceMethod yX4_tellStatement, .selects "ZoneCapacity$Teller" yX4_tellStatement yX4_tellStatement]
theorem iX4_tellAll : ∀ w ∈ wX4_tellAll, w ∈ TW := tw_of (ids := [291, 296, 381, 383, 0, 293, 397, 399, 1]) (by decide +kernel)
def f4_tellAll_l16 : Nat → Int32 → Mem → Option (Int32 × Mem)
  | 0, _, _ => none
  | n + 1, x1, mm => if (mm 73 3) = (3 : Int32) then some (x1, mm) else if x1 < (500 : Int32) then bd (f4_tellStatement mm) (fun r4 => if r4.1 = 0 then some ((-1 : Int32), r4.2) else nm (x1 + 1) (fun v5 => f4_tellAll_l16 n v5 r4.2)) else some (x1, mm)
theorem f4_tellAll_l16_ok {E : Ev} {l : Launch} {C : Cfg} {x : (Int32 × Mem)} (hj : Dj C) (X : Ec E l C rmX4_tellAll) (B : Bx E RX4 tbX4_tellAll 2 (some .int)) (hQ : Rt E) (hr : Rs E (some (.int x.1)) x.2) (n : Nat) : ∀ (x1 : Int32) (mm : Mem), f4_tellAll_l16 n x1 mm = some x → G E 2 16 [(0, .ref 73), (1, .int x1)] [] mm := by
  induction n with
  | zero =>
    intro x1 mm hf
    rw [f4_tellAll_l16] at hf
    cases hf
  | succ n ih =>
    intro x1 mm hf
    rw [f4_tellAll_l16] at hf
    refine z_aload_n B 10 rfl 0 0 rfl rfl ?_
    refine z_geti 4 3 73 B 11 rfl ob_73 rfl (iX4_tellAll _ (List.mem_of_getElem? (i := 5) rfl)) rfl ?_
    refine z_iconst 3 B 12 rfl (by decide) ?_
    by_cases hc : (mm 73 3) = (3 : Int32)
    · replace hf := (if_pos hc).symm.trans hf
      refine z_icmp_eq_t B 13 rfl 46 (by decide) hc ?_
      refine z_iload_n B 24 rfl 1 1 rfl rfl ?_
      cases hf
      exact z_iret B 25 rfl rfl hQ hr
    · replace hf := (if_neg hc).symm.trans hf
      refine z_icmp_eq_f B 13 rfl 46 (by decide) hc ?_
      refine z_iload_n B 14 rfl 1 1 rfl rfl ?_
      refine z_sipush 500 B 15 rfl (by decide) ?_
      by_cases hc : x1 < (500 : Int32)
      · replace hf := (if_pos hc).symm.trans hf
        refine z_icmp_ge_f B 16 rfl 46 (by decide) hc ?_
        refine z_aload_n B 17 rfl 0 0 rfl rfl ?_
        obtain ⟨r4, ec, hf⟩ := bd_e hf
        refine z_callV 73 4 [] [] [.int r4.1] X B 18 rfl ob_73 rfl rfl miX4_tellStatement ⟨(iX4_tellAll _ (List.mem_of_getElem? (i := 6) rfl)), (iX4_tellAll _ (List.mem_of_getElem? (i := 7) rfl)), (iX4_tellAll _ (List.mem_of_getElem? (i := 8) rfl))⟩ (ctX4_tellStatement hj ec) ⟨Nat.le_of_ble_eq_true rfl, Nat.le_of_ble_eq_true rfl⟩ rfl rfl (Nat.le_of_ble_eq_true rfl) rfl ?_
        by_cases hc : r4.1 = 0
        · replace hf := (if_pos hc).symm.trans hf
          refine z_if_ne_f B 19 rfl 40 (by decide) hc ?_
          refine z_iconst (-1) B 20 rfl (by decide) ?_
          cases hf
          exact z_iret B 21 rfl rfl hQ hr
        · replace hf := (if_neg hc).symm.trans hf
          refine z_if_ne_t B 19 rfl 40 (by decide) hc ?_
          obtain ⟨v5, ex, hf⟩ := nm_x hf
          refine z_iinc v5 [(1, .int v5), (0, .ref 73)] B 22 rfl 1 rfl (ex.symm) (by decide) rfl ?_
          refine z_goto B 23 rfl 16 (by decide) ?_
          refine z_sub [(0, .ref 73), (1, .int v5)] [1, 0] rfl ?_
          exact ih _ _ hf
      · replace hf := (if_neg hc).symm.trans hf
        refine z_icmp_ge_t B 16 rfl 46 (by decide) hc ?_
        refine z_iload_n B 24 rfl 1 1 rfl rfl ?_
        cases hf
        exact z_iret B 25 rfl rfl hQ hr
def f4_tellAll (mm : Mem) : Option (Int32 × Mem) := nm (up2 mm 73 2 (0 : Int32)) (fun m1 => nm (up2 m1 73 6 (0 : Int32)) (fun m2 => bd (f4_advance m2) (fun r3 => f4_tellAll_l16 FU (0 : Int32) r3)))
theorem ctX4_tellAll {l : Launch} {C : Cfg} (hj : Dj C) {mm : Mem} {x : (Int32 × Mem)} (hf : f4_tellAll mm = some x) : Ct l C yX4_tellAll cX4_tellAll 2 (some .int) 8 175 [.ref 73] mm (some (.int x.1)) x.2 := by
  refine Ct.of (tb := tbX4_tellAll) hj miX4_tellAll.2.1 miX4_tellAll.1 dtX4_tellAll (Nat.le_of_ble_eq_true rfl) ?_
  intro E B hQ hr X
  unfold f4_tellAll at hf
  show G E 2 0 [(0, .ref 73)] [] mm
  refine z_aload_n B 0 rfl 0 0 rfl rfl ?_
  refine z_iconst 0 B 1 rfl (by decide) ?_
  refine z_puti 4 2 73 B 2 rfl ob_73 rfl (iX4_tellAll _ (List.mem_of_getElem? (i := 0) rfl)) rfl (ty := .int) (by decide) rfl rfl rfl ?_
  obtain ⟨m1, ex, hf⟩ := nm_x hf
  refine z_mem ex ?_
  refine z_aload_n B 3 rfl 0 0 rfl rfl ?_
  refine z_iconst 0 B 4 rfl (by decide) ?_
  refine z_puti 4 6 73 B 5 rfl ob_73 rfl (iX4_tellAll _ (List.mem_of_getElem? (i := 1) rfl)) rfl (ty := .int) (by decide) rfl rfl rfl ?_
  obtain ⟨m2, ex, hf⟩ := nm_x hf
  refine z_mem ex ?_
  refine z_aload_n B 6 rfl 0 0 rfl rfl ?_
  obtain ⟨r3, ec, hf⟩ := bd_e hf
  refine z_callV 73 4 [] [] [] X B 7 rfl ob_73 rfl rfl miX4_advance ⟨(iX4_tellAll _ (List.mem_of_getElem? (i := 2) rfl)), (iX4_tellAll _ (List.mem_of_getElem? (i := 3) rfl)), (iX4_tellAll _ (List.mem_of_getElem? (i := 4) rfl))⟩ (ctX4_advance hj ec) ⟨Nat.le_of_ble_eq_true rfl, Nat.le_of_ble_eq_true rfl⟩ rfl rfl (Nat.le_of_ble_eq_true rfl) rfl ?_
  refine z_iconst 0 B 8 rfl (by decide) ?_
  refine z_istore_n [(1, .int (0 : Int32)), (0, .ref 73)] B 9 rfl 1 rfl (by decide) rfl ?_
  refine z_sub [(0, .ref 73), (1, .int (0 : Int32))] [1, 0] rfl ?_
  exact f4_tellAll_l16_ok hj X B hQ hr FU _ _ hf
/-! ZoneCapacity$Zones.has(I)Z -/
def tbX5_has : Tb := [(0, .iload_n 1, 1, 1), (1, .ifCond .lt 15, 3, 4), (4, .iload_n 1, 1, 5), (5, .aload_n 0, 1, 6), (6, .getfield 9, 3, 9), (9, .if_icmp .ge 7, 3, 12), (12, .iconst 1, 1, 13), (13, .goto 4, 3, 16), (16, .iconst 0, 1, 17), (17, .ireturn, 1, 18)]
theorem dtX5_has : ∀ q ∈ tbX5_has, decode cX5_has q.1 = .ok (q.2.1, q.2.2.1) ∧ q.1 + q.2.2.1 = q.2.2.2 := by decide +kernel
theorem miX5_has : MI yX5_has cX5_has 2 (some .boolean) 1 := ⟨tw_mem (List.mem_of_getElem? (i := 564) (by decide +kernel)) rfl, by decide, by decide +kernel, tw_mem (List.mem_of_getElem? (i := 74) (by decide +kernel)) rfl⟩
abbrev rmX5_has : Room := { frames := 0, cells := 0, slots := 0, locals := 0 }
def wX5_has : List Cond := [.fieldLink "ZoneCapacity$Zones" 9 "ZoneCapacity$Zones" "many" "I"]
theorem iX5_has : ∀ w ∈ wX5_has, w ∈ TW := tw_of (ids := [114]) (by decide +kernel)
def f5_has (mm : Mem) (a0 : Nat) (a1 : Int32) : Option Int32 := if a1 < 0 then some ((0 : Int32)) else if a1 < (mm a0 0) then some ((1 : Int32)) else some ((0 : Int32))
theorem ctX5_has {l : Launch} {C : Cfg} (hj : Dj C) {mm : Mem} {a0 : Nat} {a1 : Int32} {x : Int32} (o_a0 : Ob a0 5) (hf : f5_has mm a0 a1 = some x) : Ct l C yX5_has cX5_has 2 (some .boolean) 0 0 [.ref a0, .int a1] mm (some (.int x)) mm := by
  refine Ct.of (tb := tbX5_has) hj miX5_has.2.1 miX5_has.1 dtX5_has (Nat.le_of_ble_eq_true rfl) ?_
  intro E B hQ hr X
  unfold f5_has at hf
  show G E 2 0 [(0, .ref a0), (1, .int a1)] [] mm
  refine z_iload_n B 0 rfl 1 1 rfl rfl ?_
  by_cases hc : a1 < 0
  · replace hf := (if_pos hc).symm.trans hf
    refine z_if_lt_t B 1 rfl 16 (by decide) hc ?_
    refine z_iconst 0 B 8 rfl (by decide) ?_
    cases hf
    exact z_iret B 9 rfl (by decide) hQ hr
  · replace hf := (if_neg hc).symm.trans hf
    refine z_if_lt_f B 1 rfl 16 (by decide) hc ?_
    refine z_iload_n B 2 rfl 1 1 rfl rfl ?_
    refine z_aload_n B 3 rfl 0 0 rfl rfl ?_
    refine z_geti 5 0 a0 B 4 rfl o_a0 rfl (iX5_has _ (List.mem_of_getElem? (i := 0) rfl)) rfl ?_
    by_cases hc : a1 < (mm a0 0)
    · replace hf := (if_pos hc).symm.trans hf
      refine z_icmp_ge_f B 5 rfl 16 (by decide) hc ?_
      refine z_iconst 1 B 6 rfl (by decide) ?_
      refine z_goto B 7 rfl 17 (by decide) ?_
      cases hf
      exact z_iret B 9 rfl (by decide) hQ hr
    · replace hf := (if_neg hc).symm.trans hf
      refine z_icmp_ge_t B 5 rfl 16 (by decide) hc ?_
      refine z_iconst 0 B 8 rfl (by decide) ?_
      cases hf
      exact z_iret B 9 rfl (by decide) hQ hr
/-! ZoneCapacity$Zones.hasInner(I)Z -/
def tbX5_hasInner : Tb := [(0, .iload_n 1, 1, 1), (1, .ifCond .eq 15, 3, 4), (4, .aload_n 0, 1, 5), (5, .iload_n 1, 1, 6), (6, .invokevirtual 38, 3, 9), (9, .ifCond .eq 7, 3, 12), (12, .iconst 1, 1, 13), (13, .goto 4, 3, 16), (16, .iconst 0, 1, 17), (17, .ireturn, 1, 18)]
theorem dtX5_hasInner : ∀ q ∈ tbX5_hasInner, decode cX5_hasInner q.1 = .ok (q.2.1, q.2.2.1) ∧ q.1 + q.2.2.1 = q.2.2.2 := by decide +kernel
theorem miX5_hasInner : MI yX5_hasInner cX5_hasInner 2 (some .boolean) 1 := ⟨tw_mem (List.mem_of_getElem? (i := 611) (by decide +kernel)) rfl, by decide, by decide +kernel, tw_mem (List.mem_of_getElem? (i := 74) (by decide +kernel)) rfl⟩
abbrev rmX5_hasInner : Room := { frames := 1, cells := 0, slots := 0, locals := 21 }
def wX5_hasInner : List Cond := [.methodLink "ZoneCapacity$Zones" 38 yX5_has, .instanceMethod yX5_has, .selects "ZoneCapacity$Zones" yX5_has yX5_has]
theorem iX5_hasInner : ∀ w ∈ wX5_hasInner, w ∈ TW := tw_of (ids := [612, 562, 563]) (by decide +kernel)
def f5_hasInner (mm : Mem) (a0 : Nat) (a1 : Int32) : Option Int32 := if a1 = 0 then some ((0 : Int32)) else bd (f5_has mm a0 a1) (fun r1 => if r1 = 0 then some ((0 : Int32)) else some ((1 : Int32)))
theorem ctX5_hasInner {l : Launch} {C : Cfg} (hj : Dj C) {mm : Mem} {a0 : Nat} {a1 : Int32} {x : Int32} (o_a0 : Ob a0 5) (hf : f5_hasInner mm a0 a1 = some x) : Ct l C yX5_hasInner cX5_hasInner 2 (some .boolean) 1 21 [.ref a0, .int a1] mm (some (.int x)) mm := by
  refine Ct.of (tb := tbX5_hasInner) hj miX5_hasInner.2.1 miX5_hasInner.1 dtX5_hasInner (Nat.le_of_ble_eq_true rfl) ?_
  intro E B hQ hr X
  unfold f5_hasInner at hf
  show G E 2 0 [(0, .ref a0), (1, .int a1)] [] mm
  refine z_iload_n B 0 rfl 1 1 rfl rfl ?_
  by_cases hc : a1 = 0
  · replace hf := (if_pos hc).symm.trans hf
    refine z_if_eq_t B 1 rfl 16 (by decide) hc ?_
    refine z_iconst 0 B 8 rfl (by decide) ?_
    cases hf
    exact z_iret B 9 rfl (by decide) hQ hr
  · replace hf := (if_neg hc).symm.trans hf
    refine z_if_eq_f B 1 rfl 16 (by decide) hc ?_
    refine z_aload_n B 2 rfl 0 0 rfl rfl ?_
    refine z_iload_n B 3 rfl 1 1 rfl rfl ?_
    obtain ⟨r1, ec, hf⟩ := bd_e hf
    refine z_callV a0 5 [.int a1] [] [.int r1] X B 4 rfl o_a0 rfl rfl miX5_has ⟨(iX5_hasInner _ (List.mem_of_getElem? (i := 0) rfl)), (iX5_hasInner _ (List.mem_of_getElem? (i := 1) rfl)), (iX5_hasInner _ (List.mem_of_getElem? (i := 2) rfl))⟩ (ctX5_has hj o_a0 ec) ⟨Nat.le_of_ble_eq_true rfl, Nat.le_of_ble_eq_true rfl⟩ rfl rfl (Nat.le_of_ble_eq_true rfl) rfl ?_
    by_cases hc : r1 = 0
    · replace hf := (if_pos hc).symm.trans hf
      refine z_if_eq_t B 5 rfl 16 (by decide) hc ?_
      refine z_iconst 0 B 8 rfl (by decide) ?_
      cases hf
      exact z_iret B 9 rfl (by decide) hQ hr
    · replace hf := (if_neg hc).symm.trans hf
      refine z_if_eq_f B 5 rfl 16 (by decide) hc ?_
      refine z_iconst 1 B 6 rfl (by decide) ?_
      refine z_goto B 7 rfl 17 (by decide) ?_
      cases hf
      exact z_iret B 9 rfl (by decide) hQ hr
/-! ZoneCapacity$Zones.worthOf(II)I -/
def tbX5_worthOf : Tb := [(0, .iload_n 2, 1, 1), (1, .iconst 1, 1, 2), (2, .if_icmp .ge 5, 3, 5), (5, .iconst (-1), 1, 6), (6, .ireturn, 1, 7), (7, .iconst 0, 1, 8), (8, .istore_n 3, 1, 9), (9, .aload_n 0, 1, 10), (10, .getfield 31, 3, 13), (13, .iload_n 1, 1, 14), (14, .iconst 4, 1, 15), (15, .imul, 1, 16), (16, .invokestatic 46, 3, 19), (19, .istore 4, 2, 21), (21, .iconst 0, 1, 22), (22, .istore 5, 2, 24), (24, .iload 5, 2, 26), (26, .aload_n 0, 1, 27), (27, .getfield 25, 3, 30), (30, .iload_n 1, 1, 31), (31, .invokestatic 46, 3, 34), (34, .if_icmp .ge 71, 3, 37), (37, .aload_n 0, 1, 38), (38, .getfield 28, 3, 41), (41, .iload_n 1, 1, 42), (42, .iconst 4, 1, 43), (43, .imul, 1, 44), (44, .iload 5, 2, 46), (46, .iadd, 1, 47), (47, .invokestatic 46, 3, 50), (50, .istore 6, 2, 52), (52, .aload_n 0, 1, 53), (53, .getfield 31, 3, 56), (56, .iload_n 1, 1, 57), (57, .iconst 4, 1, 58), (58, .imul, 1, 59), (59, .iload 5, 2, 61), (61, .iadd, 1, 62), (62, .invokestatic 46, 3, 65), (65, .istore 7, 2, 67), (67, .iload_n 2, 1, 68), (68, .iload 6, 2, 70), (70, .if_icmp .gt 22, 3, 73), (73, .iload 4, 2, 75), (75, .iload 4, 2, 77), (77, .iload 7, 2, 79), (79, .isub, 1, 80), (80, .iload_n 2, 1, 81), (81, .iload_n 3, 1, 82), (82, .isub, 1, 83), (83, .iload 6, 2, 85), (85, .iload_n 3, 1, 86), (86, .isub, 1, 87), (87, .invokestatic 50, 3, 90), (90, .isub, 1, 91), (91, .ireturn, 1, 92), (92, .iload 6, 2, 94), (94, .istore_n 3, 1, 95), (95, .iload 7, 2, 97), (97, .istore 4, 2, 99), (99, .iinc 5 1, 3, 102), (102, .goto (-78), 3, 105), (105, .iconst (-1), 1, 106), (106, .ireturn, 1, 107)]
theorem dtX5_worthOf : ∀ q ∈ tbX5_worthOf, decode cX5_worthOf q.1 = .ok (q.2.1, q.2.2.1) ∧ q.1 + q.2.2.1 = q.2.2.2 := by decide +kernel
theorem miX5_worthOf : MI yX5_worthOf cX5_worthOf 8 (some .int) 2 := ⟨tw_mem (List.mem_of_getElem? (i := 658) (by decide +kernel)) rfl, by decide, by decide +kernel, tw_mem (List.mem_of_getElem? (i := 74) (by decide +kernel)) rfl⟩
abbrev rmX5_worthOf : Room := { frames := 1, cells := 0, slots := 0, locals := 22 }
def wX5_worthOf : List Cond := [.fieldLink "ZoneCapacity$Zones" 31 "ZoneCapacity$Zones" "pointPrices" "[I", .static yX6_at, .fieldLink "ZoneCapacity$Zones" 25 "ZoneCapacity$Zones" "points" "[I", .fieldLink "ZoneCapacity$Zones" 28 "ZoneCapacity$Zones" "pointUnits" "[I", .methodLink "ZoneCapacity$Zones" 50 yX5_fallen, .static yX5_fallen]
theorem iX5_worthOf : ∀ w ∈ wX5_worthOf, w ∈ TW := tw_of (ids := [132, 386, 129, 131, 659, 660]) (by decide +kernel)
def f5_worthOf_l24 (mm : Mem) : Nat → Nat → Int32 → Int32 → Int32 → Int32 → Int32 → Option Int32
  | 0, _, _, _, _, _, _ => none
  | n + 1, x0, x1, x2, x3, x4, x5 => bd (f6_at mm (x0 + 4) x1) (fun r2 => if x5 < r2 then bd (f6_at mm (x0 + 5) ((x1 * (4 : Int32)) + x5)) (fun r3 => bd (f6_at mm (x0 + 6) ((x1 * (4 : Int32)) + x5)) (fun r4 => if r3 < x2 then nm (x5 + 1) (fun v5 => f5_worthOf_l24 mm n x0 x1 x2 r3 r4 v5) else bd (f5_fallen mm (x4 - r4) (x2 - x3) (r3 - x3)) (fun r6 => some (x4 - r6)))) else some ((-1 : Int32)))
theorem f5_worthOf_l24_ok {E : Ev} {l : Launch} {C : Cfg} {mm : Mem} {x : Int32} (hj : Dj C) (X : Ec E l C rmX5_worthOf) (B : Bx E RX5 tbX5_worthOf 8 (some .int)) (hQ : Rt E) (hr : Rs E (some (.int x)) mm) (n : Nat) : ∀ (x0 : Nat) (x1 : Int32) (x2 : Int32) (x3 : Int32) (x4 : Int32) (x5 : Int32), Ob x0 5 → f5_worthOf_l24 mm n x0 x1 x2 x3 x4 x5 = some x → G E 8 24 [(0, .ref x0), (1, .int x1), (2, .int x2), (3, .int x3), (4, .int x4), (5, .int x5)] [] mm := by
  induction n with
  | zero =>
    intro x0 x1 x2 x3 x4 x5 o_x0 hf
    rw [f5_worthOf_l24] at hf
    cases hf
  | succ n ih =>
    intro x0 x1 x2 x3 x4 x5 o_x0 hf
    rw [f5_worthOf_l24] at hf
    refine z_iload B 16 rfl 5 rfl ?_
    refine z_aload_n B 17 rfl 0 0 rfl rfl ?_
    refine z_getr 5 4 x0 B 18 rfl o_x0 rfl (iX5_worthOf _ (List.mem_of_getElem? (i := 2) rfl)) rfl ?_
    refine z_iload_n B 19 rfl 1 1 rfl rfl ?_
    obtain ⟨r2, ec, hf⟩ := bd_e hf
    refine z_callN [.ref (x0 + 4), .int x1] [.int x5] [.int r2, .int x5] X B 20 rfl miX6_at ⟨List.mem_of_getElem? (i := 14) rfl, (iX5_worthOf _ (List.mem_of_getElem? (i := 1) rfl))⟩ (ctX6_at hj (obf_5_4 o_x0) ec) ⟨Nat.le_of_ble_eq_true rfl, Nat.le_of_ble_eq_true rfl⟩ rfl rfl (Nat.le_of_ble_eq_true rfl) rfl ?_
    by_cases hc : x5 < r2
    · replace hf := (if_pos hc).symm.trans hf
      refine z_icmp_ge_f B 21 rfl 105 (by decide) hc ?_
      refine z_aload_n B 22 rfl 0 0 rfl rfl ?_
      refine z_getr 5 5 x0 B 23 rfl o_x0 rfl (iX5_worthOf _ (List.mem_of_getElem? (i := 3) rfl)) rfl ?_
      refine z_iload_n B 24 rfl 1 1 rfl rfl ?_
      refine z_iconst 4 B 25 rfl (by decide) ?_
      refine z_imul B 26 rfl ?_
      refine z_iload B 27 rfl 5 rfl ?_
      refine z_iadd B 28 rfl ?_
      obtain ⟨r3, ec, hf⟩ := bd_e hf
      refine z_callN [.ref (x0 + 5), .int ((x1 * (4 : Int32)) + x5)] [] [.int r3] X B 29 rfl miX6_at ⟨List.mem_of_getElem? (i := 14) rfl, (iX5_worthOf _ (List.mem_of_getElem? (i := 1) rfl))⟩ (ctX6_at hj (obf_5_5 o_x0) ec) ⟨Nat.le_of_ble_eq_true rfl, Nat.le_of_ble_eq_true rfl⟩ rfl rfl (Nat.le_of_ble_eq_true rfl) rfl ?_
      refine z_istore [(6, .int r3), (0, .ref x0), (1, .int x1), (2, .int x2), (3, .int x3), (4, .int x4), (5, .int x5)] B 30 rfl (by decide) rfl ?_
      refine z_aload_n B 31 rfl 0 1 rfl rfl ?_
      refine z_getr 5 6 x0 B 32 rfl o_x0 rfl (iX5_worthOf _ (List.mem_of_getElem? (i := 0) rfl)) rfl ?_
      refine z_iload_n B 33 rfl 1 2 rfl rfl ?_
      refine z_iconst 4 B 34 rfl (by decide) ?_
      refine z_imul B 35 rfl ?_
      refine z_iload B 36 rfl 6 rfl ?_
      refine z_iadd B 37 rfl ?_
      obtain ⟨r4, ec, hf⟩ := bd_e hf
      refine z_callN [.ref (x0 + 6), .int ((x1 * (4 : Int32)) + x5)] [] [.int r4] X B 38 rfl miX6_at ⟨List.mem_of_getElem? (i := 14) rfl, (iX5_worthOf _ (List.mem_of_getElem? (i := 1) rfl))⟩ (ctX6_at hj (obf_5_6 o_x0) ec) ⟨Nat.le_of_ble_eq_true rfl, Nat.le_of_ble_eq_true rfl⟩ rfl rfl (Nat.le_of_ble_eq_true rfl) rfl ?_
      refine z_istore [(7, .int r4), (6, .int r3), (0, .ref x0), (1, .int x1), (2, .int x2), (3, .int x3), (4, .int x4), (5, .int x5)] B 39 rfl (by decide) rfl ?_
      refine z_iload_n B 40 rfl 2 4 rfl rfl ?_
      refine z_iload B 41 rfl 1 rfl ?_
      by_cases hc : r3 < x2
      · replace hf := (if_pos hc).symm.trans hf
        refine z_icmp_gt_t B 42 rfl 92 (by decide) hc ?_
        refine z_iload B 56 rfl 1 rfl ?_
        refine z_istore_n [(3, .int r3), (7, .int r4), (6, .int r3), (0, .ref x0), (1, .int x1), (2, .int x2), (4, .int x4), (5, .int x5)] B 57 rfl 3 rfl (by decide) rfl ?_
        refine z_iload B 58 rfl 1 rfl ?_
        refine z_istore [(4, .int r4), (3, .int r3), (7, .int r4), (6, .int r3), (0, .ref x0), (1, .int x1), (2, .int x2), (5, .int x5)] B 59 rfl (by decide) rfl ?_
        obtain ⟨v5, ex, hf⟩ := nm_x hf
        refine z_iinc v5 [(5, .int v5), (4, .int r4), (3, .int r3), (7, .int r4), (6, .int r3), (0, .ref x0), (1, .int x1), (2, .int x2)] B 60 rfl 7 rfl (ex.symm) (by decide) rfl ?_
        refine z_goto B 61 rfl 24 (by decide) ?_
        refine z_sub [(0, .ref x0), (1, .int x1), (2, .int x2), (3, .int r3), (4, .int r4), (5, .int v5)] [5, 6, 7, 2, 1, 0] rfl ?_
        exact ih _ _ _ _ _ _ o_x0  hf
      · replace hf := (if_neg hc).symm.trans hf
        refine z_icmp_gt_f B 42 rfl 92 (by decide) hc ?_
        refine z_iload B 43 rfl 6 rfl ?_
        refine z_iload B 44 rfl 6 rfl ?_
        refine z_iload B 45 rfl 0 rfl ?_
        refine z_isub B 46 rfl ?_
        refine z_iload_n B 47 rfl 2 4 rfl rfl ?_
        refine z_iload_n B 48 rfl 3 5 rfl rfl ?_
        refine z_isub B 49 rfl ?_
        refine z_iload B 50 rfl 1 rfl ?_
        refine z_iload_n B 51 rfl 3 5 rfl rfl ?_
        refine z_isub B 52 rfl ?_
        obtain ⟨r6, ec, hf⟩ := bd_e hf
        refine z_callS [.int (x4 - r4), .int (x2 - x3), .int (r3 - x3)] [.int x4] [.int r6, .int x4] X B 53 rfl miX5_fallen ⟨(iX5_worthOf _ (List.mem_of_getElem? (i := 4) rfl)), (iX5_worthOf _ (List.mem_of_getElem? (i := 5) rfl))⟩ (ctX5_fallen hj ec) ⟨Nat.le_of_ble_eq_true rfl, Nat.le_of_ble_eq_true rfl⟩ rfl rfl (Nat.le_of_ble_eq_true rfl) rfl ?_
        refine z_isub B 54 rfl ?_
        cases hf
        exact z_iret B 55 rfl rfl hQ hr
    · replace hf := (if_neg hc).symm.trans hf
      refine z_icmp_ge_t B 21 rfl 105 (by decide) hc ?_
      refine z_iconst (-1) B 62 rfl (by decide) ?_
      cases hf
      exact z_iret B 63 rfl rfl hQ hr
def f5_worthOf (mm : Mem) (a0 : Nat) (a1 : Int32) (a2 : Int32) : Option Int32 := if a2 < (1 : Int32) then some ((-1 : Int32)) else bd (f6_at mm (a0 + 6) (a1 * (4 : Int32))) (fun r1 => f5_worthOf_l24 mm FU a0 a1 a2 (0 : Int32) r1 (0 : Int32))
theorem ctX5_worthOf {l : Launch} {C : Cfg} (hj : Dj C) {mm : Mem} {a0 : Nat} {a1 : Int32} {a2 : Int32} {x : Int32} (o_a0 : Ob a0 5) (hf : f5_worthOf mm a0 a1 a2 = some x) : Ct l C yX5_worthOf cX5_worthOf 8 (some .int) 1 22 [.ref a0, .int a1, .int a2] mm (some (.int x)) mm := by
  refine Ct.of (tb := tbX5_worthOf) hj miX5_worthOf.2.1 miX5_worthOf.1 dtX5_worthOf (Nat.le_of_ble_eq_true rfl) ?_
  intro E B hQ hr X
  unfold f5_worthOf at hf
  show G E 8 0 [(0, .ref a0), (1, .int a1), (2, .int a2)] [] mm
  refine z_iload_n B 0 rfl 2 2 rfl rfl ?_
  refine z_iconst 1 B 1 rfl (by decide) ?_
  by_cases hc : a2 < (1 : Int32)
  · replace hf := (if_pos hc).symm.trans hf
    refine z_icmp_ge_f B 2 rfl 7 (by decide) hc ?_
    refine z_iconst (-1) B 3 rfl (by decide) ?_
    cases hf
    exact z_iret B 4 rfl rfl hQ hr
  · replace hf := (if_neg hc).symm.trans hf
    refine z_icmp_ge_t B 2 rfl 7 (by decide) hc ?_
    refine z_iconst 0 B 5 rfl (by decide) ?_
    refine z_istore_n [(3, .int (0 : Int32)), (0, .ref a0), (1, .int a1), (2, .int a2)] B 6 rfl 3 rfl (by decide) rfl ?_
    refine z_aload_n B 7 rfl 0 1 rfl rfl ?_
    refine z_getr 5 6 a0 B 8 rfl o_a0 rfl (iX5_worthOf _ (List.mem_of_getElem? (i := 0) rfl)) rfl ?_
    refine z_iload_n B 9 rfl 1 2 rfl rfl ?_
    refine z_iconst 4 B 10 rfl (by decide) ?_
    refine z_imul B 11 rfl ?_
    obtain ⟨r1, ec, hf⟩ := bd_e hf
    refine z_callN [.ref (a0 + 6), .int (a1 * (4 : Int32))] [] [.int r1] X B 12 rfl miX6_at ⟨List.mem_of_getElem? (i := 14) rfl, (iX5_worthOf _ (List.mem_of_getElem? (i := 1) rfl))⟩ (ctX6_at hj (obf_5_6 o_a0) ec) ⟨Nat.le_of_ble_eq_true rfl, Nat.le_of_ble_eq_true rfl⟩ rfl rfl (Nat.le_of_ble_eq_true rfl) rfl ?_
    refine z_istore [(4, .int r1), (3, .int (0 : Int32)), (0, .ref a0), (1, .int a1), (2, .int a2)] B 13 rfl (by decide) rfl ?_
    refine z_iconst 0 B 14 rfl (by decide) ?_
    refine z_istore [(5, .int (0 : Int32)), (4, .int r1), (3, .int (0 : Int32)), (0, .ref a0), (1, .int a1), (2, .int a2)] B 15 rfl (by decide) rfl ?_
    refine z_sub [(0, .ref a0), (1, .int a1), (2, .int a2), (3, .int (0 : Int32)), (4, .int r1), (5, .int (0 : Int32))] [3, 4, 5, 2, 1, 0] rfl ?_
    exact f5_worthOf_l24_ok hj X B hQ hr FU _ _ _ _ _ _ o_a0  hf
/-! ZoneCapacity.feed(IIIII)I -/
def tbX6_feed : Tb := [(0, .aload_n 0, 1, 1), (1, .getfield 22, 3, 4), (4, .getfield 36, 3, 7), (7, .astore 6, 2, 9), (9, .aload 6, 2, 11), (11, .getfield 40, 3, 14), (14, .bipush 20, 2, 16), (16, .iadd, 1, 17), (17, .sipush 500, 3, 20), (20, .if_icmp .le 5, 3, 23), (23, .iconst (-1), 1, 24), (24, .ireturn, 1, 25), (25, .aload 6, 2, 27), (27, .iload_n 1, 1, 28), (28, .invokevirtual 46, 3, 31), (31, .aload 6, 2, 33), (33, .iload_n 2, 1, 34), (34, .invokevirtual 46, 3, 37), (37, .aload 6, 2, 39), (39, .iload_n 3, 1, 40), (40, .invokevirtual 46, 3, 43), (43, .aload 6, 2, 45), (45, .iload 4, 2, 47), (47, .invokevirtual 46, 3, 50), (50, .aload 6, 2, 52), (52, .iload 5, 2, 54), (54, .invokevirtual 46, 3, 57), (57, .aload 6, 2, 59), (59, .getfield 40, 3, 62), (62, .ireturn, 1, 63)]
theorem dtX6_feed : ∀ q ∈ tbX6_feed, decode cX6_feed q.1 = .ok (q.2.1, q.2.2.1) ∧ q.1 + q.2.2.1 = q.2.2.2 := by decide +kernel
theorem miX6_feed : MI yX6_feed cX6_feed 7 (some .int) 5 := ⟨tw_mem (List.mem_of_getElem? (i := 342) (by decide +kernel)) rfl, by decide, by decide +kernel, tw_mem (List.mem_of_getElem? (i := 71) (by decide +kernel)) rfl⟩
abbrev rmX6_feed : Room := { frames := 2, cells := 0, slots := 0, locals := 44 }
def wX6_feed : List Cond := [.fieldLink "ZoneCapacity" 22 "ZoneCapacity" "teller" "LZoneCapacity$Teller;", .fieldLink "ZoneCapacity" 36 "ZoneCapacity$Teller" "tape" "LZoneCapacity$Tape;", .fieldLink "ZoneCapacity" 40 "ZoneCapacity$Tape" "length" "I", .methodLink "ZoneCapacity" 46 yX3_append, .instanceMethod yX3_append, .selects "ZoneCapacity$Tape" yX3_append yX3_append]
theorem iX6_feed : ∀ w ∈ wX6_feed, w ∈ TW := tw_of (ids := [319, 288, 277, 343, 344, 345]) (by decide +kernel)
def f6_feed (mm : Mem) (a1 : Int32) (a2 : Int32) (a3 : Int32) (a4 : Int32) (a5 : Int32) : Option (Int32 × Mem) := if (500 : Int32) < ((mm 74 1) + (20 : Int32)) then some ((-1 : Int32), mm) else bd (f3_append mm a1) (fun r1 => bd (f3_append r1 a2) (fun r2 => bd (f3_append r2 a3) (fun r3 => bd (f3_append r3 a4) (fun r4 => bd (f3_append r4 a5) (fun r5 => some (r5 74 1, r5))))))
theorem ctX6_feed {l : Launch} {C : Cfg} (hj : Dj C) {mm : Mem} {a1 : Int32} {a2 : Int32} {a3 : Int32} {a4 : Int32} {a5 : Int32} {x : (Int32 × Mem)} (hf : f6_feed mm a1 a2 a3 a4 a5 = some x) : Ct l C yX6_feed cX6_feed 7 (some .int) 2 44 [.ref 14, .int a1, .int a2, .int a3, .int a4, .int a5] mm (some (.int x.1)) x.2 := by
  refine Ct.of (tb := tbX6_feed) hj miX6_feed.2.1 miX6_feed.1 dtX6_feed (Nat.le_of_ble_eq_true rfl) ?_
  intro E B hQ hr X
  unfold f6_feed at hf
  show G E 7 0 [(0, .ref 14), (1, .int a1), (2, .int a2), (3, .int a3), (4, .int a4), (5, .int a5)] [] mm
  refine z_aload_n B 0 rfl 0 0 rfl rfl ?_
  refine z_getr 6 2 14 B 1 rfl ob_14 rfl (iX6_feed _ (List.mem_of_getElem? (i := 0) rfl)) rfl ?_
  refine z_getr 4 0 73 B 2 rfl ob_73 rfl (iX6_feed _ (List.mem_of_getElem? (i := 1) rfl)) rfl ?_
  refine z_astore [(6, .ref 74), (0, .ref 14), (1, .int a1), (2, .int a2), (3, .int a3), (4, .int a4), (5, .int a5)] B 3 rfl (by decide) rfl ?_
  refine z_aload B 4 rfl 0 rfl ?_
  refine z_geti 3 1 74 B 5 rfl ob_74 rfl (iX6_feed _ (List.mem_of_getElem? (i := 2) rfl)) rfl ?_
  refine z_bipush 20 B 6 rfl (by decide) ?_
  refine z_iadd B 7 rfl ?_
  refine z_sipush 500 B 8 rfl (by decide) ?_
  by_cases hc : (500 : Int32) < ((mm 74 1) + (20 : Int32))
  · replace hf := (if_pos hc).symm.trans hf
    refine z_icmp_le_f B 9 rfl 25 (by decide) hc ?_
    refine z_iconst (-1) B 10 rfl (by decide) ?_
    cases hf
    exact z_iret B 11 rfl rfl hQ hr
  · replace hf := (if_neg hc).symm.trans hf
    refine z_icmp_le_t B 9 rfl 25 (by decide) hc ?_
    refine z_aload B 12 rfl 0 rfl ?_
    refine z_iload_n B 13 rfl 1 2 rfl rfl ?_
    obtain ⟨r1, ec, hf⟩ := bd_e hf
    refine z_callV 74 3 [.int a1] [] [] X B 14 rfl ob_74 rfl rfl miX3_append ⟨(iX6_feed _ (List.mem_of_getElem? (i := 3) rfl)), (iX6_feed _ (List.mem_of_getElem? (i := 4) rfl)), (iX6_feed _ (List.mem_of_getElem? (i := 5) rfl))⟩ (ctX3_append hj ec) ⟨Nat.le_of_ble_eq_true rfl, Nat.le_of_ble_eq_true rfl⟩ rfl rfl (Nat.le_of_ble_eq_true rfl) rfl ?_
    refine z_aload B 15 rfl 0 rfl ?_
    refine z_iload_n B 16 rfl 2 3 rfl rfl ?_
    obtain ⟨r2, ec, hf⟩ := bd_e hf
    refine z_callV 74 3 [.int a2] [] [] X B 17 rfl ob_74 rfl rfl miX3_append ⟨(iX6_feed _ (List.mem_of_getElem? (i := 3) rfl)), (iX6_feed _ (List.mem_of_getElem? (i := 4) rfl)), (iX6_feed _ (List.mem_of_getElem? (i := 5) rfl))⟩ (ctX3_append hj ec) ⟨Nat.le_of_ble_eq_true rfl, Nat.le_of_ble_eq_true rfl⟩ rfl rfl (Nat.le_of_ble_eq_true rfl) rfl ?_
    refine z_aload B 18 rfl 0 rfl ?_
    refine z_iload_n B 19 rfl 3 4 rfl rfl ?_
    obtain ⟨r3, ec, hf⟩ := bd_e hf
    refine z_callV 74 3 [.int a3] [] [] X B 20 rfl ob_74 rfl rfl miX3_append ⟨(iX6_feed _ (List.mem_of_getElem? (i := 3) rfl)), (iX6_feed _ (List.mem_of_getElem? (i := 4) rfl)), (iX6_feed _ (List.mem_of_getElem? (i := 5) rfl))⟩ (ctX3_append hj ec) ⟨Nat.le_of_ble_eq_true rfl, Nat.le_of_ble_eq_true rfl⟩ rfl rfl (Nat.le_of_ble_eq_true rfl) rfl ?_
    refine z_aload B 21 rfl 0 rfl ?_
    refine z_iload B 22 rfl 5 rfl ?_
    obtain ⟨r4, ec, hf⟩ := bd_e hf
    refine z_callV 74 3 [.int a4] [] [] X B 23 rfl ob_74 rfl rfl miX3_append ⟨(iX6_feed _ (List.mem_of_getElem? (i := 3) rfl)), (iX6_feed _ (List.mem_of_getElem? (i := 4) rfl)), (iX6_feed _ (List.mem_of_getElem? (i := 5) rfl))⟩ (ctX3_append hj ec) ⟨Nat.le_of_ble_eq_true rfl, Nat.le_of_ble_eq_true rfl⟩ rfl rfl (Nat.le_of_ble_eq_true rfl) rfl ?_
    refine z_aload B 24 rfl 0 rfl ?_
    refine z_iload B 25 rfl 6 rfl ?_
    obtain ⟨r5, ec, hf⟩ := bd_e hf
    refine z_callV 74 3 [.int a5] [] [] X B 26 rfl ob_74 rfl rfl miX3_append ⟨(iX6_feed _ (List.mem_of_getElem? (i := 3) rfl)), (iX6_feed _ (List.mem_of_getElem? (i := 4) rfl)), (iX6_feed _ (List.mem_of_getElem? (i := 5) rfl))⟩ (ctX3_append hj ec) ⟨Nat.le_of_ble_eq_true rfl, Nat.le_of_ble_eq_true rfl⟩ rfl rfl (Nat.le_of_ble_eq_true rfl) rfl ?_
    refine z_aload B 27 rfl 0 rfl ?_
    refine z_geti 3 1 74 B 28 rfl ob_74 rfl (iX6_feed _ (List.mem_of_getElem? (i := 2) rfl)) rfl ?_
    cases hf
    exact z_iret B 29 rfl rfl hQ hr
/-! ZoneCapacity.end(I)Z -/
def tbX6_end : Tb := [(0, .iload_n 1, 1, 1), (1, .iconst 0, 1, 2), (2, .aload_n 0, 1, 3), (3, .getfield 22, 3, 6), (6, .getfield 36, 3, 9), (9, .getfield 40, 3, 12), (12, .invokestatic 50, 3, 15), (15, .ifCond .ne 5, 3, 18), (18, .iconst 0, 1, 19), (19, .ireturn, 1, 20), (20, .aload_n 0, 1, 21), (21, .getfield 22, 3, 24), (24, .getfield 36, 3, 27), (27, .iload_n 1, 1, 28), (28, .putfield 40, 3, 31), (31, .iconst 1, 1, 32), (32, .ireturn, 1, 33)]
theorem dtX6_end : ∀ q ∈ tbX6_end, decode cX6_end q.1 = .ok (q.2.1, q.2.2.1) ∧ q.1 + q.2.2.1 = q.2.2.2 := by decide +kernel
theorem miX6_end : MI yX6_end cX6_end 2 (some .boolean) 1 := ⟨tw_mem (List.mem_of_getElem? (i := 353) (by decide +kernel)) rfl, by decide, by decide +kernel, tw_mem (List.mem_of_getElem? (i := 71) (by decide +kernel)) rfl⟩
abbrev rmX6_end : Room := { frames := 1, cells := 0, slots := 0, locals := 22 }
def wX6_end : List Cond := [.fieldLink "ZoneCapacity" 22 "ZoneCapacity" "teller" "LZoneCapacity$Teller;", .fieldLink "ZoneCapacity" 36 "ZoneCapacity$Teller" "tape" "LZoneCapacity$Tape;", .fieldLink "ZoneCapacity" 40 "ZoneCapacity$Tape" "length" "I", .methodLink "ZoneCapacity" 50 yX6_within, .static yX6_within]
theorem iX6_end : ∀ w ∈ wX6_end, w ∈ TW := tw_of (ids := [319, 288, 277, 354, 355]) (by decide +kernel)
def f6_end (mm : Mem) (a1 : Int32) : Option (Int32 × Mem) := bd (f6_within mm a1 (0 : Int32) (mm 74 1)) (fun r1 => if r1 = 0 then some ((0 : Int32), mm) else nm (up2 mm 74 1 a1) (fun m2 => some ((1 : Int32), m2)))
theorem ctX6_end {l : Launch} {C : Cfg} (hj : Dj C) {mm : Mem} {a1 : Int32} {x : (Int32 × Mem)} (hf : f6_end mm a1 = some x) : Ct l C yX6_end cX6_end 2 (some .boolean) 1 22 [.ref 14, .int a1] mm (some (.int x.1)) x.2 := by
  refine Ct.of (tb := tbX6_end) hj miX6_end.2.1 miX6_end.1 dtX6_end (Nat.le_of_ble_eq_true rfl) ?_
  intro E B hQ hr X
  unfold f6_end at hf
  show G E 2 0 [(0, .ref 14), (1, .int a1)] [] mm
  refine z_iload_n B 0 rfl 1 1 rfl rfl ?_
  refine z_iconst 0 B 1 rfl (by decide) ?_
  refine z_aload_n B 2 rfl 0 0 rfl rfl ?_
  refine z_getr 6 2 14 B 3 rfl ob_14 rfl (iX6_end _ (List.mem_of_getElem? (i := 0) rfl)) rfl ?_
  refine z_getr 4 0 73 B 4 rfl ob_73 rfl (iX6_end _ (List.mem_of_getElem? (i := 1) rfl)) rfl ?_
  refine z_geti 3 1 74 B 5 rfl ob_74 rfl (iX6_end _ (List.mem_of_getElem? (i := 2) rfl)) rfl ?_
  obtain ⟨r1, ec, hf⟩ := bd_e hf
  refine z_callS [.int a1, .int (0 : Int32), .int (mm 74 1)] [] [.int r1] X B 6 rfl miX6_within ⟨(iX6_end _ (List.mem_of_getElem? (i := 3) rfl)), (iX6_end _ (List.mem_of_getElem? (i := 4) rfl))⟩ (ctX6_within hj ec) ⟨Nat.le_of_ble_eq_true rfl, Nat.le_of_ble_eq_true rfl⟩ rfl rfl (Nat.le_of_ble_eq_true rfl) rfl ?_
  by_cases hc : r1 = 0
  · replace hf := (if_pos hc).symm.trans hf
    refine z_if_ne_f B 7 rfl 20 (by decide) hc ?_
    refine z_iconst 0 B 8 rfl (by decide) ?_
    cases hf
    exact z_iret B 9 rfl (by decide) hQ hr
  · replace hf := (if_neg hc).symm.trans hf
    refine z_if_ne_t B 7 rfl 20 (by decide) hc ?_
    refine z_aload_n B 10 rfl 0 0 rfl rfl ?_
    refine z_getr 6 2 14 B 11 rfl ob_14 rfl (iX6_end _ (List.mem_of_getElem? (i := 0) rfl)) rfl ?_
    refine z_getr 4 0 73 B 12 rfl ob_73 rfl (iX6_end _ (List.mem_of_getElem? (i := 1) rfl)) rfl ?_
    refine z_iload_n B 13 rfl 1 1 rfl rfl ?_
    refine z_puti 3 1 74 B 14 rfl ob_74 rfl (iX6_end _ (List.mem_of_getElem? (i := 2) rfl)) rfl (ty := .int) (by decide) rfl rfl rfl ?_
    obtain ⟨m2, ex, hf⟩ := nm_x hf
    refine z_mem ex ?_
    refine z_iconst 1 B 15 rfl (by decide) ?_
    cases hf
    exact z_iret B 16 rfl (by decide) hQ hr
/-! ZoneCapacity.tell()I -/
def tbX6_tell : Tb := [(0, .aload_n 0, 1, 1), (1, .getfield 22, 3, 4), (4, .getfield 54, 3, 7), (7, .aload_n 0, 1, 8), (8, .getfield 10, 3, 11), (11, .getfield 57, 3, 14), (14, .invokevirtual 60, 3, 17), (17, .aload_n 0, 1, 18), (18, .getfield 22, 3, 21), (21, .invokevirtual 64, 3, 24), (24, .istore_n 1, 1, 25), (25, .iload_n 1, 1, 26), (26, .iconst (-1), 1, 27), (27, .if_icmp .eq 20, 3, 30), (30, .aload_n 0, 1, 31), (31, .getfield 10, 3, 34), (34, .getfield 57, 3, 37), (37, .aload_n 0, 1, 38), (38, .getfield 22, 3, 41), (41, .getfield 54, 3, 44), (44, .invokevirtual 60, 3, 47), (47, .aload_n 0, 1, 48), (48, .getfield 22, 3, 51), (51, .getfield 36, 3, 54), (54, .iconst 0, 1, 55), (55, .putfield 40, 3, 58), (58, .iload_n 1, 1, 59), (59, .ireturn, 1, 60)]
theorem dtX6_tell : ∀ q ∈ tbX6_tell, decode cX6_tell q.1 = .ok (q.2.1, q.2.2.1) ∧ q.1 + q.2.2.1 = q.2.2.2 := by decide +kernel
theorem miX6_tell : MI yX6_tell cX6_tell 2 (some .int) 0 := ⟨tw_mem (List.mem_of_getElem? (i := 360) (by decide +kernel)) rfl, by decide, by decide +kernel, tw_mem (List.mem_of_getElem? (i := 71) (by decide +kernel)) rfl⟩
abbrev rmX6_tell : Room := { frames := 9, cells := 0, slots := 0, locals := 196 }
def wX6_tell : List Cond := [.fieldLink "ZoneCapacity" 22 "ZoneCapacity" "teller" "LZoneCapacity$Teller;", .fieldLink "ZoneCapacity" 54 "ZoneCapacity$Teller" "draft" "LZoneCapacity$Market;", .fieldLink "ZoneCapacity" 10 "ZoneCapacity" "now" "LZoneCapacity$Auction;", .fieldLink "ZoneCapacity" 57 "ZoneCapacity$Auction" "market" "LZoneCapacity$Market;", .methodLink "ZoneCapacity" 60 yX1_copyFrom, .instanceMethod yX1_copyFrom, .selects "ZoneCapacity$Market" yX1_copyFrom yX1_copyFrom, .methodLink "ZoneCapacity" 64 yX4_tellAll, .instanceMethod yX4_tellAll, .selects "ZoneCapacity$Teller" yX4_tellAll yX4_tellAll, .fieldLink "ZoneCapacity" 36 "ZoneCapacity$Teller" "tape" "LZoneCapacity$Tape;", .fieldLink "ZoneCapacity" 40 "ZoneCapacity$Tape" "length" "I"]
theorem iX6_tell : ∀ w ∈ wX6_tell, w ∈ TW := tw_of (ids := [319, 290, 317, 222, 361, 362, 363, 377, 378, 379, 288, 277]) (by decide +kernel)
def f6_tell_j47 (x1 : Int32) (mm : Mem) : Option (Int32 × Mem) := nm (up2 mm 74 1 (0 : Int32)) (fun m3 => some (x1, m3))
theorem f6_tell_j47_ok {E : Ev} {l : Launch} {C : Cfg} {x : (Int32 × Mem)} (hj : Dj C) (X : Ec E l C rmX6_tell) (B : Bx E RX6 tbX6_tell 2 (some .int)) (hQ : Rt E) (hr : Rs E (some (.int x.1)) x.2) (x1 : Int32) (mm : Mem) (hf : f6_tell_j47 x1 mm = some x) : G E 2 47 [(0, .ref 14), (1, .int x1)] [] mm := by
  unfold f6_tell_j47 at hf
  refine z_aload_n B 21 rfl 0 0 rfl rfl ?_
  refine z_getr 6 2 14 B 22 rfl ob_14 rfl (iX6_tell _ (List.mem_of_getElem? (i := 0) rfl)) rfl ?_
  refine z_getr 4 0 73 B 23 rfl ob_73 rfl (iX6_tell _ (List.mem_of_getElem? (i := 10) rfl)) rfl ?_
  refine z_iconst 0 B 24 rfl (by decide) ?_
  refine z_puti 3 1 74 B 25 rfl ob_74 rfl (iX6_tell _ (List.mem_of_getElem? (i := 11) rfl)) rfl (ty := .int) (by decide) rfl rfl rfl ?_
  obtain ⟨m3, ex, hf⟩ := nm_x hf
  refine z_mem ex ?_
  refine z_iload_n B 26 rfl 1 1 rfl rfl ?_
  cases hf
  exact z_iret B 27 rfl rfl hQ hr
def f6_tell (mm : Mem) : Option (Int32 × Mem) := bd (f1_copyFrom mm 76 16) (fun r1 => bd (f4_tellAll r1) (fun r2 => if r2.1 = (-1 : Int32) then f6_tell_j47 r2.1 r2.2 else bd (f1_copyFrom r2.2 16 76) (fun r4 => f6_tell_j47 r2.1 r4)))
theorem ctX6_tell {l : Launch} {C : Cfg} (hj : Dj C) {mm : Mem} {x : (Int32 × Mem)} (hf : f6_tell mm = some x) : Ct l C yX6_tell cX6_tell 2 (some .int) 9 196 [.ref 14] mm (some (.int x.1)) x.2 := by
  refine Ct.of (tb := tbX6_tell) hj miX6_tell.2.1 miX6_tell.1 dtX6_tell (Nat.le_of_ble_eq_true rfl) ?_
  intro E B hQ hr X
  unfold f6_tell at hf
  show G E 2 0 [(0, .ref 14)] [] mm
  refine z_aload_n B 0 rfl 0 0 rfl rfl ?_
  refine z_getr 6 2 14 B 1 rfl ob_14 rfl (iX6_tell _ (List.mem_of_getElem? (i := 0) rfl)) rfl ?_
  refine z_getr 4 1 73 B 2 rfl ob_73 rfl (iX6_tell _ (List.mem_of_getElem? (i := 1) rfl)) rfl ?_
  refine z_aload_n B 3 rfl 0 0 rfl rfl ?_
  refine z_getr 6 0 14 B 4 rfl ob_14 rfl (iX6_tell _ (List.mem_of_getElem? (i := 2) rfl)) rfl ?_
  refine z_getr 0 0 15 B 5 rfl ob_15 rfl (iX6_tell _ (List.mem_of_getElem? (i := 3) rfl)) rfl ?_
  obtain ⟨r1, ec, hf⟩ := bd_e hf
  refine z_callV 76 1 [.ref 16] [] [] X B 6 rfl ob_76 rfl rfl miX1_copyFrom ⟨(iX6_tell _ (List.mem_of_getElem? (i := 4) rfl)), (iX6_tell _ (List.mem_of_getElem? (i := 5) rfl)), (iX6_tell _ (List.mem_of_getElem? (i := 6) rfl))⟩ (ctX1_copyFrom hj ob_76 ob_16 ec) ⟨Nat.le_of_ble_eq_true rfl, Nat.le_of_ble_eq_true rfl⟩ rfl rfl (Nat.le_of_ble_eq_true rfl) rfl ?_
  refine z_aload_n B 7 rfl 0 0 rfl rfl ?_
  refine z_getr 6 2 14 B 8 rfl ob_14 rfl (iX6_tell _ (List.mem_of_getElem? (i := 0) rfl)) rfl ?_
  obtain ⟨r2, ec, hf⟩ := bd_e hf
  refine z_callV 73 4 [] [] [.int r2.1] X B 9 rfl ob_73 rfl rfl miX4_tellAll ⟨(iX6_tell _ (List.mem_of_getElem? (i := 7) rfl)), (iX6_tell _ (List.mem_of_getElem? (i := 8) rfl)), (iX6_tell _ (List.mem_of_getElem? (i := 9) rfl))⟩ (ctX4_tellAll hj ec) ⟨Nat.le_of_ble_eq_true rfl, Nat.le_of_ble_eq_true rfl⟩ rfl rfl (Nat.le_of_ble_eq_true rfl) rfl ?_
  refine z_istore_n [(1, .int r2.1), (0, .ref 14)] B 10 rfl 1 rfl (by decide) rfl ?_
  refine z_iload_n B 11 rfl 1 0 rfl rfl ?_
  refine z_iconst (-1) B 12 rfl (by decide) ?_
  by_cases hc : r2.1 = (-1 : Int32)
  · replace hf := (if_pos hc).symm.trans hf
    refine z_icmp_eq_t B 13 rfl 47 (by decide) hc ?_
    refine z_sub [(0, .ref 14), (1, .int r2.1)] [1, 0] rfl ?_
    exact f6_tell_j47_ok hj X B hQ hr _ _ hf
  · replace hf := (if_neg hc).symm.trans hf
    refine z_icmp_eq_f B 13 rfl 47 (by decide) hc ?_
    refine z_aload_n B 14 rfl 0 1 rfl rfl ?_
    refine z_getr 6 0 14 B 15 rfl ob_14 rfl (iX6_tell _ (List.mem_of_getElem? (i := 2) rfl)) rfl ?_
    refine z_getr 0 0 15 B 16 rfl ob_15 rfl (iX6_tell _ (List.mem_of_getElem? (i := 3) rfl)) rfl ?_
    refine z_aload_n B 17 rfl 0 1 rfl rfl ?_
    refine z_getr 6 2 14 B 18 rfl ob_14 rfl (iX6_tell _ (List.mem_of_getElem? (i := 0) rfl)) rfl ?_
    refine z_getr 4 1 73 B 19 rfl ob_73 rfl (iX6_tell _ (List.mem_of_getElem? (i := 1) rfl)) rfl ?_
    obtain ⟨r4, ec, hf⟩ := bd_e hf
    refine z_callV 16 1 [.ref 76] [] [] X B 20 rfl ob_16 rfl rfl miX1_copyFrom ⟨(iX6_tell _ (List.mem_of_getElem? (i := 4) rfl)), (iX6_tell _ (List.mem_of_getElem? (i := 5) rfl)), (iX6_tell _ (List.mem_of_getElem? (i := 6) rfl))⟩ (ctX1_copyFrom hj ob_16 ob_76 ec) ⟨Nat.le_of_ble_eq_true rfl, Nat.le_of_ble_eq_true rfl⟩ rfl rfl (Nat.le_of_ble_eq_true rfl) rfl ?_
    refine z_sub [(0, .ref 14), (1, .int r2.1)] [1, 0] rfl ?_
    exact f6_tell_j47_ok hj X B hQ hr _ _ hf
/-! ZoneCapacity.fault()I -/
def tbX6_fault : Tb := [(0, .aload_n 0, 1, 1), (1, .getfield 22, 3, 4), (4, .getfield 68, 3, 7), (7, .ireturn, 1, 8)]
theorem dtX6_fault : ∀ q ∈ tbX6_fault, decode cX6_fault q.1 = .ok (q.2.1, q.2.2.1) ∧ q.1 + q.2.2.1 = q.2.2.2 := by decide +kernel
theorem miX6_fault : MI yX6_fault cX6_fault 1 (some .int) 0 := ⟨tw_mem (List.mem_of_getElem? (i := 556) (by decide +kernel)) rfl, by decide, by decide +kernel, tw_mem (List.mem_of_getElem? (i := 71) (by decide +kernel)) rfl⟩
abbrev rmX6_fault : Room := { frames := 0, cells := 0, slots := 0, locals := 0 }
def wX6_fault : List Cond := [.fieldLink "ZoneCapacity" 22 "ZoneCapacity" "teller" "LZoneCapacity$Teller;", .fieldLink "ZoneCapacity" 68 "ZoneCapacity$Teller" "fault" "I"]
theorem iX6_fault : ∀ w ∈ wX6_fault, w ∈ TW := tw_of (ids := [319, 292]) (by decide +kernel)
def f6_fault (mm : Mem) : Option Int32 := some (mm 73 2)
theorem ctX6_fault {l : Launch} {C : Cfg} (hj : Dj C) {mm : Mem} {x : Int32} (hf : f6_fault mm = some x) : Ct l C yX6_fault cX6_fault 1 (some .int) 0 0 [.ref 14] mm (some (.int x)) mm := by
  refine Ct.of (tb := tbX6_fault) hj miX6_fault.2.1 miX6_fault.1 dtX6_fault (Nat.le_of_ble_eq_true rfl) ?_
  intro E B hQ hr X
  unfold f6_fault at hf
  show G E 1 0 [(0, .ref 14)] [] mm
  refine z_aload_n B 0 rfl 0 0 rfl rfl ?_
  refine z_getr 6 2 14 B 1 rfl ob_14 rfl (iX6_fault _ (List.mem_of_getElem? (i := 0) rfl)) rfl ?_
  refine z_geti 4 2 73 B 2 rfl ob_73 rfl (iX6_fault _ (List.mem_of_getElem? (i := 1) rfl)) rfl ?_
  cases hf
  exact z_iret B 3 rfl rfl hQ hr
/-! ZoneCapacity.zone(III)I -/
def tbX6_zone : Tb := [(0, .aload_n 0, 1, 1), (1, .getfield 10, 3, 4), (4, .getfield 57, 3, 7), (7, .getfield 71, 3, 10), (10, .astore 4, 2, 12), (12, .aload 4, 2, 14), (14, .getfield 75, 3, 17), (17, .bipush 6, 2, 19), (19, .if_icmp .ge 12, 3, 22), (22, .aload 4, 2, 24), (24, .iload_n 1, 1, 25), (25, .invokevirtual 80, 3, 28), (28, .ifCond .ne 5, 3, 31), (31, .iconst (-1), 1, 32), (32, .ireturn, 1, 33), (33, .iload_n 2, 1, 34), (34, .iconst 0, 1, 35), (35, .sipush 9999, 3, 38), (38, .invokestatic 50, 3, 41), (41, .ifCond .eq 14, 3, 44), (44, .iload_n 3, 1, 45), (45, .iconst 0, 1, 46), (46, .sipush 9999, 3, 49), (49, .invokestatic 50, 3, 52), (52, .ifCond .ne 5, 3, 55), (55, .iconst (-1), 1, 56), (56, .ireturn, 1, 57), (57, .aload 4, 2, 59), (59, .iload_n 1, 1, 60), (60, .iload_n 2, 1, 61), (61, .iload_n 3, 1, 62), (62, .invokevirtual 84, 3, 65), (65, .ireturn, 1, 66)]
theorem dtX6_zone : ∀ q ∈ tbX6_zone, decode cX6_zone q.1 = .ok (q.2.1, q.2.2.1) ∧ q.1 + q.2.2.1 = q.2.2.2 := by decide +kernel
theorem miX6_zone : MI yX6_zone cX6_zone 5 (some .int) 3 := ⟨tw_mem (List.mem_of_getElem? (i := 560) (by decide +kernel)) rfl, by decide, by decide +kernel, tw_mem (List.mem_of_getElem? (i := 71) (by decide +kernel)) rfl⟩
abbrev rmX6_zone : Room := { frames := 2, cells := 0, slots := 0, locals := 46 }
def wX6_zone : List Cond := [.fieldLink "ZoneCapacity" 10 "ZoneCapacity" "now" "LZoneCapacity$Auction;", .fieldLink "ZoneCapacity" 57 "ZoneCapacity$Auction" "market" "LZoneCapacity$Market;", .fieldLink "ZoneCapacity" 71 "ZoneCapacity$Market" "zones" "LZoneCapacity$Zones;", .fieldLink "ZoneCapacity" 75 "ZoneCapacity$Zones" "many" "I", .methodLink "ZoneCapacity" 80 yX5_has, .instanceMethod yX5_has, .selects "ZoneCapacity$Zones" yX5_has yX5_has, .methodLink "ZoneCapacity" 50 yX6_within, .static yX6_within, .methodLink "ZoneCapacity" 84 yX5_add, .instanceMethod yX5_add, .selects "ZoneCapacity$Zones" yX5_add yX5_add]
theorem iX6_zone : ∀ w ∈ wX6_zone, w ∈ TW := tw_of (ids := [317, 222, 211, 117, 561, 562, 563, 354, 355, 565, 468, 469]) (by decide +kernel)
def f6_zone (mm : Mem) (a1 : Int32) (a2 : Int32) (a3 : Int32) : Option (Int32 × Mem) := if (mm 17 0) < (6 : Int32) then bd (f5_has mm 17 a1) (fun r1 => if r1 = 0 then some ((-1 : Int32), mm) else bd (f6_within mm a2 (0 : Int32) (9999 : Int32)) (fun r2 => if r2 = 0 then some ((-1 : Int32), mm) else bd (f6_within mm a3 (0 : Int32) (9999 : Int32)) (fun r3 => if r3 = 0 then some ((-1 : Int32), mm) else bd (f5_add mm 17 a1 a2 a3) (fun r4 => some (r4.1, r4.2))))) else some ((-1 : Int32), mm)
theorem ctX6_zone {l : Launch} {C : Cfg} (hj : Dj C) {mm : Mem} {a1 : Int32} {a2 : Int32} {a3 : Int32} {x : (Int32 × Mem)} (hf : f6_zone mm a1 a2 a3 = some x) : Ct l C yX6_zone cX6_zone 5 (some .int) 2 46 [.ref 14, .int a1, .int a2, .int a3] mm (some (.int x.1)) x.2 := by
  refine Ct.of (tb := tbX6_zone) hj miX6_zone.2.1 miX6_zone.1 dtX6_zone (Nat.le_of_ble_eq_true rfl) ?_
  intro E B hQ hr X
  unfold f6_zone at hf
  show G E 5 0 [(0, .ref 14), (1, .int a1), (2, .int a2), (3, .int a3)] [] mm
  refine z_aload_n B 0 rfl 0 0 rfl rfl ?_
  refine z_getr 6 0 14 B 1 rfl ob_14 rfl (iX6_zone _ (List.mem_of_getElem? (i := 0) rfl)) rfl ?_
  refine z_getr 0 0 15 B 2 rfl ob_15 rfl (iX6_zone _ (List.mem_of_getElem? (i := 1) rfl)) rfl ?_
  refine z_getr 1 0 16 B 3 rfl ob_16 rfl (iX6_zone _ (List.mem_of_getElem? (i := 2) rfl)) rfl ?_
  refine z_astore [(4, .ref 17), (0, .ref 14), (1, .int a1), (2, .int a2), (3, .int a3)] B 4 rfl (by decide) rfl ?_
  refine z_aload B 5 rfl 0 rfl ?_
  refine z_geti 5 0 17 B 6 rfl ob_17 rfl (iX6_zone _ (List.mem_of_getElem? (i := 3) rfl)) rfl ?_
  refine z_bipush 6 B 7 rfl (by decide) ?_
  by_cases hc : (mm 17 0) < (6 : Int32)
  · replace hf := (if_pos hc).symm.trans hf
    refine z_icmp_ge_f B 8 rfl 31 (by decide) hc ?_
    refine z_aload B 9 rfl 0 rfl ?_
    refine z_iload_n B 10 rfl 1 2 rfl rfl ?_
    obtain ⟨r1, ec, hf⟩ := bd_e hf
    refine z_callV 17 5 [.int a1] [] [.int r1] X B 11 rfl ob_17 rfl rfl miX5_has ⟨(iX6_zone _ (List.mem_of_getElem? (i := 4) rfl)), (iX6_zone _ (List.mem_of_getElem? (i := 5) rfl)), (iX6_zone _ (List.mem_of_getElem? (i := 6) rfl))⟩ (ctX5_has hj ob_17 ec) ⟨Nat.le_of_ble_eq_true rfl, Nat.le_of_ble_eq_true rfl⟩ rfl rfl (Nat.le_of_ble_eq_true rfl) rfl ?_
    by_cases hc : r1 = 0
    · replace hf := (if_pos hc).symm.trans hf
      refine z_if_ne_f B 12 rfl 33 (by decide) hc ?_
      refine z_iconst (-1) B 13 rfl (by decide) ?_
      cases hf
      exact z_iret B 14 rfl rfl hQ hr
    · replace hf := (if_neg hc).symm.trans hf
      refine z_if_ne_t B 12 rfl 33 (by decide) hc ?_
      refine z_iload_n B 15 rfl 2 3 rfl rfl ?_
      refine z_iconst 0 B 16 rfl (by decide) ?_
      refine z_sipush 9999 B 17 rfl (by decide) ?_
      obtain ⟨r2, ec, hf⟩ := bd_e hf
      refine z_callS [.int a2, .int (0 : Int32), .int (9999 : Int32)] [] [.int r2] X B 18 rfl miX6_within ⟨(iX6_zone _ (List.mem_of_getElem? (i := 7) rfl)), (iX6_zone _ (List.mem_of_getElem? (i := 8) rfl))⟩ (ctX6_within hj ec) ⟨Nat.le_of_ble_eq_true rfl, Nat.le_of_ble_eq_true rfl⟩ rfl rfl (Nat.le_of_ble_eq_true rfl) rfl ?_
      by_cases hc : r2 = 0
      · replace hf := (if_pos hc).symm.trans hf
        refine z_if_eq_t B 19 rfl 55 (by decide) hc ?_
        refine z_iconst (-1) B 25 rfl (by decide) ?_
        cases hf
        exact z_iret B 26 rfl rfl hQ hr
      · replace hf := (if_neg hc).symm.trans hf
        refine z_if_eq_f B 19 rfl 55 (by decide) hc ?_
        refine z_iload_n B 20 rfl 3 4 rfl rfl ?_
        refine z_iconst 0 B 21 rfl (by decide) ?_
        refine z_sipush 9999 B 22 rfl (by decide) ?_
        obtain ⟨r3, ec, hf⟩ := bd_e hf
        refine z_callS [.int a3, .int (0 : Int32), .int (9999 : Int32)] [] [.int r3] X B 23 rfl miX6_within ⟨(iX6_zone _ (List.mem_of_getElem? (i := 7) rfl)), (iX6_zone _ (List.mem_of_getElem? (i := 8) rfl))⟩ (ctX6_within hj ec) ⟨Nat.le_of_ble_eq_true rfl, Nat.le_of_ble_eq_true rfl⟩ rfl rfl (Nat.le_of_ble_eq_true rfl) rfl ?_
        by_cases hc : r3 = 0
        · replace hf := (if_pos hc).symm.trans hf
          refine z_if_ne_f B 24 rfl 57 (by decide) hc ?_
          refine z_iconst (-1) B 25 rfl (by decide) ?_
          cases hf
          exact z_iret B 26 rfl rfl hQ hr
        · replace hf := (if_neg hc).symm.trans hf
          refine z_if_ne_t B 24 rfl 57 (by decide) hc ?_
          refine z_aload B 27 rfl 0 rfl ?_
          refine z_iload_n B 28 rfl 1 2 rfl rfl ?_
          refine z_iload_n B 29 rfl 2 3 rfl rfl ?_
          refine z_iload_n B 30 rfl 3 4 rfl rfl ?_
          obtain ⟨r4, ec, hf⟩ := bd_e hf
          refine z_callV 17 5 [.int a1, .int a2, .int a3] [] [.int r4.1] X B 31 rfl ob_17 rfl rfl miX5_add ⟨(iX6_zone _ (List.mem_of_getElem? (i := 9) rfl)), (iX6_zone _ (List.mem_of_getElem? (i := 10) rfl)), (iX6_zone _ (List.mem_of_getElem? (i := 11) rfl))⟩ (ctX5_add hj ob_17 ec) ⟨Nat.le_of_ble_eq_true rfl, Nat.le_of_ble_eq_true rfl⟩ rfl rfl (Nat.le_of_ble_eq_true rfl) rfl ?_
          cases hf
          exact z_iret B 32 rfl rfl hQ hr
  · replace hf := (if_neg hc).symm.trans hf
    refine z_icmp_ge_t B 8 rfl 31 (by decide) hc ?_
    refine z_iconst (-1) B 13 rfl (by decide) ?_
    cases hf
    exact z_iret B 14 rfl rfl hQ hr
/-! ZoneCapacity.point(III)I -/
def tbX6_point : Tb := [(0, .aload_n 0, 1, 1), (1, .getfield 10, 3, 4), (4, .getfield 57, 3, 7), (7, .getfield 71, 3, 10), (10, .astore 4, 2, 12), (12, .aload 4, 2, 14), (14, .iload_n 1, 1, 15), (15, .invokevirtual 80, 3, 18), (18, .ifCond .eq 16, 3, 21), (21, .aload 4, 2, 23), (23, .getfield 88, 3, 26), (26, .iload_n 1, 1, 27), (27, .invokestatic 92, 3, 30), (30, .iconst 4, 1, 31), (31, .if_icmp .lt 5, 3, 34), (34, .iconst (-1), 1, 35), (35, .ireturn, 1, 36), (36, .iload_n 2, 1, 37), (37, .aload 4, 2, 39), (39, .iload_n 1, 1, 40), (40, .invokevirtual 96, 3, 43), (43, .iconst 1, 1, 44), (44, .iadd, 1, 45), (45, .sipush 2000, 3, 48), (48, .invokestatic 50, 3, 51), (51, .ifCond .eq 17, 3, 54), (54, .iload_n 3, 1, 55), (55, .iconst 0, 1, 56), (56, .aload 4, 2, 58), (58, .iload_n 1, 1, 59), (59, .invokevirtual 100, 3, 62), (62, .invokestatic 50, 3, 65), (65, .ifCond .ne 5, 3, 68), (68, .iconst (-1), 1, 69), (69, .ireturn, 1, 70), (70, .aload 4, 2, 72), (72, .iload_n 1, 1, 73), (73, .iload_n 2, 1, 74), (74, .iload_n 3, 1, 75), (75, .invokevirtual 103, 3, 78), (78, .ireturn, 1, 79)]
theorem dtX6_point : ∀ q ∈ tbX6_point, decode cX6_point q.1 = .ok (q.2.1, q.2.2.1) ∧ q.1 + q.2.2.1 = q.2.2.2 := by decide +kernel
theorem miX6_point : MI yX6_point cX6_point 5 (some .int) 3 := ⟨tw_mem (List.mem_of_getElem? (i := 569) (by decide +kernel)) rfl, by decide, by decide +kernel, tw_mem (List.mem_of_getElem? (i := 71) (by decide +kernel)) rfl⟩
abbrev rmX6_point : Room := { frames := 2, cells := 0, slots := 0, locals := 46 }
def wX6_point : List Cond := [.fieldLink "ZoneCapacity" 10 "ZoneCapacity" "now" "LZoneCapacity$Auction;", .fieldLink "ZoneCapacity" 57 "ZoneCapacity$Auction" "market" "LZoneCapacity$Market;", .fieldLink "ZoneCapacity" 71 "ZoneCapacity$Market" "zones" "LZoneCapacity$Zones;", .methodLink "ZoneCapacity" 80 yX5_has, .instanceMethod yX5_has, .selects "ZoneCapacity$Zones" yX5_has yX5_has, .fieldLink "ZoneCapacity" 88 "ZoneCapacity$Zones" "points" "[I", .methodLink "ZoneCapacity" 92 yX6_at, .static yX6_at, .methodLink "ZoneCapacity" 96 yX5_wanted, .instanceMethod yX5_wanted, .selects "ZoneCapacity$Zones" yX5_wanted yX5_wanted, .methodLink "ZoneCapacity" 50 yX6_within, .static yX6_within, .methodLink "ZoneCapacity" 100 yX5_lastPrice, .instanceMethod yX5_lastPrice, .selects "ZoneCapacity$Zones" yX5_lastPrice yX5_lastPrice, .methodLink "ZoneCapacity" 103 yX5_addPoint, .instanceMethod yX5_addPoint, .selects "ZoneCapacity$Zones" yX5_addPoint yX5_addPoint]
theorem iX6_point : ∀ w ∈ wX6_point, w ∈ TW := tw_of (ids := [317, 222, 211, 561, 562, 563, 130, 570, 386, 571, 487, 488, 354, 355, 572, 491, 492, 573, 495, 496]) (by decide +kernel)
def f6_point (mm : Mem) (a1 : Int32) (a2 : Int32) (a3 : Int32) : Option (Int32 × Mem) := bd (f5_has mm 17 a1) (fun r1 => if r1 = 0 then some ((-1 : Int32), mm) else bd (f6_at mm 21 a1) (fun r2 => if r2 < (4 : Int32) then bd (f5_wanted mm 17 a1) (fun r3 => bd (f6_within mm a2 (r3 + (1 : Int32)) (2000 : Int32)) (fun r4 => if r4 = 0 then some ((-1 : Int32), mm) else bd (f5_lastPrice mm 17 a1) (fun r5 => bd (f6_within mm a3 (0 : Int32) r5) (fun r6 => if r6 = 0 then some ((-1 : Int32), mm) else bd (f5_addPoint mm 17 a1 a2 a3) (fun r7 => some (r7.1, r7.2)))))) else some ((-1 : Int32), mm)))
theorem ctX6_point {l : Launch} {C : Cfg} (hj : Dj C) {mm : Mem} {a1 : Int32} {a2 : Int32} {a3 : Int32} {x : (Int32 × Mem)} (hf : f6_point mm a1 a2 a3 = some x) : Ct l C yX6_point cX6_point 5 (some .int) 2 46 [.ref 14, .int a1, .int a2, .int a3] mm (some (.int x.1)) x.2 := by
  refine Ct.of (tb := tbX6_point) hj miX6_point.2.1 miX6_point.1 dtX6_point (Nat.le_of_ble_eq_true rfl) ?_
  intro E B hQ hr X
  unfold f6_point at hf
  show G E 5 0 [(0, .ref 14), (1, .int a1), (2, .int a2), (3, .int a3)] [] mm
  refine z_aload_n B 0 rfl 0 0 rfl rfl ?_
  refine z_getr 6 0 14 B 1 rfl ob_14 rfl (iX6_point _ (List.mem_of_getElem? (i := 0) rfl)) rfl ?_
  refine z_getr 0 0 15 B 2 rfl ob_15 rfl (iX6_point _ (List.mem_of_getElem? (i := 1) rfl)) rfl ?_
  refine z_getr 1 0 16 B 3 rfl ob_16 rfl (iX6_point _ (List.mem_of_getElem? (i := 2) rfl)) rfl ?_
  refine z_astore [(4, .ref 17), (0, .ref 14), (1, .int a1), (2, .int a2), (3, .int a3)] B 4 rfl (by decide) rfl ?_
  refine z_aload B 5 rfl 0 rfl ?_
  refine z_iload_n B 6 rfl 1 2 rfl rfl ?_
  obtain ⟨r1, ec, hf⟩ := bd_e hf
  refine z_callV 17 5 [.int a1] [] [.int r1] X B 7 rfl ob_17 rfl rfl miX5_has ⟨(iX6_point _ (List.mem_of_getElem? (i := 3) rfl)), (iX6_point _ (List.mem_of_getElem? (i := 4) rfl)), (iX6_point _ (List.mem_of_getElem? (i := 5) rfl))⟩ (ctX5_has hj ob_17 ec) ⟨Nat.le_of_ble_eq_true rfl, Nat.le_of_ble_eq_true rfl⟩ rfl rfl (Nat.le_of_ble_eq_true rfl) rfl ?_
  by_cases hc : r1 = 0
  · replace hf := (if_pos hc).symm.trans hf
    refine z_if_eq_t B 8 rfl 34 (by decide) hc ?_
    refine z_iconst (-1) B 15 rfl (by decide) ?_
    cases hf
    exact z_iret B 16 rfl rfl hQ hr
  · replace hf := (if_neg hc).symm.trans hf
    refine z_if_eq_f B 8 rfl 34 (by decide) hc ?_
    refine z_aload B 9 rfl 0 rfl ?_
    refine z_getr 5 4 17 B 10 rfl ob_17 rfl (iX6_point _ (List.mem_of_getElem? (i := 6) rfl)) rfl ?_
    refine z_iload_n B 11 rfl 1 2 rfl rfl ?_
    obtain ⟨r2, ec, hf⟩ := bd_e hf
    refine z_callS [.ref 21, .int a1] [] [.int r2] X B 12 rfl miX6_at ⟨(iX6_point _ (List.mem_of_getElem? (i := 7) rfl)), (iX6_point _ (List.mem_of_getElem? (i := 8) rfl))⟩ (ctX6_at hj ob_21 ec) ⟨Nat.le_of_ble_eq_true rfl, Nat.le_of_ble_eq_true rfl⟩ rfl rfl (Nat.le_of_ble_eq_true rfl) rfl ?_
    refine z_iconst 4 B 13 rfl (by decide) ?_
    by_cases hc : r2 < (4 : Int32)
    · replace hf := (if_pos hc).symm.trans hf
      refine z_icmp_lt_t B 14 rfl 36 (by decide) hc ?_
      refine z_iload_n B 17 rfl 2 3 rfl rfl ?_
      refine z_aload B 18 rfl 0 rfl ?_
      refine z_iload_n B 19 rfl 1 2 rfl rfl ?_
      obtain ⟨r3, ec, hf⟩ := bd_e hf
      refine z_callV 17 5 [.int a1] [.int a2] [.int r3, .int a2] X B 20 rfl ob_17 rfl rfl miX5_wanted ⟨(iX6_point _ (List.mem_of_getElem? (i := 9) rfl)), (iX6_point _ (List.mem_of_getElem? (i := 10) rfl)), (iX6_point _ (List.mem_of_getElem? (i := 11) rfl))⟩ (ctX5_wanted hj ob_17 ec) ⟨Nat.le_of_ble_eq_true rfl, Nat.le_of_ble_eq_true rfl⟩ rfl rfl (Nat.le_of_ble_eq_true rfl) rfl ?_
      refine z_iconst 1 B 21 rfl (by decide) ?_
      refine z_iadd B 22 rfl ?_
      refine z_sipush 2000 B 23 rfl (by decide) ?_
      obtain ⟨r4, ec, hf⟩ := bd_e hf
      refine z_callS [.int a2, .int (r3 + (1 : Int32)), .int (2000 : Int32)] [] [.int r4] X B 24 rfl miX6_within ⟨(iX6_point _ (List.mem_of_getElem? (i := 12) rfl)), (iX6_point _ (List.mem_of_getElem? (i := 13) rfl))⟩ (ctX6_within hj ec) ⟨Nat.le_of_ble_eq_true rfl, Nat.le_of_ble_eq_true rfl⟩ rfl rfl (Nat.le_of_ble_eq_true rfl) rfl ?_
      by_cases hc : r4 = 0
      · replace hf := (if_pos hc).symm.trans hf
        refine z_if_eq_t B 25 rfl 68 (by decide) hc ?_
        refine z_iconst (-1) B 33 rfl (by decide) ?_
        cases hf
        exact z_iret B 34 rfl rfl hQ hr
      · replace hf := (if_neg hc).symm.trans hf
        refine z_if_eq_f B 25 rfl 68 (by decide) hc ?_
        refine z_iload_n B 26 rfl 3 4 rfl rfl ?_
        refine z_iconst 0 B 27 rfl (by decide) ?_
        refine z_aload B 28 rfl 0 rfl ?_
        refine z_iload_n B 29 rfl 1 2 rfl rfl ?_
        obtain ⟨r5, ec, hf⟩ := bd_e hf
        refine z_callV 17 5 [.int a1] [.int (0 : Int32), .int a3] [.int r5, .int (0 : Int32), .int a3] X B 30 rfl ob_17 rfl rfl miX5_lastPrice ⟨(iX6_point _ (List.mem_of_getElem? (i := 14) rfl)), (iX6_point _ (List.mem_of_getElem? (i := 15) rfl)), (iX6_point _ (List.mem_of_getElem? (i := 16) rfl))⟩ (ctX5_lastPrice hj ob_17 ec) ⟨Nat.le_of_ble_eq_true rfl, Nat.le_of_ble_eq_true rfl⟩ rfl rfl (Nat.le_of_ble_eq_true rfl) rfl ?_
        obtain ⟨r6, ec, hf⟩ := bd_e hf
        refine z_callS [.int a3, .int (0 : Int32), .int r5] [] [.int r6] X B 31 rfl miX6_within ⟨(iX6_point _ (List.mem_of_getElem? (i := 12) rfl)), (iX6_point _ (List.mem_of_getElem? (i := 13) rfl))⟩ (ctX6_within hj ec) ⟨Nat.le_of_ble_eq_true rfl, Nat.le_of_ble_eq_true rfl⟩ rfl rfl (Nat.le_of_ble_eq_true rfl) rfl ?_
        by_cases hc : r6 = 0
        · replace hf := (if_pos hc).symm.trans hf
          refine z_if_ne_f B 32 rfl 70 (by decide) hc ?_
          refine z_iconst (-1) B 33 rfl (by decide) ?_
          cases hf
          exact z_iret B 34 rfl rfl hQ hr
        · replace hf := (if_neg hc).symm.trans hf
          refine z_if_ne_t B 32 rfl 70 (by decide) hc ?_
          refine z_aload B 35 rfl 0 rfl ?_
          refine z_iload_n B 36 rfl 1 2 rfl rfl ?_
          refine z_iload_n B 37 rfl 2 3 rfl rfl ?_
          refine z_iload_n B 38 rfl 3 4 rfl rfl ?_
          obtain ⟨r7, ec, hf⟩ := bd_e hf
          refine z_callV 17 5 [.int a1, .int a2, .int a3] [] [.int r7.1] X B 39 rfl ob_17 rfl rfl miX5_addPoint ⟨(iX6_point _ (List.mem_of_getElem? (i := 17) rfl)), (iX6_point _ (List.mem_of_getElem? (i := 18) rfl)), (iX6_point _ (List.mem_of_getElem? (i := 19) rfl))⟩ (ctX5_addPoint hj ob_17 ec) ⟨Nat.le_of_ble_eq_true rfl, Nat.le_of_ble_eq_true rfl⟩ rfl rfl (Nat.le_of_ble_eq_true rfl) rfl ?_
          cases hf
          exact z_iret B 40 rfl rfl hQ hr
    · replace hf := (if_neg hc).symm.trans hf
      refine z_icmp_lt_f B 14 rfl 36 (by decide) hc ?_
      refine z_iconst (-1) B 15 rfl (by decide) ?_
      cases hf
      exact z_iret B 16 rfl rfl hQ hr
/-! ZoneCapacity.resource(IIIIZ)I -/
def tbX6_resource : Tb := [(0, .aload_n 0, 1, 1), (1, .getfield 10, 3, 4), (4, .getfield 57, 3, 7), (7, .getfield 106, 3, 10), (10, .astore 6, 2, 12), (12, .aload 6, 2, 14), (14, .getfield 110, 3, 17), (17, .bipush 12, 2, 19), (19, .if_icmp .ge 20, 3, 22), (22, .aload_n 0, 1, 23), (23, .getfield 10, 3, 26), (26, .getfield 57, 3, 29), (29, .getfield 71, 3, 32), (32, .iload_n 1, 1, 33), (33, .invokevirtual 80, 3, 36), (36, .ifCond .ne 5, 3, 39), (39, .iconst (-1), 1, 40), (40, .ireturn, 1, 41), (41, .iload_n 2, 1, 42), (42, .iconst 1, 1, 43), (43, .sipush 500, 3, 46), (46, .invokestatic 50, 3, 49), (49, .ifCond .eq 22, 3, 52), (52, .iload_n 3, 1, 53), (53, .iconst 0, 1, 54), (54, .iconst 3, 1, 55), (55, .invokestatic 50, 3, 58), (58, .ifCond .eq 13, 3, 61), (61, .iload 4, 2, 63), (63, .iconst 0, 1, 64), (64, .iconst 5, 1, 65), (65, .invokestatic 50, 3, 68), (68, .ifCond .ne 5, 3, 71), (71, .iconst (-1), 1, 72), (72, .ireturn, 1, 73), (73, .aload 6, 2, 75), (75, .iload_n 1, 1, 76), (76, .iload_n 2, 1, 77), (77, .iload_n 3, 1, 78), (78, .iload 4, 2, 80), (80, .iload 5, 2, 82), (82, .iconst 0, 1, 83), (83, .invokevirtual 113, 3, 86), (86, .ireturn, 1, 87)]
theorem dtX6_resource : ∀ q ∈ tbX6_resource, decode cX6_resource q.1 = .ok (q.2.1, q.2.2.1) ∧ q.1 + q.2.2.1 = q.2.2.2 := by decide +kernel
theorem miX6_resource : MI yX6_resource cX6_resource 7 (some .int) 5 := ⟨tw_mem (List.mem_of_getElem? (i := 577) (by decide +kernel)) rfl, by decide, by decide +kernel, tw_mem (List.mem_of_getElem? (i := 71) (by decide +kernel)) rfl⟩
abbrev rmX6_resource : Room := { frames := 2, cells := 0, slots := 0, locals := 49 }
def wX6_resource : List Cond := [.fieldLink "ZoneCapacity" 10 "ZoneCapacity" "now" "LZoneCapacity$Auction;", .fieldLink "ZoneCapacity" 57 "ZoneCapacity$Auction" "market" "LZoneCapacity$Market;", .fieldLink "ZoneCapacity" 106 "ZoneCapacity$Market" "offers" "LZoneCapacity$Offers;", .fieldLink "ZoneCapacity" 110 "ZoneCapacity$Offers" "many" "I", .fieldLink "ZoneCapacity" 71 "ZoneCapacity$Market" "zones" "LZoneCapacity$Zones;", .methodLink "ZoneCapacity" 80 yX5_has, .instanceMethod yX5_has, .selects "ZoneCapacity$Zones" yX5_has yX5_has, .methodLink "ZoneCapacity" 50 yX6_within, .static yX6_within, .methodLink "ZoneCapacity" 113 yX2_add, .instanceMethod yX2_add, .selects "ZoneCapacity$Offers" yX2_add yX2_add]
theorem iX6_resource : ∀ w ∈ wX6_resource, w ∈ TW := tw_of (ids := [317, 222, 215, 158, 211, 561, 562, 563, 354, 355, 578, 510, 511]) (by decide +kernel)
def f6_resource (mm : Mem) (a1 : Int32) (a2 : Int32) (a3 : Int32) (a4 : Int32) (a5 : Int32) : Option (Int32 × Mem) := if (mm 24 0) < (12 : Int32) then bd (f5_has mm 17 a1) (fun r1 => if r1 = 0 then some ((-1 : Int32), mm) else bd (f6_within mm a2 (1 : Int32) (500 : Int32)) (fun r2 => if r2 = 0 then some ((-1 : Int32), mm) else bd (f6_within mm a3 (0 : Int32) (3 : Int32)) (fun r3 => if r3 = 0 then some ((-1 : Int32), mm) else bd (f6_within mm a4 (0 : Int32) (5 : Int32)) (fun r4 => if r4 = 0 then some ((-1 : Int32), mm) else bd (f2_add mm 24 a1 a2 a3 a4 a5 (0 : Int32)) (fun r5 => some (r5.1, r5.2)))))) else some ((-1 : Int32), mm)
theorem ctX6_resource {l : Launch} {C : Cfg} (hj : Dj C) {mm : Mem} {a1 : Int32} {a2 : Int32} {a3 : Int32} {a4 : Int32} {a5 : Int32} {x : (Int32 × Mem)} (hf : f6_resource mm a1 a2 a3 a4 a5 = some x) : Ct l C yX6_resource cX6_resource 7 (some .int) 2 49 [.ref 14, .int a1, .int a2, .int a3, .int a4, .int a5] mm (some (.int x.1)) x.2 := by
  refine Ct.of (tb := tbX6_resource) hj miX6_resource.2.1 miX6_resource.1 dtX6_resource (Nat.le_of_ble_eq_true rfl) ?_
  intro E B hQ hr X
  unfold f6_resource at hf
  show G E 7 0 [(0, .ref 14), (1, .int a1), (2, .int a2), (3, .int a3), (4, .int a4), (5, .int a5)] [] mm
  refine z_aload_n B 0 rfl 0 0 rfl rfl ?_
  refine z_getr 6 0 14 B 1 rfl ob_14 rfl (iX6_resource _ (List.mem_of_getElem? (i := 0) rfl)) rfl ?_
  refine z_getr 0 0 15 B 2 rfl ob_15 rfl (iX6_resource _ (List.mem_of_getElem? (i := 1) rfl)) rfl ?_
  refine z_getr 1 1 16 B 3 rfl ob_16 rfl (iX6_resource _ (List.mem_of_getElem? (i := 2) rfl)) rfl ?_
  refine z_astore [(6, .ref 24), (0, .ref 14), (1, .int a1), (2, .int a2), (3, .int a3), (4, .int a4), (5, .int a5)] B 4 rfl (by decide) rfl ?_
  refine z_aload B 5 rfl 0 rfl ?_
  refine z_geti 2 0 24 B 6 rfl ob_24 rfl (iX6_resource _ (List.mem_of_getElem? (i := 3) rfl)) rfl ?_
  refine z_bipush 12 B 7 rfl (by decide) ?_
  by_cases hc : (mm 24 0) < (12 : Int32)
  · replace hf := (if_pos hc).symm.trans hf
    refine z_icmp_ge_f B 8 rfl 39 (by decide) hc ?_
    refine z_aload_n B 9 rfl 0 1 rfl rfl ?_
    refine z_getr 6 0 14 B 10 rfl ob_14 rfl (iX6_resource _ (List.mem_of_getElem? (i := 0) rfl)) rfl ?_
    refine z_getr 0 0 15 B 11 rfl ob_15 rfl (iX6_resource _ (List.mem_of_getElem? (i := 1) rfl)) rfl ?_
    refine z_getr 1 0 16 B 12 rfl ob_16 rfl (iX6_resource _ (List.mem_of_getElem? (i := 4) rfl)) rfl ?_
    refine z_iload_n B 13 rfl 1 2 rfl rfl ?_
    obtain ⟨r1, ec, hf⟩ := bd_e hf
    refine z_callV 17 5 [.int a1] [] [.int r1] X B 14 rfl ob_17 rfl rfl miX5_has ⟨(iX6_resource _ (List.mem_of_getElem? (i := 5) rfl)), (iX6_resource _ (List.mem_of_getElem? (i := 6) rfl)), (iX6_resource _ (List.mem_of_getElem? (i := 7) rfl))⟩ (ctX5_has hj ob_17 ec) ⟨Nat.le_of_ble_eq_true rfl, Nat.le_of_ble_eq_true rfl⟩ rfl rfl (Nat.le_of_ble_eq_true rfl) rfl ?_
    by_cases hc : r1 = 0
    · replace hf := (if_pos hc).symm.trans hf
      refine z_if_ne_f B 15 rfl 41 (by decide) hc ?_
      refine z_iconst (-1) B 16 rfl (by decide) ?_
      cases hf
      exact z_iret B 17 rfl rfl hQ hr
    · replace hf := (if_neg hc).symm.trans hf
      refine z_if_ne_t B 15 rfl 41 (by decide) hc ?_
      refine z_iload_n B 18 rfl 2 3 rfl rfl ?_
      refine z_iconst 1 B 19 rfl (by decide) ?_
      refine z_sipush 500 B 20 rfl (by decide) ?_
      obtain ⟨r2, ec, hf⟩ := bd_e hf
      refine z_callS [.int a2, .int (1 : Int32), .int (500 : Int32)] [] [.int r2] X B 21 rfl miX6_within ⟨(iX6_resource _ (List.mem_of_getElem? (i := 8) rfl)), (iX6_resource _ (List.mem_of_getElem? (i := 9) rfl))⟩ (ctX6_within hj ec) ⟨Nat.le_of_ble_eq_true rfl, Nat.le_of_ble_eq_true rfl⟩ rfl rfl (Nat.le_of_ble_eq_true rfl) rfl ?_
      by_cases hc : r2 = 0
      · replace hf := (if_pos hc).symm.trans hf
        refine z_if_eq_t B 22 rfl 71 (by decide) hc ?_
        refine z_iconst (-1) B 33 rfl (by decide) ?_
        cases hf
        exact z_iret B 34 rfl rfl hQ hr
      · replace hf := (if_neg hc).symm.trans hf
        refine z_if_eq_f B 22 rfl 71 (by decide) hc ?_
        refine z_iload_n B 23 rfl 3 4 rfl rfl ?_
        refine z_iconst 0 B 24 rfl (by decide) ?_
        refine z_iconst 3 B 25 rfl (by decide) ?_
        obtain ⟨r3, ec, hf⟩ := bd_e hf
        refine z_callS [.int a3, .int (0 : Int32), .int (3 : Int32)] [] [.int r3] X B 26 rfl miX6_within ⟨(iX6_resource _ (List.mem_of_getElem? (i := 8) rfl)), (iX6_resource _ (List.mem_of_getElem? (i := 9) rfl))⟩ (ctX6_within hj ec) ⟨Nat.le_of_ble_eq_true rfl, Nat.le_of_ble_eq_true rfl⟩ rfl rfl (Nat.le_of_ble_eq_true rfl) rfl ?_
        by_cases hc : r3 = 0
        · replace hf := (if_pos hc).symm.trans hf
          refine z_if_eq_t B 27 rfl 71 (by decide) hc ?_
          refine z_iconst (-1) B 33 rfl (by decide) ?_
          cases hf
          exact z_iret B 34 rfl rfl hQ hr
        · replace hf := (if_neg hc).symm.trans hf
          refine z_if_eq_f B 27 rfl 71 (by decide) hc ?_
          refine z_iload B 28 rfl 5 rfl ?_
          refine z_iconst 0 B 29 rfl (by decide) ?_
          refine z_iconst 5 B 30 rfl (by decide) ?_
          obtain ⟨r4, ec, hf⟩ := bd_e hf
          refine z_callS [.int a4, .int (0 : Int32), .int (5 : Int32)] [] [.int r4] X B 31 rfl miX6_within ⟨(iX6_resource _ (List.mem_of_getElem? (i := 8) rfl)), (iX6_resource _ (List.mem_of_getElem? (i := 9) rfl))⟩ (ctX6_within hj ec) ⟨Nat.le_of_ble_eq_true rfl, Nat.le_of_ble_eq_true rfl⟩ rfl rfl (Nat.le_of_ble_eq_true rfl) rfl ?_
          by_cases hc : r4 = 0
          · replace hf := (if_pos hc).symm.trans hf
            refine z_if_ne_f B 32 rfl 73 (by decide) hc ?_
            refine z_iconst (-1) B 33 rfl (by decide) ?_
            cases hf
            exact z_iret B 34 rfl rfl hQ hr
          · replace hf := (if_neg hc).symm.trans hf
            refine z_if_ne_t B 32 rfl 73 (by decide) hc ?_
            refine z_aload B 35 rfl 0 rfl ?_
            refine z_iload_n B 36 rfl 1 2 rfl rfl ?_
            refine z_iload_n B 37 rfl 2 3 rfl rfl ?_
            refine z_iload_n B 38 rfl 3 4 rfl rfl ?_
            refine z_iload B 39 rfl 5 rfl ?_
            refine z_iload B 40 rfl 6 rfl ?_
            refine z_iconst 0 B 41 rfl (by decide) ?_
            obtain ⟨r5, ec, hf⟩ := bd_e hf
            refine z_callV 24 2 [.int a1, .int a2, .int a3, .int a4, .int a5, .int (0 : Int32)] [] [.int r5.1] X B 42 rfl ob_24 rfl rfl miX2_add ⟨(iX6_resource _ (List.mem_of_getElem? (i := 10) rfl)), (iX6_resource _ (List.mem_of_getElem? (i := 11) rfl)), (iX6_resource _ (List.mem_of_getElem? (i := 12) rfl))⟩ (ctX2_add hj ob_24 ec) ⟨Nat.le_of_ble_eq_true rfl, Nat.le_of_ble_eq_true rfl⟩ rfl rfl (Nat.le_of_ble_eq_true rfl) rfl ?_
            cases hf
            exact z_iret B 43 rfl rfl hQ hr
  · replace hf := (if_neg hc).symm.trans hf
    refine z_icmp_ge_t B 8 rfl 39 (by decide) hc ?_
    refine z_iconst (-1) B 16 rfl (by decide) ?_
    cases hf
    exact z_iret B 17 rfl rfl hQ hr
/-! ZoneCapacity.step(III)I -/
def tbX6_step : Tb := [(0, .aload_n 0, 1, 1), (1, .getfield 10, 3, 4), (4, .getfield 57, 3, 7), (7, .getfield 106, 3, 10), (10, .astore 4, 2, 12), (12, .aload 4, 2, 14), (14, .iload_n 1, 1, 15), (15, .invokevirtual 116, 3, 18), (18, .ifCond .eq 16, 3, 21), (21, .aload 4, 2, 23), (23, .getfield 117, 3, 26), (26, .iload_n 1, 1, 27), (27, .invokestatic 92, 3, 30), (30, .iconst 3, 1, 31), (31, .if_icmp .lt 5, 3, 34), (34, .iconst (-1), 1, 35), (35, .ireturn, 1, 36), (36, .iload_n 2, 1, 37), (37, .iconst 1, 1, 38), (38, .aload 4, 2, 40), (40, .iload_n 1, 1, 41), (41, .invokevirtual 120, 3, 44), (44, .invokestatic 50, 3, 47), (47, .ifCond .eq 19, 3, 50), (50, .iload_n 3, 1, 51), (51, .aload 4, 2, 53), (53, .iload_n 1, 1, 54), (54, .invokevirtual 123, 3, 57), (57, .sipush 9999, 3, 60), (60, .invokestatic 50, 3, 63), (63, .ifCond .ne 5, 3, 66), (66, .iconst (-1), 1, 67), (67, .ireturn, 1, 68), (68, .aload 4, 2, 70), (70, .iload_n 1, 1, 71), (71, .iload_n 2, 1, 72), (72, .iload_n 3, 1, 73), (73, .invokevirtual 124, 3, 76), (76, .ireturn, 1, 77)]
theorem dtX6_step : ∀ q ∈ tbX6_step, decode cX6_step q.1 = .ok (q.2.1, q.2.2.1) ∧ q.1 + q.2.2.1 = q.2.2.2 := by decide +kernel
theorem miX6_step : MI yX6_step cX6_step 5 (some .int) 3 := ⟨tw_mem (List.mem_of_getElem? (i := 582) (by decide +kernel)) rfl, by decide, by decide +kernel, tw_mem (List.mem_of_getElem? (i := 71) (by decide +kernel)) rfl⟩
abbrev rmX6_step : Room := { frames := 2, cells := 0, slots := 0, locals := 46 }
def wX6_step : List Cond := [.fieldLink "ZoneCapacity" 10 "ZoneCapacity" "now" "LZoneCapacity$Auction;", .fieldLink "ZoneCapacity" 57 "ZoneCapacity$Auction" "market" "LZoneCapacity$Market;", .fieldLink "ZoneCapacity" 106 "ZoneCapacity$Market" "offers" "LZoneCapacity$Offers;", .methodLink "ZoneCapacity" 116 yX2_has, .instanceMethod yX2_has, .selects "ZoneCapacity$Offers" yX2_has yX2_has, .fieldLink "ZoneCapacity" 117 "ZoneCapacity$Offers" "steps" "[I", .methodLink "ZoneCapacity" 92 yX6_at, .static yX6_at, .methodLink "ZoneCapacity" 120 yX2_rest, .instanceMethod yX2_rest, .selects "ZoneCapacity$Offers" yX2_rest yX2_rest, .methodLink "ZoneCapacity" 50 yX6_within, .static yX6_within, .methodLink "ZoneCapacity" 123 yX2_lastPrice, .instanceMethod yX2_lastPrice, .selects "ZoneCapacity$Offers" yX2_lastPrice yX2_lastPrice, .methodLink "ZoneCapacity" 124 yX2_addStep, .instanceMethod yX2_addStep, .selects "ZoneCapacity$Offers" yX2_addStep yX2_addStep]
theorem iX6_step : ∀ w ∈ wX6_step, w ∈ TW := tw_of (ids := [317, 222, 215, 583, 584, 585, 180, 570, 386, 587, 533, 534, 354, 355, 588, 525, 526, 589, 529, 530]) (by decide +kernel)
def f6_step (mm : Mem) (a1 : Int32) (a2 : Int32) (a3 : Int32) : Option (Int32 × Mem) := bd (f2_has mm 24 a1) (fun r1 => if r1 = 0 then some ((-1 : Int32), mm) else bd (f6_at mm 32 a1) (fun r2 => if r2 < (3 : Int32) then bd (f2_rest mm 24 a1) (fun r3 => bd (f6_within mm a2 (1 : Int32) r3) (fun r4 => if r4 = 0 then some ((-1 : Int32), mm) else bd (f2_lastPrice mm 24 a1) (fun r5 => bd (f6_within mm a3 r5 (9999 : Int32)) (fun r6 => if r6 = 0 then some ((-1 : Int32), mm) else bd (f2_addStep mm 24 a1 a2 a3) (fun r7 => some (r7.1, r7.2)))))) else some ((-1 : Int32), mm)))
theorem ctX6_step {l : Launch} {C : Cfg} (hj : Dj C) {mm : Mem} {a1 : Int32} {a2 : Int32} {a3 : Int32} {x : (Int32 × Mem)} (hf : f6_step mm a1 a2 a3 = some x) : Ct l C yX6_step cX6_step 5 (some .int) 2 46 [.ref 14, .int a1, .int a2, .int a3] mm (some (.int x.1)) x.2 := by
  refine Ct.of (tb := tbX6_step) hj miX6_step.2.1 miX6_step.1 dtX6_step (Nat.le_of_ble_eq_true rfl) ?_
  intro E B hQ hr X
  unfold f6_step at hf
  show G E 5 0 [(0, .ref 14), (1, .int a1), (2, .int a2), (3, .int a3)] [] mm
  refine z_aload_n B 0 rfl 0 0 rfl rfl ?_
  refine z_getr 6 0 14 B 1 rfl ob_14 rfl (iX6_step _ (List.mem_of_getElem? (i := 0) rfl)) rfl ?_
  refine z_getr 0 0 15 B 2 rfl ob_15 rfl (iX6_step _ (List.mem_of_getElem? (i := 1) rfl)) rfl ?_
  refine z_getr 1 1 16 B 3 rfl ob_16 rfl (iX6_step _ (List.mem_of_getElem? (i := 2) rfl)) rfl ?_
  refine z_astore [(4, .ref 24), (0, .ref 14), (1, .int a1), (2, .int a2), (3, .int a3)] B 4 rfl (by decide) rfl ?_
  refine z_aload B 5 rfl 0 rfl ?_
  refine z_iload_n B 6 rfl 1 2 rfl rfl ?_
  obtain ⟨r1, ec, hf⟩ := bd_e hf
  refine z_callV 24 2 [.int a1] [] [.int r1] X B 7 rfl ob_24 rfl rfl miX2_has ⟨(iX6_step _ (List.mem_of_getElem? (i := 3) rfl)), (iX6_step _ (List.mem_of_getElem? (i := 4) rfl)), (iX6_step _ (List.mem_of_getElem? (i := 5) rfl))⟩ (ctX2_has hj ob_24 ec) ⟨Nat.le_of_ble_eq_true rfl, Nat.le_of_ble_eq_true rfl⟩ rfl rfl (Nat.le_of_ble_eq_true rfl) rfl ?_
  by_cases hc : r1 = 0
  · replace hf := (if_pos hc).symm.trans hf
    refine z_if_eq_t B 8 rfl 34 (by decide) hc ?_
    refine z_iconst (-1) B 15 rfl (by decide) ?_
    cases hf
    exact z_iret B 16 rfl rfl hQ hr
  · replace hf := (if_neg hc).symm.trans hf
    refine z_if_eq_f B 8 rfl 34 (by decide) hc ?_
    refine z_aload B 9 rfl 0 rfl ?_
    refine z_getr 2 9 24 B 10 rfl ob_24 rfl (iX6_step _ (List.mem_of_getElem? (i := 6) rfl)) rfl ?_
    refine z_iload_n B 11 rfl 1 2 rfl rfl ?_
    obtain ⟨r2, ec, hf⟩ := bd_e hf
    refine z_callS [.ref 32, .int a1] [] [.int r2] X B 12 rfl miX6_at ⟨(iX6_step _ (List.mem_of_getElem? (i := 7) rfl)), (iX6_step _ (List.mem_of_getElem? (i := 8) rfl))⟩ (ctX6_at hj ob_32 ec) ⟨Nat.le_of_ble_eq_true rfl, Nat.le_of_ble_eq_true rfl⟩ rfl rfl (Nat.le_of_ble_eq_true rfl) rfl ?_
    refine z_iconst 3 B 13 rfl (by decide) ?_
    by_cases hc : r2 < (3 : Int32)
    · replace hf := (if_pos hc).symm.trans hf
      refine z_icmp_lt_t B 14 rfl 36 (by decide) hc ?_
      refine z_iload_n B 17 rfl 2 3 rfl rfl ?_
      refine z_iconst 1 B 18 rfl (by decide) ?_
      refine z_aload B 19 rfl 0 rfl ?_
      refine z_iload_n B 20 rfl 1 2 rfl rfl ?_
      obtain ⟨r3, ec, hf⟩ := bd_e hf
      refine z_callV 24 2 [.int a1] [.int (1 : Int32), .int a2] [.int r3, .int (1 : Int32), .int a2] X B 21 rfl ob_24 rfl rfl miX2_rest ⟨(iX6_step _ (List.mem_of_getElem? (i := 9) rfl)), (iX6_step _ (List.mem_of_getElem? (i := 10) rfl)), (iX6_step _ (List.mem_of_getElem? (i := 11) rfl))⟩ (ctX2_rest hj ob_24 ec) ⟨Nat.le_of_ble_eq_true rfl, Nat.le_of_ble_eq_true rfl⟩ rfl rfl (Nat.le_of_ble_eq_true rfl) rfl ?_
      obtain ⟨r4, ec, hf⟩ := bd_e hf
      refine z_callS [.int a2, .int (1 : Int32), .int r3] [] [.int r4] X B 22 rfl miX6_within ⟨(iX6_step _ (List.mem_of_getElem? (i := 12) rfl)), (iX6_step _ (List.mem_of_getElem? (i := 13) rfl))⟩ (ctX6_within hj ec) ⟨Nat.le_of_ble_eq_true rfl, Nat.le_of_ble_eq_true rfl⟩ rfl rfl (Nat.le_of_ble_eq_true rfl) rfl ?_
      by_cases hc : r4 = 0
      · replace hf := (if_pos hc).symm.trans hf
        refine z_if_eq_t B 23 rfl 66 (by decide) hc ?_
        refine z_iconst (-1) B 31 rfl (by decide) ?_
        cases hf
        exact z_iret B 32 rfl rfl hQ hr
      · replace hf := (if_neg hc).symm.trans hf
        refine z_if_eq_f B 23 rfl 66 (by decide) hc ?_
        refine z_iload_n B 24 rfl 3 4 rfl rfl ?_
        refine z_aload B 25 rfl 0 rfl ?_
        refine z_iload_n B 26 rfl 1 2 rfl rfl ?_
        obtain ⟨r5, ec, hf⟩ := bd_e hf
        refine z_callV 24 2 [.int a1] [.int a3] [.int r5, .int a3] X B 27 rfl ob_24 rfl rfl miX2_lastPrice ⟨(iX6_step _ (List.mem_of_getElem? (i := 14) rfl)), (iX6_step _ (List.mem_of_getElem? (i := 15) rfl)), (iX6_step _ (List.mem_of_getElem? (i := 16) rfl))⟩ (ctX2_lastPrice hj ob_24 ec) ⟨Nat.le_of_ble_eq_true rfl, Nat.le_of_ble_eq_true rfl⟩ rfl rfl (Nat.le_of_ble_eq_true rfl) rfl ?_
        refine z_sipush 9999 B 28 rfl (by decide) ?_
        obtain ⟨r6, ec, hf⟩ := bd_e hf
        refine z_callS [.int a3, .int r5, .int (9999 : Int32)] [] [.int r6] X B 29 rfl miX6_within ⟨(iX6_step _ (List.mem_of_getElem? (i := 12) rfl)), (iX6_step _ (List.mem_of_getElem? (i := 13) rfl))⟩ (ctX6_within hj ec) ⟨Nat.le_of_ble_eq_true rfl, Nat.le_of_ble_eq_true rfl⟩ rfl rfl (Nat.le_of_ble_eq_true rfl) rfl ?_
        by_cases hc : r6 = 0
        · replace hf := (if_pos hc).symm.trans hf
          refine z_if_ne_f B 30 rfl 68 (by decide) hc ?_
          refine z_iconst (-1) B 31 rfl (by decide) ?_
          cases hf
          exact z_iret B 32 rfl rfl hQ hr
        · replace hf := (if_neg hc).symm.trans hf
          refine z_if_ne_t B 30 rfl 68 (by decide) hc ?_
          refine z_aload B 33 rfl 0 rfl ?_
          refine z_iload_n B 34 rfl 1 2 rfl rfl ?_
          refine z_iload_n B 35 rfl 2 3 rfl rfl ?_
          refine z_iload_n B 36 rfl 3 4 rfl rfl ?_
          obtain ⟨r7, ec, hf⟩ := bd_e hf
          refine z_callV 24 2 [.int a1, .int a2, .int a3] [] [.int r7.1] X B 37 rfl ob_24 rfl rfl miX2_addStep ⟨(iX6_step _ (List.mem_of_getElem? (i := 17) rfl)), (iX6_step _ (List.mem_of_getElem? (i := 18) rfl)), (iX6_step _ (List.mem_of_getElem? (i := 19) rfl))⟩ (ctX2_addStep hj ob_24 ec) ⟨Nat.le_of_ble_eq_true rfl, Nat.le_of_ble_eq_true rfl⟩ rfl rfl (Nat.le_of_ble_eq_true rfl) rfl ?_
          cases hf
          exact z_iret B 38 rfl rfl hQ hr
    · replace hf := (if_neg hc).symm.trans hf
      refine z_icmp_lt_f B 14 rfl 36 (by decide) hc ?_
      refine z_iconst (-1) B 15 rfl (by decide) ?_
      cases hf
      exact z_iret B 16 rfl rfl hQ hr
/-! ZoneCapacity.drop(IZ)I -/
def tbX6_drop : Tb := [(0, .aload_n 0, 1, 1), (1, .getfield 10, 3, 4), (4, .getfield 57, 3, 7), (7, .astore_n 3, 1, 8), (8, .iload_n 2, 1, 9), (9, .ifCond .eq 17, 3, 12), (12, .aload_n 3, 1, 13), (13, .getfield 106, 3, 16), (16, .iload_n 1, 1, 17), (17, .invokevirtual 116, 3, 20), (20, .ifCond .ne 19, 3, 23), (23, .goto 14, 3, 26), (26, .aload_n 3, 1, 27), (27, .getfield 71, 3, 30), (30, .iload_n 1, 1, 31), (31, .invokevirtual 80, 3, 34), (34, .ifCond .ne 5, 3, 37), (37, .iconst (-1), 1, 38), (38, .ireturn, 1, 39), (39, .iload_n 2, 1, 40), (40, .ifCond .eq 14, 3, 43), (43, .aload_n 3, 1, 44), (44, .getfield 106, 3, 47), (47, .iload_n 1, 1, 48), (48, .invokevirtual 127, 3, 51), (51, .goto 11, 3, 54), (54, .aload_n 3, 1, 55), (55, .getfield 71, 3, 58), (58, .iload_n 1, 1, 59), (59, .invokevirtual 130, 3, 62), (62, .ireturn, 1, 63)]
theorem dtX6_drop : ∀ q ∈ tbX6_drop, decode cX6_drop q.1 = .ok (q.2.1, q.2.2.1) ∧ q.1 + q.2.2.1 = q.2.2.2 := by decide +kernel
theorem miX6_drop : MI yX6_drop cX6_drop 4 (some .int) 2 := ⟨tw_mem (List.mem_of_getElem? (i := 593) (by decide +kernel)) rfl, by decide, by decide +kernel, tw_mem (List.mem_of_getElem? (i := 71) (by decide +kernel)) rfl⟩
abbrev rmX6_drop : Room := { frames := 2, cells := 0, slots := 0, locals := 44 }
def wX6_drop : List Cond := [.fieldLink "ZoneCapacity" 10 "ZoneCapacity" "now" "LZoneCapacity$Auction;", .fieldLink "ZoneCapacity" 57 "ZoneCapacity$Auction" "market" "LZoneCapacity$Market;", .fieldLink "ZoneCapacity" 71 "ZoneCapacity$Market" "zones" "LZoneCapacity$Zones;", .methodLink "ZoneCapacity" 80 yX5_has, .instanceMethod yX5_has, .selects "ZoneCapacity$Zones" yX5_has yX5_has, .methodLink "ZoneCapacity" 130 yX5_dropPoints, .instanceMethod yX5_dropPoints, .selects "ZoneCapacity$Zones" yX5_dropPoints yX5_dropPoints, .fieldLink "ZoneCapacity" 106 "ZoneCapacity$Market" "offers" "LZoneCapacity$Offers;", .methodLink "ZoneCapacity" 127 yX2_dropSteps, .instanceMethod yX2_dropSteps, .selects "ZoneCapacity$Offers" yX2_dropSteps yX2_dropSteps, .methodLink "ZoneCapacity" 116 yX2_has, .instanceMethod yX2_has, .selects "ZoneCapacity$Offers" yX2_has yX2_has]
theorem iX6_drop : ∀ w ∈ wX6_drop, w ∈ TW := tw_of (ids := [317, 222, 211, 561, 562, 563, 595, 482, 483, 215, 594, 520, 521, 583, 584, 585]) (by decide +kernel)
def f6_drop_j39 (x1 : Int32) (x2 : Int32) (mm : Mem) : Option (Int32 × Mem) := if x2 = 0 then bd (f5_dropPoints mm 17 x1) (fun r2 => some (r2.1, r2.2)) else bd (f2_dropSteps mm 24 x1) (fun r3 => some (r3.1, r3.2))
theorem f6_drop_j39_ok {E : Ev} {l : Launch} {C : Cfg} {x : (Int32 × Mem)} (hj : Dj C) (X : Ec E l C rmX6_drop) (B : Bx E RX6 tbX6_drop 4 (some .int)) (hQ : Rt E) (hr : Rs E (some (.int x.1)) x.2) (x1 : Int32) (x2 : Int32) (mm : Mem) (hf : f6_drop_j39 x1 x2 mm = some x) : G E 4 39 [(1, .int x1), (2, .int x2), (3, .ref 16)] [] mm := by
  unfold f6_drop_j39 at hf
  refine z_iload_n B 19 rfl 2 1 rfl rfl ?_
  by_cases hc : x2 = 0
  · replace hf := (if_pos hc).symm.trans hf
    refine z_if_eq_t B 20 rfl 54 (by decide) hc ?_
    refine z_aload_n B 26 rfl 3 2 rfl rfl ?_
    refine z_getr 1 0 16 B 27 rfl ob_16 rfl (iX6_drop _ (List.mem_of_getElem? (i := 2) rfl)) rfl ?_
    refine z_iload_n B 28 rfl 1 0 rfl rfl ?_
    obtain ⟨r2, ec, hf⟩ := bd_e hf
    refine z_callV 17 5 [.int x1] [] [.int r2.1] X B 29 rfl ob_17 rfl rfl miX5_dropPoints ⟨(iX6_drop _ (List.mem_of_getElem? (i := 6) rfl)), (iX6_drop _ (List.mem_of_getElem? (i := 7) rfl)), (iX6_drop _ (List.mem_of_getElem? (i := 8) rfl))⟩ (ctX5_dropPoints hj ob_17 ec) ⟨Nat.le_of_ble_eq_true rfl, Nat.le_of_ble_eq_true rfl⟩ rfl rfl (Nat.le_of_ble_eq_true rfl) rfl ?_
    cases hf
    exact z_iret B 30 rfl rfl hQ hr
  · replace hf := (if_neg hc).symm.trans hf
    refine z_if_eq_f B 20 rfl 54 (by decide) hc ?_
    refine z_aload_n B 21 rfl 3 2 rfl rfl ?_
    refine z_getr 1 1 16 B 22 rfl ob_16 rfl (iX6_drop _ (List.mem_of_getElem? (i := 9) rfl)) rfl ?_
    refine z_iload_n B 23 rfl 1 0 rfl rfl ?_
    obtain ⟨r3, ec, hf⟩ := bd_e hf
    refine z_callV 24 2 [.int x1] [] [.int r3.1] X B 24 rfl ob_24 rfl rfl miX2_dropSteps ⟨(iX6_drop _ (List.mem_of_getElem? (i := 10) rfl)), (iX6_drop _ (List.mem_of_getElem? (i := 11) rfl)), (iX6_drop _ (List.mem_of_getElem? (i := 12) rfl))⟩ (ctX2_dropSteps hj ob_24 ec) ⟨Nat.le_of_ble_eq_true rfl, Nat.le_of_ble_eq_true rfl⟩ rfl rfl (Nat.le_of_ble_eq_true rfl) rfl ?_
    refine z_goto B 25 rfl 62 (by decide) ?_
    cases hf
    exact z_iret B 30 rfl rfl hQ hr
def f6_drop (mm : Mem) (a1 : Int32) (a2 : Int32) : Option (Int32 × Mem) := if a2 = 0 then bd (f5_has mm 17 a1) (fun r1 => if r1 = 0 then some ((-1 : Int32), mm) else f6_drop_j39 a1 a2 mm) else bd (f2_has mm 24 a1) (fun r4 => if r4 = 0 then some ((-1 : Int32), mm) else f6_drop_j39 a1 a2 mm)
theorem ctX6_drop {l : Launch} {C : Cfg} (hj : Dj C) {mm : Mem} {a1 : Int32} {a2 : Int32} {x : (Int32 × Mem)} (hf : f6_drop mm a1 a2 = some x) : Ct l C yX6_drop cX6_drop 4 (some .int) 2 44 [.ref 14, .int a1, .int a2] mm (some (.int x.1)) x.2 := by
  refine Ct.of (tb := tbX6_drop) hj miX6_drop.2.1 miX6_drop.1 dtX6_drop (Nat.le_of_ble_eq_true rfl) ?_
  intro E B hQ hr X
  unfold f6_drop at hf
  show G E 4 0 [(0, .ref 14), (1, .int a1), (2, .int a2)] [] mm
  refine z_aload_n B 0 rfl 0 0 rfl rfl ?_
  refine z_getr 6 0 14 B 1 rfl ob_14 rfl (iX6_drop _ (List.mem_of_getElem? (i := 0) rfl)) rfl ?_
  refine z_getr 0 0 15 B 2 rfl ob_15 rfl (iX6_drop _ (List.mem_of_getElem? (i := 1) rfl)) rfl ?_
  refine z_astore_n [(3, .ref 16), (0, .ref 14), (1, .int a1), (2, .int a2)] B 3 rfl 3 rfl (by decide) rfl ?_
  refine z_iload_n B 4 rfl 2 3 rfl rfl ?_
  by_cases hc : a2 = 0
  · replace hf := (if_pos hc).symm.trans hf
    refine z_if_eq_t B 5 rfl 26 (by decide) hc ?_
    refine z_aload_n B 12 rfl 3 0 rfl rfl ?_
    refine z_getr 1 0 16 B 13 rfl ob_16 rfl (iX6_drop _ (List.mem_of_getElem? (i := 2) rfl)) rfl ?_
    refine z_iload_n B 14 rfl 1 2 rfl rfl ?_
    obtain ⟨r1, ec, hf⟩ := bd_e hf
    refine z_callV 17 5 [.int a1] [] [.int r1] X B 15 rfl ob_17 rfl rfl miX5_has ⟨(iX6_drop _ (List.mem_of_getElem? (i := 3) rfl)), (iX6_drop _ (List.mem_of_getElem? (i := 4) rfl)), (iX6_drop _ (List.mem_of_getElem? (i := 5) rfl))⟩ (ctX5_has hj ob_17 ec) ⟨Nat.le_of_ble_eq_true rfl, Nat.le_of_ble_eq_true rfl⟩ rfl rfl (Nat.le_of_ble_eq_true rfl) rfl ?_
    by_cases hc : r1 = 0
    · replace hf := (if_pos hc).symm.trans hf
      refine z_if_ne_f B 16 rfl 39 (by decide) hc ?_
      refine z_iconst (-1) B 17 rfl (by decide) ?_
      cases hf
      exact z_iret B 18 rfl rfl hQ hr
    · replace hf := (if_neg hc).symm.trans hf
      refine z_if_ne_t B 16 rfl 39 (by decide) hc ?_
      refine z_sub [(1, .int a1), (2, .int a2), (3, .ref 16)] [2, 3, 0] rfl ?_
      exact f6_drop_j39_ok hj X B hQ hr _ _ _ hf
  · replace hf := (if_neg hc).symm.trans hf
    refine z_if_eq_f B 5 rfl 26 (by decide) hc ?_
    refine z_aload_n B 6 rfl 3 0 rfl rfl ?_
    refine z_getr 1 1 16 B 7 rfl ob_16 rfl (iX6_drop _ (List.mem_of_getElem? (i := 9) rfl)) rfl ?_
    refine z_iload_n B 8 rfl 1 2 rfl rfl ?_
    obtain ⟨r4, ec, hf⟩ := bd_e hf
    refine z_callV 24 2 [.int a1] [] [.int r4] X B 9 rfl ob_24 rfl rfl miX2_has ⟨(iX6_drop _ (List.mem_of_getElem? (i := 13) rfl)), (iX6_drop _ (List.mem_of_getElem? (i := 14) rfl)), (iX6_drop _ (List.mem_of_getElem? (i := 15) rfl))⟩ (ctX2_has hj ob_24 ec) ⟨Nat.le_of_ble_eq_true rfl, Nat.le_of_ble_eq_true rfl⟩ rfl rfl (Nat.le_of_ble_eq_true rfl) rfl ?_
    by_cases hc : r4 = 0
    · replace hf := (if_pos hc).symm.trans hf
      refine z_if_ne_f B 10 rfl 39 (by decide) hc ?_
      refine z_goto B 11 rfl 37 (by decide) ?_
      refine z_iconst (-1) B 17 rfl (by decide) ?_
      cases hf
      exact z_iret B 18 rfl rfl hQ hr
    · replace hf := (if_neg hc).symm.trans hf
      refine z_if_ne_t B 10 rfl 39 (by decide) hc ?_
      refine z_sub [(1, .int a1), (2, .int a2), (3, .ref 16)] [2, 3, 0] rfl ?_
      exact f6_drop_j39_ok hj X B hQ hr _ _ _ hf
/-! ZoneCapacity.change([III)Z -/
def tbX6_change : Tb := [(0, .aload_n 0, 1, 1), (1, .iload_n 1, 1, 2), (2, .invokestatic 92, 3, 5), (5, .iload_n 2, 1, 6), (6, .if_icmp .ne 5, 3, 9), (9, .iconst 0, 1, 10), (10, .ireturn, 1, 11), (11, .aload_n 0, 1, 12), (12, .iload_n 1, 1, 13), (13, .iload_n 2, 1, 14), (14, .invokestatic 257, 3, 17), (17, .iconst 1, 1, 18), (18, .ireturn, 1, 19)]
theorem dtX6_change : ∀ q ∈ tbX6_change, decode cX6_change q.1 = .ok (q.2.1, q.2.2.1) ∧ q.1 + q.2.2.1 = q.2.2.2 := by decide +kernel
theorem miX6_change : MI yX6_change cX6_change 3 (some .boolean) 3 := ⟨tw_mem (List.mem_of_getElem? (i := 602) (by decide +kernel)) rfl, by decide, by decide +kernel, tw_mem (List.mem_of_getElem? (i := 71) (by decide +kernel)) rfl⟩
abbrev rmX6_change : Room := { frames := 1, cells := 0, slots := 0, locals := 22 }
def wX6_change : List Cond := [.methodLink "ZoneCapacity" 92 yX6_at, .static yX6_at, .methodLink "ZoneCapacity" 257 yX6_put, .static yX6_put]
theorem iX6_change : ∀ w ∈ wX6_change, w ∈ TW := tw_of (ids := [570, 386, 603, 348]) (by decide +kernel)
def f6_change (mm : Mem) (a0 : Nat) (a1 : Int32) (a2 : Int32) : Option (Int32 × Mem) := bd (f6_at mm a0 a1) (fun r1 => if r1 = a2 then some ((0 : Int32), mm) else bd (f6_put mm a0 a1 a2) (fun r2 => some ((1 : Int32), r2)))
theorem ctX6_change {l : Launch} {C : Cfg} (hj : Dj C) {mm : Mem} {a0 : Nat} {a1 : Int32} {a2 : Int32} {x : (Int32 × Mem)} (o_a0 : Ob a0 8) (hf : f6_change mm a0 a1 a2 = some x) : Ct l C yX6_change cX6_change 3 (some .boolean) 1 22 [.ref a0, .int a1, .int a2] mm (some (.int x.1)) x.2 := by
  refine Ct.of (tb := tbX6_change) hj miX6_change.2.1 miX6_change.1 dtX6_change (Nat.le_of_ble_eq_true rfl) ?_
  intro E B hQ hr X
  unfold f6_change at hf
  show G E 3 0 [(0, .ref a0), (1, .int a1), (2, .int a2)] [] mm
  refine z_aload_n B 0 rfl 0 0 rfl rfl ?_
  refine z_iload_n B 1 rfl 1 1 rfl rfl ?_
  obtain ⟨r1, ec, hf⟩ := bd_e hf
  refine z_callS [.ref a0, .int a1] [] [.int r1] X B 2 rfl miX6_at ⟨(iX6_change _ (List.mem_of_getElem? (i := 0) rfl)), (iX6_change _ (List.mem_of_getElem? (i := 1) rfl))⟩ (ctX6_at hj o_a0 ec) ⟨Nat.le_of_ble_eq_true rfl, Nat.le_of_ble_eq_true rfl⟩ rfl rfl (Nat.le_of_ble_eq_true rfl) rfl ?_
  refine z_iload_n B 3 rfl 2 2 rfl rfl ?_
  by_cases hc : r1 = a2
  · replace hf := (if_pos hc).symm.trans hf
    refine z_icmp_ne_f B 4 rfl 11 (by decide) hc ?_
    refine z_iconst 0 B 5 rfl (by decide) ?_
    cases hf
    exact z_iret B 6 rfl (by decide) hQ hr
  · replace hf := (if_neg hc).symm.trans hf
    refine z_icmp_ne_t B 4 rfl 11 (by decide) hc ?_
    refine z_aload_n B 7 rfl 0 0 rfl rfl ?_
    refine z_iload_n B 8 rfl 1 1 rfl rfl ?_
    refine z_iload_n B 9 rfl 2 2 rfl rfl ?_
    obtain ⟨r2, ec, hf⟩ := bd_e hf
    refine z_callS [.ref a0, .int a1, .int a2] [] [] X B 10 rfl miX6_put ⟨(iX6_change _ (List.mem_of_getElem? (i := 2) rfl)), (iX6_change _ (List.mem_of_getElem? (i := 3) rfl))⟩ (ctX6_put hj o_a0 ec) ⟨Nat.le_of_ble_eq_true rfl, Nat.le_of_ble_eq_true rfl⟩ rfl rfl (Nat.le_of_ble_eq_true rfl) rfl ?_
    refine z_iconst 1 B 11 rfl (by decide) ?_
    cases hf
    exact z_iret B 12 rfl (by decide) hQ hr
/-! ZoneCapacity.set(III)Z -/
def tbX6_set : Tb := [(0, .aload_n 0, 1, 1), (1, .getfield 10, 3, 4), (4, .getfield 57, 3, 7), (7, .getfield 71, 3, 10), (10, .astore 4, 2, 12), (12, .aload_n 0, 1, 13), (13, .getfield 10, 3, 16), (16, .getfield 57, 3, 19), (19, .getfield 106, 3, 22), (22, .astore 5, 2, 24), (24, .iload_n 3, 1, 25), (25, .iconst 0, 1, 26), (26, .sipush 9999, 3, 29), (29, .invokestatic 50, 3, 32), (32, .ifCond .ne 5, 3, 35), (35, .iconst 0, 1, 36), (36, .ireturn, 1, 37), (37, .iload_n 1, 1, 38), (38, .tableswitch 158 0 4 #[34, 62, 69, 97, 125], 34, 72), (72, .iload_n 2, 1, 73), (73, .iconst 0, 1, 74), (74, .iconst 3, 1, 75), (75, .invokestatic 50, 3, 78), (78, .ifCond .eq 20, 3, 81), (81, .aload 5, 2, 83), (83, .getfield 133, 3, 86), (86, .iload_n 2, 1, 87), (87, .iload_n 3, 1, 88), (88, .invokestatic 136, 3, 91), (91, .ifCond .eq 7, 3, 94), (94, .iconst 1, 1, 95), (95, .goto 4, 3, 98), (98, .iconst 0, 1, 99), (99, .ireturn, 1, 100), (100, .aload 5, 2, 102), (102, .iload_n 3, 1, 103), (103, .invokevirtual 140, 3, 106), (106, .ireturn, 1, 107), (107, .aload 4, 2, 109), (109, .iload_n 2, 1, 110), (110, .invokevirtual 143, 3, 113), (113, .ifCond .eq 20, 3, 116), (116, .aload 4, 2, 118), (118, .getfield 146, 3, 121), (121, .iload_n 2, 1, 122), (122, .iload_n 3, 1, 123), (123, .invokestatic 136, 3, 126), (126, .ifCond .eq 7, 3, 129), (129, .iconst 1, 1, 130), (130, .goto 4, 3, 133), (133, .iconst 0, 1, 134), (134, .ireturn, 1, 135), (135, .aload 4, 2, 137), (137, .iload_n 2, 1, 138), (138, .invokevirtual 143, 3, 141), (141, .ifCond .eq 20, 3, 144), (144, .aload 4, 2, 146), (146, .getfield 149, 3, 149), (149, .iload_n 2, 1, 150), (150, .iload_n 3, 1, 151), (151, .invokestatic 136, 3, 154), (154, .ifCond .eq 7, 3, 157), (157, .iconst 1, 1, 158), (158, .goto 4, 3, 161), (161, .iconst 0, 1, 162), (162, .ireturn, 1, 163), (163, .iload_n 3, 1, 164), (164, .iconst 1, 1, 165), (165, .if_icmp .gt 29, 3, 168), (168, .aload 5, 2, 170), (170, .iload_n 2, 1, 171), (171, .invokevirtual 116, 3, 174), (174, .ifCond .eq 20, 3, 177), (177, .aload 5, 2, 179), (179, .getfield 152, 3, 182), (182, .iload_n 2, 1, 183), (183, .iload_n 3, 1, 184), (184, .invokestatic 136, 3, 187), (187, .ifCond .eq 7, 3, 190), (190, .iconst 1, 1, 191), (191, .goto 4, 3, 194), (194, .iconst 0, 1, 195), (195, .ireturn, 1, 196), (196, .iconst 0, 1, 197), (197, .ireturn, 1, 198)]
theorem dtX6_set : ∀ q ∈ tbX6_set, decode cX6_set q.1 = .ok (q.2.1, q.2.2.1) ∧ q.1 + q.2.2.1 = q.2.2.2 := by decide +kernel
theorem miX6_set : MI yX6_set cX6_set 6 (some .boolean) 3 := ⟨tw_mem (List.mem_of_getElem? (i := 599) (by decide +kernel)) rfl, by decide, by decide +kernel, tw_mem (List.mem_of_getElem? (i := 71) (by decide +kernel)) rfl⟩
abbrev rmX6_set : Room := { frames := 2, cells := 0, slots := 0, locals := 44 }
def wX6_set : List Cond := [.fieldLink "ZoneCapacity" 10 "ZoneCapacity" "now" "LZoneCapacity$Auction;", .fieldLink "ZoneCapacity" 57 "ZoneCapacity$Auction" "market" "LZoneCapacity$Market;", .fieldLink "ZoneCapacity" 71 "ZoneCapacity$Market" "zones" "LZoneCapacity$Zones;", .fieldLink "ZoneCapacity" 106 "ZoneCapacity$Market" "offers" "LZoneCapacity$Offers;", .methodLink "ZoneCapacity" 50 yX6_within, .static yX6_within, .fieldLink "ZoneCapacity" 133 "ZoneCapacity$Offers" "floors" "[I", .methodLink "ZoneCapacity" 136 yX6_change, .static yX6_change, .methodLink "ZoneCapacity" 140 yX2_changeCeiling, .instanceMethod yX2_changeCeiling, .selects "ZoneCapacity$Offers" yX2_changeCeiling yX2_changeCeiling, .methodLink "ZoneCapacity" 143 yX5_hasInner, .instanceMethod yX5_hasInner, .selects "ZoneCapacity$Zones" yX5_hasInner yX5_hasInner, .fieldLink "ZoneCapacity" 146 "ZoneCapacity$Zones" "in" "[I", .fieldLink "ZoneCapacity" 149 "ZoneCapacity$Zones" "out" "[I", .methodLink "ZoneCapacity" 116 yX2_has, .instanceMethod yX2_has, .selects "ZoneCapacity$Offers" yX2_has yX2_has, .fieldLink "ZoneCapacity" 152 "ZoneCapacity$Offers" "free" "[I"]
theorem iX6_set : ∀ w ∈ wX6_set, w ∈ TW := tw_of (ids := [317, 222, 211, 215, 354, 355, 164, 600, 601, 604, 605, 606, 608, 609, 610, 123, 127, 583, 584, 585, 178]) (by decide +kernel)
def f6_set (mm : Mem) (a1 : Int32) (a2 : Int32) (a3 : Int32) : Option (Int32 × Mem) := bd (f6_within mm a3 (0 : Int32) (9999 : Int32)) (fun r1 => if r1 = 0 then some ((0 : Int32), mm) else if a1 = 0 then bd (f6_within mm a2 (0 : Int32) (3 : Int32)) (fun r2 => if r2 = 0 then some ((0 : Int32), mm) else bd (f6_change mm 25 a2 a3) (fun r3 => if r3.1 = 0 then some ((0 : Int32), r3.2) else some ((1 : Int32), r3.2))) else if a1 = 1 then bd (f2_changeCeiling mm 24 a3) (fun r4 => bok r4.1 (some (r4.1, r4.2))) else if a1 = 2 then bd (f5_hasInner mm 17 a2) (fun r5 => if r5 = 0 then some ((0 : Int32), mm) else bd (f6_change mm 19 a2 a3) (fun r6 => if r6.1 = 0 then some ((0 : Int32), r6.2) else some ((1 : Int32), r6.2))) else if a1 = 3 then bd (f5_hasInner mm 17 a2) (fun r7 => if r7 = 0 then some ((0 : Int32), mm) else bd (f6_change mm 20 a2 a3) (fun r8 => if r8.1 = 0 then some ((0 : Int32), r8.2) else some ((1 : Int32), r8.2))) else if a1 = 4 then if (1 : Int32) < a3 then some ((0 : Int32), mm) else bd (f2_has mm 24 a2) (fun r9 => if r9 = 0 then some ((0 : Int32), mm) else bd (f6_change mm 31 a2 a3) (fun r10 => if r10.1 = 0 then some ((0 : Int32), r10.2) else some ((1 : Int32), r10.2))) else some ((0 : Int32), mm))
theorem ctX6_set {l : Launch} {C : Cfg} (hj : Dj C) {mm : Mem} {a1 : Int32} {a2 : Int32} {a3 : Int32} {x : (Int32 × Mem)} (hf : f6_set mm a1 a2 a3 = some x) : Ct l C yX6_set cX6_set 6 (some .boolean) 2 44 [.ref 14, .int a1, .int a2, .int a3] mm (some (.int x.1)) x.2 := by
  refine Ct.of (tb := tbX6_set) hj miX6_set.2.1 miX6_set.1 dtX6_set (Nat.le_of_ble_eq_true rfl) ?_
  intro E B hQ hr X
  unfold f6_set at hf
  show G E 6 0 [(0, .ref 14), (1, .int a1), (2, .int a2), (3, .int a3)] [] mm
  refine z_aload_n B 0 rfl 0 0 rfl rfl ?_
  refine z_getr 6 0 14 B 1 rfl ob_14 rfl (iX6_set _ (List.mem_of_getElem? (i := 0) rfl)) rfl ?_
  refine z_getr 0 0 15 B 2 rfl ob_15 rfl (iX6_set _ (List.mem_of_getElem? (i := 1) rfl)) rfl ?_
  refine z_getr 1 0 16 B 3 rfl ob_16 rfl (iX6_set _ (List.mem_of_getElem? (i := 2) rfl)) rfl ?_
  refine z_astore [(4, .ref 17), (0, .ref 14), (1, .int a1), (2, .int a2), (3, .int a3)] B 4 rfl (by decide) rfl ?_
  refine z_aload_n B 5 rfl 0 1 rfl rfl ?_
  refine z_getr 6 0 14 B 6 rfl ob_14 rfl (iX6_set _ (List.mem_of_getElem? (i := 0) rfl)) rfl ?_
  refine z_getr 0 0 15 B 7 rfl ob_15 rfl (iX6_set _ (List.mem_of_getElem? (i := 1) rfl)) rfl ?_
  refine z_getr 1 1 16 B 8 rfl ob_16 rfl (iX6_set _ (List.mem_of_getElem? (i := 3) rfl)) rfl ?_
  refine z_astore [(5, .ref 24), (4, .ref 17), (0, .ref 14), (1, .int a1), (2, .int a2), (3, .int a3)] B 9 rfl (by decide) rfl ?_
  refine z_iload_n B 10 rfl 3 5 rfl rfl ?_
  refine z_iconst 0 B 11 rfl (by decide) ?_
  refine z_sipush 9999 B 12 rfl (by decide) ?_
  obtain ⟨r1, ec, hf⟩ := bd_e hf
  refine z_callS [.int a3, .int (0 : Int32), .int (9999 : Int32)] [] [.int r1] X B 13 rfl miX6_within ⟨(iX6_set _ (List.mem_of_getElem? (i := 4) rfl)), (iX6_set _ (List.mem_of_getElem? (i := 5) rfl))⟩ (ctX6_within hj ec) ⟨Nat.le_of_ble_eq_true rfl, Nat.le_of_ble_eq_true rfl⟩ rfl rfl (Nat.le_of_ble_eq_true rfl) rfl ?_
  by_cases hc : r1 = 0
  · replace hf := (if_pos hc).symm.trans hf
    refine z_if_ne_f B 14 rfl 37 (by decide) hc ?_
    refine z_iconst 0 B 15 rfl (by decide) ?_
    cases hf
    exact z_iret B 16 rfl (by decide) hQ hr
  · replace hf := (if_neg hc).symm.trans hf
    refine z_if_ne_t B 14 rfl 37 (by decide) hc ?_
    refine z_iload_n B 17 rfl 1 3 rfl rfl ?_
    by_cases hc : a1 = 0
    · replace hf := (if_pos hc).symm.trans hf
      refine z_tswi B 18 rfl 0 (34) 72 (by rw [hc]; decide) (by decide) rfl (by decide) ?_
      refine z_iload_n B 19 rfl 2 4 rfl rfl ?_
      refine z_iconst 0 B 20 rfl (by decide) ?_
      refine z_iconst 3 B 21 rfl (by decide) ?_
      obtain ⟨r2, ec, hf⟩ := bd_e hf
      refine z_callS [.int a2, .int (0 : Int32), .int (3 : Int32)] [] [.int r2] X B 22 rfl miX6_within ⟨(iX6_set _ (List.mem_of_getElem? (i := 4) rfl)), (iX6_set _ (List.mem_of_getElem? (i := 5) rfl))⟩ (ctX6_within hj ec) ⟨Nat.le_of_ble_eq_true rfl, Nat.le_of_ble_eq_true rfl⟩ rfl rfl (Nat.le_of_ble_eq_true rfl) rfl ?_
      by_cases hc : r2 = 0
      · replace hf := (if_pos hc).symm.trans hf
        refine z_if_eq_t B 23 rfl 98 (by decide) hc ?_
        refine z_iconst 0 B 32 rfl (by decide) ?_
        cases hf
        exact z_iret B 33 rfl (by decide) hQ hr
      · replace hf := (if_neg hc).symm.trans hf
        refine z_if_eq_f B 23 rfl 98 (by decide) hc ?_
        refine z_aload B 24 rfl 0 rfl ?_
        refine z_getr 2 2 24 B 25 rfl ob_24 rfl (iX6_set _ (List.mem_of_getElem? (i := 6) rfl)) rfl ?_
        refine z_iload_n B 26 rfl 2 4 rfl rfl ?_
        refine z_iload_n B 27 rfl 3 5 rfl rfl ?_
        obtain ⟨r3, ec, hf⟩ := bd_e hf
        refine z_callS [.ref 25, .int a2, .int a3] [] [.int r3.1] X B 28 rfl miX6_change ⟨(iX6_set _ (List.mem_of_getElem? (i := 7) rfl)), (iX6_set _ (List.mem_of_getElem? (i := 8) rfl))⟩ (ctX6_change hj ob_25 ec) ⟨Nat.le_of_ble_eq_true rfl, Nat.le_of_ble_eq_true rfl⟩ rfl rfl (Nat.le_of_ble_eq_true rfl) rfl ?_
        by_cases hc : r3.1 = 0
        · replace hf := (if_pos hc).symm.trans hf
          refine z_if_eq_t B 29 rfl 98 (by decide) hc ?_
          refine z_iconst 0 B 32 rfl (by decide) ?_
          cases hf
          exact z_iret B 33 rfl (by decide) hQ hr
        · replace hf := (if_neg hc).symm.trans hf
          refine z_if_eq_f B 29 rfl 98 (by decide) hc ?_
          refine z_iconst 1 B 30 rfl (by decide) ?_
          refine z_goto B 31 rfl 99 (by decide) ?_
          cases hf
          exact z_iret B 33 rfl (by decide) hQ hr
    · replace hf := (if_neg hc).symm.trans hf
      have hc0 := hc
      by_cases hc : a1 = 1
      · replace hf := (if_pos hc).symm.trans hf
        refine z_tswi B 18 rfl 1 (62) 100 (by rw [hc]; decide) (by decide) rfl (by decide) ?_
        refine z_aload B 34 rfl 0 rfl ?_
        refine z_iload_n B 35 rfl 3 5 rfl rfl ?_
        obtain ⟨r4, ec, hf⟩ := bd_e hf
        refine z_callV 24 2 [.int a3] [] [.int r4.1] X B 36 rfl ob_24 rfl rfl miX2_changeCeiling ⟨(iX6_set _ (List.mem_of_getElem? (i := 9) rfl)), (iX6_set _ (List.mem_of_getElem? (i := 10) rfl)), (iX6_set _ (List.mem_of_getElem? (i := 11) rfl))⟩ (ctX2_changeCeiling hj ob_24 ec) ⟨Nat.le_of_ble_eq_true rfl, Nat.le_of_ble_eq_true rfl⟩ rfl rfl (Nat.le_of_ble_eq_true rfl) rfl ?_
        obtain ⟨hb, hf⟩ := bok_e hf
        cases hf
        exact z_iret B 37 rfl (bok_n hb) hQ hr
      · replace hf := (if_neg hc).symm.trans hf
        have hc1 := hc
        by_cases hc : a1 = 2
        · replace hf := (if_pos hc).symm.trans hf
          refine z_tswi B 18 rfl 2 (69) 107 (by rw [hc]; decide) (by decide) rfl (by decide) ?_
          refine z_aload B 38 rfl 1 rfl ?_
          refine z_iload_n B 39 rfl 2 4 rfl rfl ?_
          obtain ⟨r5, ec, hf⟩ := bd_e hf
          refine z_callV 17 5 [.int a2] [] [.int r5] X B 40 rfl ob_17 rfl rfl miX5_hasInner ⟨(iX6_set _ (List.mem_of_getElem? (i := 12) rfl)), (iX6_set _ (List.mem_of_getElem? (i := 13) rfl)), (iX6_set _ (List.mem_of_getElem? (i := 14) rfl))⟩ (ctX5_hasInner hj ob_17 ec) ⟨Nat.le_of_ble_eq_true rfl, Nat.le_of_ble_eq_true rfl⟩ rfl rfl (Nat.le_of_ble_eq_true rfl) rfl ?_
          by_cases hc : r5 = 0
          · replace hf := (if_pos hc).symm.trans hf
            refine z_if_eq_t B 41 rfl 133 (by decide) hc ?_
            refine z_iconst 0 B 50 rfl (by decide) ?_
            cases hf
            exact z_iret B 51 rfl (by decide) hQ hr
          · replace hf := (if_neg hc).symm.trans hf
            refine z_if_eq_f B 41 rfl 133 (by decide) hc ?_
            refine z_aload B 42 rfl 1 rfl ?_
            refine z_getr 5 2 17 B 43 rfl ob_17 rfl (iX6_set _ (List.mem_of_getElem? (i := 15) rfl)) rfl ?_
            refine z_iload_n B 44 rfl 2 4 rfl rfl ?_
            refine z_iload_n B 45 rfl 3 5 rfl rfl ?_
            obtain ⟨r6, ec, hf⟩ := bd_e hf
            refine z_callS [.ref 19, .int a2, .int a3] [] [.int r6.1] X B 46 rfl miX6_change ⟨(iX6_set _ (List.mem_of_getElem? (i := 7) rfl)), (iX6_set _ (List.mem_of_getElem? (i := 8) rfl))⟩ (ctX6_change hj ob_19 ec) ⟨Nat.le_of_ble_eq_true rfl, Nat.le_of_ble_eq_true rfl⟩ rfl rfl (Nat.le_of_ble_eq_true rfl) rfl ?_
            by_cases hc : r6.1 = 0
            · replace hf := (if_pos hc).symm.trans hf
              refine z_if_eq_t B 47 rfl 133 (by decide) hc ?_
              refine z_iconst 0 B 50 rfl (by decide) ?_
              cases hf
              exact z_iret B 51 rfl (by decide) hQ hr
            · replace hf := (if_neg hc).symm.trans hf
              refine z_if_eq_f B 47 rfl 133 (by decide) hc ?_
              refine z_iconst 1 B 48 rfl (by decide) ?_
              refine z_goto B 49 rfl 134 (by decide) ?_
              cases hf
              exact z_iret B 51 rfl (by decide) hQ hr
        · replace hf := (if_neg hc).symm.trans hf
          have hc2 := hc
          by_cases hc : a1 = 3
          · replace hf := (if_pos hc).symm.trans hf
            refine z_tswi B 18 rfl 3 (97) 135 (by rw [hc]; decide) (by decide) rfl (by decide) ?_
            refine z_aload B 52 rfl 1 rfl ?_
            refine z_iload_n B 53 rfl 2 4 rfl rfl ?_
            obtain ⟨r7, ec, hf⟩ := bd_e hf
            refine z_callV 17 5 [.int a2] [] [.int r7] X B 54 rfl ob_17 rfl rfl miX5_hasInner ⟨(iX6_set _ (List.mem_of_getElem? (i := 12) rfl)), (iX6_set _ (List.mem_of_getElem? (i := 13) rfl)), (iX6_set _ (List.mem_of_getElem? (i := 14) rfl))⟩ (ctX5_hasInner hj ob_17 ec) ⟨Nat.le_of_ble_eq_true rfl, Nat.le_of_ble_eq_true rfl⟩ rfl rfl (Nat.le_of_ble_eq_true rfl) rfl ?_
            by_cases hc : r7 = 0
            · replace hf := (if_pos hc).symm.trans hf
              refine z_if_eq_t B 55 rfl 161 (by decide) hc ?_
              refine z_iconst 0 B 64 rfl (by decide) ?_
              cases hf
              exact z_iret B 65 rfl (by decide) hQ hr
            · replace hf := (if_neg hc).symm.trans hf
              refine z_if_eq_f B 55 rfl 161 (by decide) hc ?_
              refine z_aload B 56 rfl 1 rfl ?_
              refine z_getr 5 3 17 B 57 rfl ob_17 rfl (iX6_set _ (List.mem_of_getElem? (i := 16) rfl)) rfl ?_
              refine z_iload_n B 58 rfl 2 4 rfl rfl ?_
              refine z_iload_n B 59 rfl 3 5 rfl rfl ?_
              obtain ⟨r8, ec, hf⟩ := bd_e hf
              refine z_callS [.ref 20, .int a2, .int a3] [] [.int r8.1] X B 60 rfl miX6_change ⟨(iX6_set _ (List.mem_of_getElem? (i := 7) rfl)), (iX6_set _ (List.mem_of_getElem? (i := 8) rfl))⟩ (ctX6_change hj ob_20 ec) ⟨Nat.le_of_ble_eq_true rfl, Nat.le_of_ble_eq_true rfl⟩ rfl rfl (Nat.le_of_ble_eq_true rfl) rfl ?_
              by_cases hc : r8.1 = 0
              · replace hf := (if_pos hc).symm.trans hf
                refine z_if_eq_t B 61 rfl 161 (by decide) hc ?_
                refine z_iconst 0 B 64 rfl (by decide) ?_
                cases hf
                exact z_iret B 65 rfl (by decide) hQ hr
              · replace hf := (if_neg hc).symm.trans hf
                refine z_if_eq_f B 61 rfl 161 (by decide) hc ?_
                refine z_iconst 1 B 62 rfl (by decide) ?_
                refine z_goto B 63 rfl 162 (by decide) ?_
                cases hf
                exact z_iret B 65 rfl (by decide) hQ hr
          · replace hf := (if_neg hc).symm.trans hf
            have hc3 := hc
            by_cases hc : a1 = 4
            · replace hf := (if_pos hc).symm.trans hf
              refine z_tswi B 18 rfl 4 (125) 163 (by rw [hc]; decide) (by decide) rfl (by decide) ?_
              refine z_iload_n B 66 rfl 3 5 rfl rfl ?_
              refine z_iconst 1 B 67 rfl (by decide) ?_
              by_cases hc : (1 : Int32) < a3
              · replace hf := (if_pos hc).symm.trans hf
                refine z_icmp_gt_t B 68 rfl 194 (by decide) hc ?_
                refine z_iconst 0 B 81 rfl (by decide) ?_
                cases hf
                exact z_iret B 82 rfl (by decide) hQ hr
              · replace hf := (if_neg hc).symm.trans hf
                refine z_icmp_gt_f B 68 rfl 194 (by decide) hc ?_
                refine z_aload B 69 rfl 0 rfl ?_
                refine z_iload_n B 70 rfl 2 4 rfl rfl ?_
                obtain ⟨r9, ec, hf⟩ := bd_e hf
                refine z_callV 24 2 [.int a2] [] [.int r9] X B 71 rfl ob_24 rfl rfl miX2_has ⟨(iX6_set _ (List.mem_of_getElem? (i := 17) rfl)), (iX6_set _ (List.mem_of_getElem? (i := 18) rfl)), (iX6_set _ (List.mem_of_getElem? (i := 19) rfl))⟩ (ctX2_has hj ob_24 ec) ⟨Nat.le_of_ble_eq_true rfl, Nat.le_of_ble_eq_true rfl⟩ rfl rfl (Nat.le_of_ble_eq_true rfl) rfl ?_
                by_cases hc : r9 = 0
                · replace hf := (if_pos hc).symm.trans hf
                  refine z_if_eq_t B 72 rfl 194 (by decide) hc ?_
                  refine z_iconst 0 B 81 rfl (by decide) ?_
                  cases hf
                  exact z_iret B 82 rfl (by decide) hQ hr
                · replace hf := (if_neg hc).symm.trans hf
                  refine z_if_eq_f B 72 rfl 194 (by decide) hc ?_
                  refine z_aload B 73 rfl 0 rfl ?_
                  refine z_getr 2 8 24 B 74 rfl ob_24 rfl (iX6_set _ (List.mem_of_getElem? (i := 20) rfl)) rfl ?_
                  refine z_iload_n B 75 rfl 2 4 rfl rfl ?_
                  refine z_iload_n B 76 rfl 3 5 rfl rfl ?_
                  obtain ⟨r10, ec, hf⟩ := bd_e hf
                  refine z_callS [.ref 31, .int a2, .int a3] [] [.int r10.1] X B 77 rfl miX6_change ⟨(iX6_set _ (List.mem_of_getElem? (i := 7) rfl)), (iX6_set _ (List.mem_of_getElem? (i := 8) rfl))⟩ (ctX6_change hj ob_31 ec) ⟨Nat.le_of_ble_eq_true rfl, Nat.le_of_ble_eq_true rfl⟩ rfl rfl (Nat.le_of_ble_eq_true rfl) rfl ?_
                  by_cases hc : r10.1 = 0
                  · replace hf := (if_pos hc).symm.trans hf
                    refine z_if_eq_t B 78 rfl 194 (by decide) hc ?_
                    refine z_iconst 0 B 81 rfl (by decide) ?_
                    cases hf
                    exact z_iret B 82 rfl (by decide) hQ hr
                  · replace hf := (if_neg hc).symm.trans hf
                    refine z_if_eq_f B 78 rfl 194 (by decide) hc ?_
                    refine z_iconst 1 B 79 rfl (by decide) ?_
                    refine z_goto B 80 rfl 195 (by decide) ?_
                    cases hf
                    exact z_iret B 82 rfl (by decide) hQ hr
            · replace hf := (if_neg hc).symm.trans hf
              have hc4 := hc
              refine z_tswo B 18 rfl 196 (tsw_out5 hc0 hc1 hc2 hc3 hc4) (by decide) ?_
              refine z_iconst 0 B 83 rfl (by decide) ?_
              cases hf
              exact z_iret B 84 rfl (by decide) hQ hr
/-! ZoneCapacity.keep(I)Z -/
def tbX6_keep : Tb := [(0, .iload_n 1, 1, 1), (1, .ifCond .ne 25, 3, 4), (4, .aload_n 0, 1, 5), (5, .getfield 29, 3, 8), (8, .aload_n 0, 1, 9), (9, .getfield 10, 3, 12), (12, .getfield 57, 3, 15), (15, .invokevirtual 60, 3, 18), (18, .aload_n 0, 1, 19), (19, .iconst 1, 1, 20), (20, .putfield 155, 3, 23), (23, .goto 27, 3, 26), (26, .iload_n 1, 1, 27), (27, .iconst 1, 1, 28), (28, .if_icmp .ne 22, 3, 31), (31, .aload_n 0, 1, 32), (32, .getfield 33, 3, 35), (35, .aload_n 0, 1, 36), (36, .getfield 10, 3, 39), (39, .getfield 57, 3, 42), (42, .invokevirtual 60, 3, 45), (45, .aload_n 0, 1, 46), (46, .iconst 1, 1, 47), (47, .putfield 159, 3, 50), (50, .iload_n 1, 1, 51), (51, .ifCond .eq 8, 3, 54), (54, .iload_n 1, 1, 55), (55, .iconst 1, 1, 56), (56, .if_icmp .ne 7, 3, 59), (59, .iconst 1, 1, 60), (60, .goto 4, 3, 63), (63, .iconst 0, 1, 64), (64, .ireturn, 1, 65)]
theorem dtX6_keep : ∀ q ∈ tbX6_keep, decode cX6_keep q.1 = .ok (q.2.1, q.2.2.1) ∧ q.1 + q.2.2.1 = q.2.2.2 := by decide +kernel
theorem miX6_keep : MI yX6_keep cX6_keep 2 (some .boolean) 1 := ⟨tw_mem (List.mem_of_getElem? (i := 616) (by decide +kernel)) rfl, by decide, by decide +kernel, tw_mem (List.mem_of_getElem? (i := 71) (by decide +kernel)) rfl⟩
abbrev rmX6_keep : Room := { frames := 3, cells := 0, slots := 0, locals := 64 }
def wX6_keep : List Cond := [.fieldLink "ZoneCapacity" 33 "ZoneCapacity" "secondKept" "LZoneCapacity$Market;", .fieldLink "ZoneCapacity" 10 "ZoneCapacity" "now" "LZoneCapacity$Auction;", .fieldLink "ZoneCapacity" 57 "ZoneCapacity$Auction" "market" "LZoneCapacity$Market;", .methodLink "ZoneCapacity" 60 yX1_copyFrom, .instanceMethod yX1_copyFrom, .selects "ZoneCapacity$Market" yX1_copyFrom yX1_copyFrom, .fieldLink "ZoneCapacity" 159 "ZoneCapacity" "secondIsKept" "Z", .fieldLink "ZoneCapacity" 29 "ZoneCapacity" "firstKept" "LZoneCapacity$Market;", .fieldLink "ZoneCapacity" 155 "ZoneCapacity" "firstIsKept" "Z"]
theorem iX6_keep : ∀ w ∈ wX6_keep, w ∈ TW := tw_of (ids := [321, 317, 222, 361, 362, 363, 323, 320, 322]) (by decide +kernel)
def f6_keep_j59 (mm : Mem) : Option (Int32 × Mem) := some ((1 : Int32), mm)
theorem f6_keep_j59_ok {E : Ev} {l : Launch} {C : Cfg} {x : (Int32 × Mem)} (hj : Dj C) (X : Ec E l C rmX6_keep) (B : Bx E RX6 tbX6_keep 2 (some .boolean)) (hQ : Rt E) (hr : Rs E (some (.int x.1)) x.2) (mm : Mem) (hf : f6_keep_j59 mm = some x) : G E 2 59 [] [] mm := by
  unfold f6_keep_j59 at hf
  refine z_iconst 1 B 29 rfl (by decide) ?_
  refine z_goto B 30 rfl 64 (by decide) ?_
  cases hf
  exact z_iret B 32 rfl (by decide) hQ hr
def f6_keep_j50 (x1 : Int32) (mm : Mem) : Option (Int32 × Mem) := if x1 = 0 then f6_keep_j59 mm else if x1 = (1 : Int32) then f6_keep_j59 mm else some ((0 : Int32), mm)
theorem f6_keep_j50_ok {E : Ev} {l : Launch} {C : Cfg} {x : (Int32 × Mem)} (hj : Dj C) (X : Ec E l C rmX6_keep) (B : Bx E RX6 tbX6_keep 2 (some .boolean)) (hQ : Rt E) (hr : Rs E (some (.int x.1)) x.2) (x1 : Int32) (mm : Mem) (hf : f6_keep_j50 x1 mm = some x) : G E 2 50 [(1, .int x1)] [] mm := by
  unfold f6_keep_j50 at hf
  refine z_iload_n B 24 rfl 1 0 rfl rfl ?_
  by_cases hc : x1 = 0
  · replace hf := (if_pos hc).symm.trans hf
    refine z_if_eq_t B 25 rfl 59 (by decide) hc ?_
    refine z_sub [] [] rfl ?_
    exact f6_keep_j59_ok hj X B hQ hr _ hf
  · replace hf := (if_neg hc).symm.trans hf
    refine z_if_eq_f B 25 rfl 59 (by decide) hc ?_
    refine z_iload_n B 26 rfl 1 0 rfl rfl ?_
    refine z_iconst 1 B 27 rfl (by decide) ?_
    by_cases hc : x1 = (1 : Int32)
    · replace hf := (if_pos hc).symm.trans hf
      refine z_icmp_ne_f B 28 rfl 63 (by decide) hc ?_
      refine z_sub [] [] rfl ?_
      exact f6_keep_j59_ok hj X B hQ hr _ hf
    · replace hf := (if_neg hc).symm.trans hf
      refine z_icmp_ne_t B 28 rfl 63 (by decide) hc ?_
      refine z_iconst 0 B 31 rfl (by decide) ?_
      cases hf
      exact z_iret B 32 rfl (by decide) hQ hr
def f6_keep (mm : Mem) (a1 : Int32) : Option (Int32 × Mem) := if a1 = 0 then bd (f1_copyFrom mm 95 16) (fun r3 => nm (up2 r3 14 5 (1 : Int32)) (fun m4 => f6_keep_j50 a1 m4)) else if a1 = (1 : Int32) then bd (f1_copyFrom mm 114 16) (fun r1 => nm (up2 r1 14 6 (1 : Int32)) (fun m2 => f6_keep_j50 a1 m2)) else f6_keep_j50 a1 mm
theorem ctX6_keep {l : Launch} {C : Cfg} (hj : Dj C) {mm : Mem} {a1 : Int32} {x : (Int32 × Mem)} (hf : f6_keep mm a1 = some x) : Ct l C yX6_keep cX6_keep 2 (some .boolean) 3 64 [.ref 14, .int a1] mm (some (.int x.1)) x.2 := by
  refine Ct.of (tb := tbX6_keep) hj miX6_keep.2.1 miX6_keep.1 dtX6_keep (Nat.le_of_ble_eq_true rfl) ?_
  intro E B hQ hr X
  unfold f6_keep at hf
  show G E 2 0 [(0, .ref 14), (1, .int a1)] [] mm
  refine z_iload_n B 0 rfl 1 1 rfl rfl ?_
  by_cases hc : a1 = 0
  · replace hf := (if_pos hc).symm.trans hf
    refine z_if_ne_f B 1 rfl 26 (by decide) hc ?_
    refine z_aload_n B 2 rfl 0 0 rfl rfl ?_
    refine z_getr 6 3 14 B 3 rfl ob_14 rfl (iX6_keep _ (List.mem_of_getElem? (i := 7) rfl)) rfl ?_
    refine z_aload_n B 4 rfl 0 0 rfl rfl ?_
    refine z_getr 6 0 14 B 5 rfl ob_14 rfl (iX6_keep _ (List.mem_of_getElem? (i := 1) rfl)) rfl ?_
    refine z_getr 0 0 15 B 6 rfl ob_15 rfl (iX6_keep _ (List.mem_of_getElem? (i := 2) rfl)) rfl ?_
    obtain ⟨r3, ec, hf⟩ := bd_e hf
    refine z_callV 95 1 [.ref 16] [] [] X B 7 rfl ob_95 rfl rfl miX1_copyFrom ⟨(iX6_keep _ (List.mem_of_getElem? (i := 3) rfl)), (iX6_keep _ (List.mem_of_getElem? (i := 4) rfl)), (iX6_keep _ (List.mem_of_getElem? (i := 5) rfl))⟩ (ctX1_copyFrom hj ob_95 ob_16 ec) ⟨Nat.le_of_ble_eq_true rfl, Nat.le_of_ble_eq_true rfl⟩ rfl rfl (Nat.le_of_ble_eq_true rfl) rfl ?_
    refine z_aload_n B 8 rfl 0 0 rfl rfl ?_
    refine z_iconst 1 B 9 rfl (by decide) ?_
    refine z_puti 6 5 14 B 10 rfl ob_14 rfl (iX6_keep _ (List.mem_of_getElem? (i := 8) rfl)) rfl (ty := .boolean) (by decide) rfl (by decide) (by decide) ?_
    obtain ⟨m4, ex, hf⟩ := nm_x hf
    refine z_mem ex ?_
    refine z_goto B 11 rfl 50 (by decide) ?_
    refine z_sub [(1, .int a1)] [1] rfl ?_
    exact f6_keep_j50_ok hj X B hQ hr _ _ hf
  · replace hf := (if_neg hc).symm.trans hf
    refine z_if_ne_t B 1 rfl 26 (by decide) hc ?_
    refine z_iload_n B 12 rfl 1 1 rfl rfl ?_
    refine z_iconst 1 B 13 rfl (by decide) ?_
    by_cases hc : a1 = (1 : Int32)
    · replace hf := (if_pos hc).symm.trans hf
      refine z_icmp_ne_f B 14 rfl 50 (by decide) hc ?_
      refine z_aload_n B 15 rfl 0 0 rfl rfl ?_
      refine z_getr 6 4 14 B 16 rfl ob_14 rfl (iX6_keep _ (List.mem_of_getElem? (i := 0) rfl)) rfl ?_
      refine z_aload_n B 17 rfl 0 0 rfl rfl ?_
      refine z_getr 6 0 14 B 18 rfl ob_14 rfl (iX6_keep _ (List.mem_of_getElem? (i := 1) rfl)) rfl ?_
      refine z_getr 0 0 15 B 19 rfl ob_15 rfl (iX6_keep _ (List.mem_of_getElem? (i := 2) rfl)) rfl ?_
      obtain ⟨r1, ec, hf⟩ := bd_e hf
      refine z_callV 114 1 [.ref 16] [] [] X B 20 rfl ob_114 rfl rfl miX1_copyFrom ⟨(iX6_keep _ (List.mem_of_getElem? (i := 3) rfl)), (iX6_keep _ (List.mem_of_getElem? (i := 4) rfl)), (iX6_keep _ (List.mem_of_getElem? (i := 5) rfl))⟩ (ctX1_copyFrom hj ob_114 ob_16 ec) ⟨Nat.le_of_ble_eq_true rfl, Nat.le_of_ble_eq_true rfl⟩ rfl rfl (Nat.le_of_ble_eq_true rfl) rfl ?_
      refine z_aload_n B 21 rfl 0 0 rfl rfl ?_
      refine z_iconst 1 B 22 rfl (by decide) ?_
      refine z_puti 6 6 14 B 23 rfl ob_14 rfl (iX6_keep _ (List.mem_of_getElem? (i := 6) rfl)) rfl (ty := .boolean) (by decide) rfl (by decide) (by decide) ?_
      obtain ⟨m2, ex, hf⟩ := nm_x hf
      refine z_mem ex ?_
      refine z_sub [(1, .int a1)] [1] rfl ?_
      exact f6_keep_j50_ok hj X B hQ hr _ _ hf
    · replace hf := (if_neg hc).symm.trans hf
      refine z_icmp_ne_t B 14 rfl 50 (by decide) hc ?_
      refine z_sub [(1, .int a1)] [1] rfl ?_
      exact f6_keep_j50_ok hj X B hQ hr _ _ hf
