/-! ZoneCapacityModel.step(III)I -/
def tbX7_step : Tb := [(0, .aload_n 0, 1, 1), (1, .iconst 0, 1, 2), (2, .putfield 50, 3, 5), (5, .aload_n 0, 1, 6), (6, .iload_n 1, 1, 7), (7, .invokevirtual 135, 3, 10), (10, .ifCond .eq 41, 3, 13), (13, .aload_n 0, 1, 14), (14, .iload_n 1, 1, 15), (15, .bipush 6, 2, 17), (17, .invokevirtual 75, 3, 20), (20, .iconst 3, 1, 21), (21, .if_icmp .eq 30, 3, 24), (24, .iload_n 2, 1, 25), (25, .iconst 1, 1, 26), (26, .sipush 500, 3, 29), (29, .invokestatic 54, 3, 32), (32, .ifCond .eq 19, 3, 35), (35, .aload_n 0, 1, 36), (36, .iload_n 1, 1, 37), (37, .invokevirtual 138, 3, 40), (40, .iload_n 2, 1, 41), (41, .iadd, 1, 42), (42, .aload_n 0, 1, 43), (43, .iload_n 1, 1, 44), (44, .iconst 1, 1, 45), (45, .invokevirtual 75, 3, 48), (48, .if_icmp .le 5, 3, 51), (51, .iconst (-1), 1, 52), (52, .ireturn, 1, 53), (53, .aload_n 0, 1, 54), (54, .iload_n 1, 1, 55), (55, .bipush 6, 2, 57), (57, .invokevirtual 75, 3, 60), (60, .istore 4, 2, 62), (62, .iload_n 3, 1, 63), (63, .iload 4, 2, 65), (65, .ifCond .ne 7, 3, 68), (68, .iconst 0, 1, 69), (69, .goto 23, 3, 72), (72, .aload_n 0, 1, 73), (73, .getfield 7, 3, 76), (76, .bipush 79, 2, 78), (78, .bipush 13, 2, 80), (80, .iload_n 1, 1, 81), (81, .imul, 1, 82), (82, .iadd, 1, 83), (83, .bipush 6, 2, 85), (85, .iadd, 1, 86), (86, .iconst 2, 1, 87), (87, .iload 4, 2, 89), (89, .imul, 1, 90), (90, .iadd, 1, 91), (91, .iaload, 1, 92), (92, .sipush 9999, 3, 95), (95, .invokestatic 54, 3, 98), (98, .ifCond .ne 5, 3, 101), (101, .iconst (-1), 1, 102), (102, .ireturn, 1, 103), (103, .aload_n 0, 1, 104), (104, .iload_n 1, 1, 105), (105, .iload_n 2, 1, 106), (106, .iload_n 3, 1, 107), (107, .invokevirtual 141, 3, 110), (110, .iload 4, 2, 112), (112, .iconst 1, 1, 113), (113, .iadd, 1, 114), (114, .ireturn, 1, 115)]
theorem dtX7_step : ∀ q ∈ tbX7_step, decode cX7_step q.1 = .ok (q.2.1, q.2.2.1) ∧ q.1 + q.2.2.1 = q.2.2.2 := by decide +kernel
theorem miX7_step : MI yX7_step cX7_step 5 (some .int) 3 := ⟨tw_mem (List.mem_of_getElem? (i := 1062) (by decide +kernel)) rfl, by decide, by decide +kernel, tw_mem (List.mem_of_getElem? (i := 78) (by decide +kernel)) rfl⟩
abbrev rmX7_step : Room := { frames := 3, cells := 0, slots := 0, locals := 70 }
def wX7_step : List Cond := [.fieldLink "ZoneCapacityModel" 50 "ZoneCapacityModel" "raised" "I", .methodLink "ZoneCapacityModel" 135 yX7_isResource, .instanceMethod yX7_isResource, .selects "ZoneCapacityModel" yX7_isResource yX7_isResource, .methodLink "ZoneCapacityModel" 75 yX7_ofResource, .instanceMethod yX7_ofResource, .selects "ZoneCapacityModel" yX7_ofResource yX7_ofResource, .methodLink "ZoneCapacityModel" 54 yX7_in, .static yX7_in, .methodLink "ZoneCapacityModel" 138 yX7_stepped, .instanceMethod yX7_stepped, .selects "ZoneCapacityModel" yX7_stepped yX7_stepped, .fieldLink "ZoneCapacityModel" 7 "ZoneCapacityModel" "w" "[I", .methodLink "ZoneCapacityModel" 141 yX7_addStep, .instanceMethod yX7_addStep, .selects "ZoneCapacityModel" yX7_addStep yX7_addStep]
theorem iX7_step : ∀ w ∈ wX7_step, w ∈ TW := tw_of (ids := [938, 1063, 1065, 32, 1067, 1069, 33, 1021, 1022, 1071, 1073, 34, 939, 1079, 1081, 36]) (by decide +kernel)
def f7_step_j92 (x1 : Int32) (x2 : Int32) (x3 : Int32) (x4 : Int32) (s0 : Int32) (s1 : Int32) (mm : Mem) : Option (Int32 × Mem) := bd (f7_in mm s1 s0 (9999 : Int32)) (fun r9 => if r9 = 0 then some ((-1 : Int32), mm) else bd (f7_addStep mm x1 x2 x3) (fun r10 => some (x4 + (1 : Int32), r10)))
theorem f7_step_j92_ok {E : Ev} {l : Launch} {C : Cfg} {x : (Int32 × Mem)} (hj : Dj C) (X : Ec E l C rmX7_step) (B : Bx E RX7 tbX7_step 5 (some .int)) (hQ : Rt E) (hr : Rs E (some (.int x.1)) x.2) (x1 : Int32) (x2 : Int32) (x3 : Int32) (x4 : Int32) (s0 : Int32) (s1 : Int32) (mm : Mem) (hf : f7_step_j92 x1 x2 x3 x4 s0 s1 mm = some x) : G E 5 92 [(0, .ref 0), (1, .int x1), (2, .int x2), (3, .int x3), (4, .int x4)] [.int s0, .int s1] mm := by
  unfold f7_step_j92 at hf
  refine z_sipush 9999 B 54 rfl (by decide) ?_
  obtain ⟨r9, ec, hf⟩ := bd_e hf
  refine z_callS [.int s1, .int s0, .int (9999 : Int32)] [] [.int r9] X B 55 rfl miX7_in ⟨(iX7_step _ (List.mem_of_getElem? (i := 7) rfl)), (iX7_step _ (List.mem_of_getElem? (i := 8) rfl))⟩ (ctX7_in hj ec) ⟨Nat.le_of_ble_eq_true rfl, Nat.le_of_ble_eq_true rfl⟩ rfl rfl (Nat.le_of_ble_eq_true rfl) rfl ?_
  by_cases hc : r9 = 0
  · replace hf := (if_pos hc).symm.trans hf
    refine z_if_ne_f B 56 rfl 103 (by decide) hc ?_
    refine z_iconst (-1) B 57 rfl (by decide) ?_
    cases hf
    exact z_iret B 58 rfl rfl hQ hr
  · replace hf := (if_neg hc).symm.trans hf
    refine z_if_ne_t B 56 rfl 103 (by decide) hc ?_
    refine z_aload_n B 59 rfl 0 0 rfl rfl ?_
    refine z_iload_n B 60 rfl 1 1 rfl rfl ?_
    refine z_iload_n B 61 rfl 2 2 rfl rfl ?_
    refine z_iload_n B 62 rfl 3 3 rfl rfl ?_
    obtain ⟨r10, ec, hf⟩ := bd_e hf
    refine z_callV 0 7 [.int x1, .int x2, .int x3] [] [] X B 63 rfl ob_0 rfl rfl miX7_addStep ⟨(iX7_step _ (List.mem_of_getElem? (i := 13) rfl)), (iX7_step _ (List.mem_of_getElem? (i := 14) rfl)), (iX7_step _ (List.mem_of_getElem? (i := 15) rfl))⟩ (ctX7_addStep hj ec) ⟨Nat.le_of_ble_eq_true rfl, Nat.le_of_ble_eq_true rfl⟩ rfl rfl (Nat.le_of_ble_eq_true rfl) rfl ?_
    refine z_iload B 64 rfl 4 rfl ?_
    refine z_iconst 1 B 65 rfl (by decide) ?_
    refine z_iadd B 66 rfl ?_
    cases hf
    exact z_iret B 67 rfl rfl hQ hr
def f7_step (mm : Mem) (a1 : Int32) (a2 : Int32) (a3 : Int32) : Option (Int32 × Mem) := nm (up2 mm 0 0 (0 : Int32)) (fun m1 => bd (f7_isResource m1 a1) (fun r2 => if r2 = 0 then some ((-1 : Int32), m1) else bd (f7_ofResource m1 a1 (6 : Int32)) (fun r3 => if r3 = (3 : Int32) then some ((-1 : Int32), m1) else bd (f7_in m1 a2 (1 : Int32) (500 : Int32)) (fun r4 => if r4 = 0 then some ((-1 : Int32), m1) else bd (f7_stepped m1 a1) (fun r5 => bd (f7_ofResource m1 a1 (1 : Int32)) (fun r6 => if r6 < (r5 + a2) then some ((-1 : Int32), m1) else bd (f7_ofResource m1 a1 (6 : Int32)) (fun r7 => if r7 = 0 then f7_step_j92 a1 a2 a3 r7 (0 : Int32) a3 m1 else rdc 1 ((((79 : Int32) + ((13 : Int32) * a1)) + (6 : Int32)) + ((2 : Int32) * r7)) (nm (m1 1 ((((79 : Int32) + ((13 : Int32) * a1)) + (6 : Int32)) + ((2 : Int32) * r7)).toNatClampNeg) (fun v8 => f7_step_j92 a1 a2 a3 r7 v8 a3 m1)))))))))
theorem ctX7_step {l : Launch} {C : Cfg} (hj : Dj C) {mm : Mem} {a1 : Int32} {a2 : Int32} {a3 : Int32} {x : (Int32 × Mem)} (hf : f7_step mm a1 a2 a3 = some x) : Ct l C yX7_step cX7_step 5 (some .int) 3 70 [.ref 0, .int a1, .int a2, .int a3] mm (some (.int x.1)) x.2 := by
  refine Ct.of (tb := tbX7_step) hj miX7_step.2.1 miX7_step.1 dtX7_step (Nat.le_of_ble_eq_true rfl) ?_
  intro E B hQ hr X
  unfold f7_step at hf
  show G E 5 0 [(0, .ref 0), (1, .int a1), (2, .int a2), (3, .int a3)] [] mm
  refine z_aload_n B 0 rfl 0 0 rfl rfl ?_
  refine z_iconst 0 B 1 rfl (by decide) ?_
  refine z_puti 7 0 0 B 2 rfl ob_0 rfl (iX7_step _ (List.mem_of_getElem? (i := 0) rfl)) rfl (ty := .int) (by decide) rfl rfl rfl ?_
  obtain ⟨m1, ex, hf⟩ := nm_x hf
  refine z_mem ex ?_
  refine z_aload_n B 3 rfl 0 0 rfl rfl ?_
  refine z_iload_n B 4 rfl 1 1 rfl rfl ?_
  obtain ⟨r2, ec, hf⟩ := bd_e hf
  refine z_callV 0 7 [.int a1] [] [.int r2] X B 5 rfl ob_0 rfl rfl miX7_isResource ⟨(iX7_step _ (List.mem_of_getElem? (i := 1) rfl)), (iX7_step _ (List.mem_of_getElem? (i := 2) rfl)), (iX7_step _ (List.mem_of_getElem? (i := 3) rfl))⟩ (ctX7_isResource hj ec) ⟨Nat.le_of_ble_eq_true rfl, Nat.le_of_ble_eq_true rfl⟩ rfl rfl (Nat.le_of_ble_eq_true rfl) rfl ?_
  by_cases hc : r2 = 0
  · replace hf := (if_pos hc).symm.trans hf
    refine z_if_eq_t B 6 rfl 51 (by decide) hc ?_
    refine z_iconst (-1) B 28 rfl (by decide) ?_
    cases hf
    exact z_iret B 29 rfl rfl hQ hr
  · replace hf := (if_neg hc).symm.trans hf
    refine z_if_eq_f B 6 rfl 51 (by decide) hc ?_
    refine z_aload_n B 7 rfl 0 0 rfl rfl ?_
    refine z_iload_n B 8 rfl 1 1 rfl rfl ?_
    refine z_bipush 6 B 9 rfl (by decide) ?_
    obtain ⟨r3, ec, hf⟩ := bd_e hf
    refine z_callV 0 7 [.int a1, .int (6 : Int32)] [] [.int r3] X B 10 rfl ob_0 rfl rfl miX7_ofResource ⟨(iX7_step _ (List.mem_of_getElem? (i := 4) rfl)), (iX7_step _ (List.mem_of_getElem? (i := 5) rfl)), (iX7_step _ (List.mem_of_getElem? (i := 6) rfl))⟩ (ctX7_ofResource hj ec) ⟨Nat.le_of_ble_eq_true rfl, Nat.le_of_ble_eq_true rfl⟩ rfl rfl (Nat.le_of_ble_eq_true rfl) rfl ?_
    refine z_iconst 3 B 11 rfl (by decide) ?_
    by_cases hc : r3 = (3 : Int32)
    · replace hf := (if_pos hc).symm.trans hf
      refine z_icmp_eq_t B 12 rfl 51 (by decide) hc ?_
      refine z_iconst (-1) B 28 rfl (by decide) ?_
      cases hf
      exact z_iret B 29 rfl rfl hQ hr
    · replace hf := (if_neg hc).symm.trans hf
      refine z_icmp_eq_f B 12 rfl 51 (by decide) hc ?_
      refine z_iload_n B 13 rfl 2 2 rfl rfl ?_
      refine z_iconst 1 B 14 rfl (by decide) ?_
      refine z_sipush 500 B 15 rfl (by decide) ?_
      obtain ⟨r4, ec, hf⟩ := bd_e hf
      refine z_callS [.int a2, .int (1 : Int32), .int (500 : Int32)] [] [.int r4] X B 16 rfl miX7_in ⟨(iX7_step _ (List.mem_of_getElem? (i := 7) rfl)), (iX7_step _ (List.mem_of_getElem? (i := 8) rfl))⟩ (ctX7_in hj ec) ⟨Nat.le_of_ble_eq_true rfl, Nat.le_of_ble_eq_true rfl⟩ rfl rfl (Nat.le_of_ble_eq_true rfl) rfl ?_
      by_cases hc : r4 = 0
      · replace hf := (if_pos hc).symm.trans hf
        refine z_if_eq_t B 17 rfl 51 (by decide) hc ?_
        refine z_iconst (-1) B 28 rfl (by decide) ?_
        cases hf
        exact z_iret B 29 rfl rfl hQ hr
      · replace hf := (if_neg hc).symm.trans hf
        refine z_if_eq_f B 17 rfl 51 (by decide) hc ?_
        refine z_aload_n B 18 rfl 0 0 rfl rfl ?_
        refine z_iload_n B 19 rfl 1 1 rfl rfl ?_
        obtain ⟨r5, ec, hf⟩ := bd_e hf
        refine z_callV 0 7 [.int a1] [] [.int r5] X B 20 rfl ob_0 rfl rfl miX7_stepped ⟨(iX7_step _ (List.mem_of_getElem? (i := 9) rfl)), (iX7_step _ (List.mem_of_getElem? (i := 10) rfl)), (iX7_step _ (List.mem_of_getElem? (i := 11) rfl))⟩ (ctX7_stepped hj ec) ⟨Nat.le_of_ble_eq_true rfl, Nat.le_of_ble_eq_true rfl⟩ rfl rfl (Nat.le_of_ble_eq_true rfl) rfl ?_
        refine z_iload_n B 21 rfl 2 2 rfl rfl ?_
        refine z_iadd B 22 rfl ?_
        refine z_aload_n B 23 rfl 0 0 rfl rfl ?_
        refine z_iload_n B 24 rfl 1 1 rfl rfl ?_
        refine z_iconst 1 B 25 rfl (by decide) ?_
        obtain ⟨r6, ec, hf⟩ := bd_e hf
        refine z_callV 0 7 [.int a1, .int (1 : Int32)] [.int (r5 + a2)] [.int r6, .int (r5 + a2)] X B 26 rfl ob_0 rfl rfl miX7_ofResource ⟨(iX7_step _ (List.mem_of_getElem? (i := 4) rfl)), (iX7_step _ (List.mem_of_getElem? (i := 5) rfl)), (iX7_step _ (List.mem_of_getElem? (i := 6) rfl))⟩ (ctX7_ofResource hj ec) ⟨Nat.le_of_ble_eq_true rfl, Nat.le_of_ble_eq_true rfl⟩ rfl rfl (Nat.le_of_ble_eq_true rfl) rfl ?_
        by_cases hc : r6 < (r5 + a2)
        · replace hf := (if_pos hc).symm.trans hf
          refine z_icmp_le_f B 27 rfl 53 (by decide) hc ?_
          refine z_iconst (-1) B 28 rfl (by decide) ?_
          cases hf
          exact z_iret B 29 rfl rfl hQ hr
        · replace hf := (if_neg hc).symm.trans hf
          refine z_icmp_le_t B 27 rfl 53 (by decide) hc ?_
          refine z_aload_n B 30 rfl 0 0 rfl rfl ?_
          refine z_iload_n B 31 rfl 1 1 rfl rfl ?_
          refine z_bipush 6 B 32 rfl (by decide) ?_
          obtain ⟨r7, ec, hf⟩ := bd_e hf
          refine z_callV 0 7 [.int a1, .int (6 : Int32)] [] [.int r7] X B 33 rfl ob_0 rfl rfl miX7_ofResource ⟨(iX7_step _ (List.mem_of_getElem? (i := 4) rfl)), (iX7_step _ (List.mem_of_getElem? (i := 5) rfl)), (iX7_step _ (List.mem_of_getElem? (i := 6) rfl))⟩ (ctX7_ofResource hj ec) ⟨Nat.le_of_ble_eq_true rfl, Nat.le_of_ble_eq_true rfl⟩ rfl rfl (Nat.le_of_ble_eq_true rfl) rfl ?_
          refine z_istore [(4, .int r7), (0, .ref 0), (1, .int a1), (2, .int a2), (3, .int a3)] B 34 rfl (by decide) rfl ?_
          refine z_iload_n B 35 rfl 3 4 rfl rfl ?_
          refine z_iload B 36 rfl 0 rfl ?_
          by_cases hc : r7 = 0
          · replace hf := (if_pos hc).symm.trans hf
            refine z_if_ne_f B 37 rfl 72 (by decide) hc ?_
            refine z_iconst 0 B 38 rfl (by decide) ?_
            refine z_goto B 39 rfl 92 (by decide) ?_
            refine z_sub [(0, .ref 0), (1, .int a1), (2, .int a2), (3, .int a3), (4, .int r7)] [1, 2, 3, 4, 0] rfl ?_
            exact f7_step_j92_ok hj X B hQ hr _ _ _ _ _ _ _ hf
          · replace hf := (if_neg hc).symm.trans hf
            refine z_if_ne_t B 37 rfl 72 (by decide) hc ?_
            refine z_aload_n B 40 rfl 0 1 rfl rfl ?_
            refine z_getr 7 1 0 B 41 rfl ob_0 rfl (iX7_step _ (List.mem_of_getElem? (i := 12) rfl)) rfl ?_
            refine z_bipush 79 B 42 rfl (by decide) ?_
            refine z_bipush 13 B 43 rfl (by decide) ?_
            refine z_iload_n B 44 rfl 1 2 rfl rfl ?_
            refine z_imul B 45 rfl ?_
            refine z_iadd B 46 rfl ?_
            refine z_bipush 6 B 47 rfl (by decide) ?_
            refine z_iadd B 48 rfl ?_
            refine z_iconst 2 B 49 rfl (by decide) ?_
            refine z_iload B 50 rfl 0 rfl ?_
            refine z_imul B 51 rfl ?_
            refine z_iadd B 52 rfl ?_
            obtain ⟨hx, hf⟩ := rdc_e hf
            refine z_iald B 53 rfl ob_1 hx ?_
            obtain ⟨v8, ex, hf⟩ := nm_x hf
            refine z_top ex ?_
            refine z_sub [(0, .ref 0), (1, .int a1), (2, .int a2), (3, .int a3), (4, .int r7)] [1, 2, 3, 4, 0] rfl ?_
            exact f7_step_j92_ok hj X B hQ hr _ _ _ _ _ _ _ hf
/-! ZoneCapacityModel.drop(IZ)I -/
def tbX7_drop : Tb := [(0, .aload_n 0, 1, 1), (1, .iconst 0, 1, 2), (2, .putfield 50, 3, 5), (5, .iload_n 2, 1, 6), (6, .ifCond .eq 14, 3, 9), (9, .aload_n 0, 1, 10), (10, .iload_n 1, 1, 11), (11, .invokevirtual 135, 3, 14), (14, .ifCond .ne 16, 3, 17), (17, .goto 11, 3, 20), (20, .aload_n 0, 1, 21), (21, .iload_n 1, 1, 22), (22, .invokevirtual 117, 3, 25), (25, .ifCond .ne 5, 3, 28), (28, .iconst (-1), 1, 29), (29, .ireturn, 1, 30), (30, .iload_n 2, 1, 31), (31, .ifCond .eq 16, 3, 34), (34, .bipush 79, 2, 36), (36, .bipush 13, 2, 38), (38, .iload_n 1, 1, 39), (39, .imul, 1, 40), (40, .iadd, 1, 41), (41, .bipush 6, 2, 43), (43, .iadd, 1, 44), (44, .goto 12, 3, 47), (47, .bipush 7, 2, 49), (49, .bipush 12, 2, 51), (51, .iload_n 1, 1, 52), (52, .imul, 1, 53), (53, .iadd, 1, 54), (54, .iconst 3, 1, 55), (55, .iadd, 1, 56), (56, .istore_n 3, 1, 57), (57, .aload_n 0, 1, 58), (58, .getfield 7, 3, 61), (61, .iload_n 3, 1, 62), (62, .iaload, 1, 63), (63, .istore 4, 2, 65), (65, .aload_n 0, 1, 66), (66, .getfield 7, 3, 69), (69, .iload_n 3, 1, 70), (70, .iconst 0, 1, 71), (71, .iastore, 1, 72), (72, .iload 4, 2, 74), (74, .ireturn, 1, 75)]
theorem dtX7_drop : ∀ q ∈ tbX7_drop, decode cX7_drop q.1 = .ok (q.2.1, q.2.2.1) ∧ q.1 + q.2.2.1 = q.2.2.2 := by decide +kernel
theorem miX7_drop : MI yX7_drop cX7_drop 5 (some .int) 2 := ⟨tw_mem (List.mem_of_getElem? (i := 1086) (by decide +kernel)) rfl, by decide, by decide +kernel, tw_mem (List.mem_of_getElem? (i := 78) (by decide +kernel)) rfl⟩
abbrev rmX7_drop : Room := { frames := 2, cells := 0, slots := 0, locals := 43 }
def wX7_drop : List Cond := [.fieldLink "ZoneCapacityModel" 50 "ZoneCapacityModel" "raised" "I", .methodLink "ZoneCapacityModel" 117 yX7_isZone, .instanceMethod yX7_isZone, .selects "ZoneCapacityModel" yX7_isZone yX7_isZone, .fieldLink "ZoneCapacityModel" 7 "ZoneCapacityModel" "w" "[I", .methodLink "ZoneCapacityModel" 135 yX7_isResource, .instanceMethod yX7_isResource, .selects "ZoneCapacityModel" yX7_isResource yX7_isResource]
theorem iX7_drop : ∀ w ∈ wX7_drop, w ∈ TW := tw_of (ids := [938, 1017, 1019, 25, 939, 1063, 1065, 32]) (by decide +kernel)
def f7_drop_j56 (s0 : Int32) (mm : Mem) : Option (Int32 × Mem) := rdc 1 s0 (nm (mm 1 s0.toNatClampNeg) (fun v3 => rdc 1 s0 (nm (up2 mm 1 s0.toNatClampNeg (0 : Int32)) (fun m4 => some (v3, m4)))))
theorem f7_drop_j56_ok {E : Ev} {l : Launch} {C : Cfg} {x : (Int32 × Mem)} (hj : Dj C) (X : Ec E l C rmX7_drop) (B : Bx E RX7 tbX7_drop 5 (some .int)) (hQ : Rt E) (hr : Rs E (some (.int x.1)) x.2) (s0 : Int32) (mm : Mem) (hf : f7_drop_j56 s0 mm = some x) : G E 5 56 [(0, .ref 0)] [.int s0] mm := by
  unfold f7_drop_j56 at hf
  refine z_istore_n [(3, .int s0), (0, .ref 0)] B 33 rfl 3 rfl (by decide) rfl ?_
  refine z_aload_n B 34 rfl 0 1 rfl rfl ?_
  refine z_getr 7 1 0 B 35 rfl ob_0 rfl (iX7_drop _ (List.mem_of_getElem? (i := 4) rfl)) rfl ?_
  refine z_iload_n B 36 rfl 3 0 rfl rfl ?_
  obtain ⟨hx, hf⟩ := rdc_e hf
  refine z_iald B 37 rfl ob_1 hx ?_
  obtain ⟨v3, ex, hf⟩ := nm_x hf
  refine z_top ex ?_
  refine z_istore [(4, .int v3), (3, .int s0), (0, .ref 0)] B 38 rfl (by decide) rfl ?_
  refine z_aload_n B 39 rfl 0 2 rfl rfl ?_
  refine z_getr 7 1 0 B 40 rfl ob_0 rfl (iX7_drop _ (List.mem_of_getElem? (i := 4) rfl)) rfl ?_
  refine z_iload_n B 41 rfl 3 1 rfl rfl ?_
  refine z_iconst 0 B 42 rfl (by decide) ?_
  obtain ⟨hx, hf⟩ := rdc_e hf
  refine z_iast B 43 rfl ob_1 hx ?_
  obtain ⟨m4, ex, hf⟩ := nm_x hf
  refine z_mem ex ?_
  refine z_iload B 44 rfl 0 rfl ?_
  cases hf
  exact z_iret B 45 rfl rfl hQ hr
def f7_drop_j30 (x1 : Int32) (x2 : Int32) (mm : Mem) : Option (Int32 × Mem) := if x2 = 0 then f7_drop_j56 (((7 : Int32) + ((12 : Int32) * x1)) + (3 : Int32)) mm else f7_drop_j56 (((79 : Int32) + ((13 : Int32) * x1)) + (6 : Int32)) mm
theorem f7_drop_j30_ok {E : Ev} {l : Launch} {C : Cfg} {x : (Int32 × Mem)} (hj : Dj C) (X : Ec E l C rmX7_drop) (B : Bx E RX7 tbX7_drop 5 (some .int)) (hQ : Rt E) (hr : Rs E (some (.int x.1)) x.2) (x1 : Int32) (x2 : Int32) (mm : Mem) (hf : f7_drop_j30 x1 x2 mm = some x) : G E 5 30 [(0, .ref 0), (1, .int x1), (2, .int x2)] [] mm := by
  unfold f7_drop_j30 at hf
  refine z_iload_n B 16 rfl 2 2 rfl rfl ?_
  by_cases hc : x2 = 0
  · replace hf := (if_pos hc).symm.trans hf
    refine z_if_eq_t B 17 rfl 47 (by decide) hc ?_
    refine z_bipush 7 B 26 rfl (by decide) ?_
    refine z_bipush 12 B 27 rfl (by decide) ?_
    refine z_iload_n B 28 rfl 1 1 rfl rfl ?_
    refine z_imul B 29 rfl ?_
    refine z_iadd B 30 rfl ?_
    refine z_iconst 3 B 31 rfl (by decide) ?_
    refine z_iadd B 32 rfl ?_
    refine z_sub [(0, .ref 0)] [0] rfl ?_
    exact f7_drop_j56_ok hj X B hQ hr _ _ hf
  · replace hf := (if_neg hc).symm.trans hf
    refine z_if_eq_f B 17 rfl 47 (by decide) hc ?_
    refine z_bipush 79 B 18 rfl (by decide) ?_
    refine z_bipush 13 B 19 rfl (by decide) ?_
    refine z_iload_n B 20 rfl 1 1 rfl rfl ?_
    refine z_imul B 21 rfl ?_
    refine z_iadd B 22 rfl ?_
    refine z_bipush 6 B 23 rfl (by decide) ?_
    refine z_iadd B 24 rfl ?_
    refine z_goto B 25 rfl 56 (by decide) ?_
    refine z_sub [(0, .ref 0)] [0] rfl ?_
    exact f7_drop_j56_ok hj X B hQ hr _ _ hf
def f7_drop (mm : Mem) (a1 : Int32) (a2 : Int32) : Option (Int32 × Mem) := nm (up2 mm 0 0 (0 : Int32)) (fun m1 => if a2 = 0 then bd (f7_isZone m1 a1) (fun r2 => if r2 = 0 then some ((-1 : Int32), m1) else f7_drop_j30 a1 a2 m1) else bd (f7_isResource m1 a1) (fun r5 => if r5 = 0 then some ((-1 : Int32), m1) else f7_drop_j30 a1 a2 m1))
theorem ctX7_drop {l : Launch} {C : Cfg} (hj : Dj C) {mm : Mem} {a1 : Int32} {a2 : Int32} {x : (Int32 × Mem)} (hf : f7_drop mm a1 a2 = some x) : Ct l C yX7_drop cX7_drop 5 (some .int) 2 43 [.ref 0, .int a1, .int a2] mm (some (.int x.1)) x.2 := by
  refine Ct.of (tb := tbX7_drop) hj miX7_drop.2.1 miX7_drop.1 dtX7_drop (Nat.le_of_ble_eq_true rfl) ?_
  intro E B hQ hr X
  unfold f7_drop at hf
  show G E 5 0 [(0, .ref 0), (1, .int a1), (2, .int a2)] [] mm
  refine z_aload_n B 0 rfl 0 0 rfl rfl ?_
  refine z_iconst 0 B 1 rfl (by decide) ?_
  refine z_puti 7 0 0 B 2 rfl ob_0 rfl (iX7_drop _ (List.mem_of_getElem? (i := 0) rfl)) rfl (ty := .int) (by decide) rfl rfl rfl ?_
  obtain ⟨m1, ex, hf⟩ := nm_x hf
  refine z_mem ex ?_
  refine z_iload_n B 3 rfl 2 2 rfl rfl ?_
  by_cases hc : a2 = 0
  · replace hf := (if_pos hc).symm.trans hf
    refine z_if_eq_t B 4 rfl 20 (by decide) hc ?_
    refine z_aload_n B 10 rfl 0 0 rfl rfl ?_
    refine z_iload_n B 11 rfl 1 1 rfl rfl ?_
    obtain ⟨r2, ec, hf⟩ := bd_e hf
    refine z_callV 0 7 [.int a1] [] [.int r2] X B 12 rfl ob_0 rfl rfl miX7_isZone ⟨(iX7_drop _ (List.mem_of_getElem? (i := 1) rfl)), (iX7_drop _ (List.mem_of_getElem? (i := 2) rfl)), (iX7_drop _ (List.mem_of_getElem? (i := 3) rfl))⟩ (ctX7_isZone hj ec) ⟨Nat.le_of_ble_eq_true rfl, Nat.le_of_ble_eq_true rfl⟩ rfl rfl (Nat.le_of_ble_eq_true rfl) rfl ?_
    by_cases hc : r2 = 0
    · replace hf := (if_pos hc).symm.trans hf
      refine z_if_ne_f B 13 rfl 30 (by decide) hc ?_
      refine z_iconst (-1) B 14 rfl (by decide) ?_
      cases hf
      exact z_iret B 15 rfl rfl hQ hr
    · replace hf := (if_neg hc).symm.trans hf
      refine z_if_ne_t B 13 rfl 30 (by decide) hc ?_
      exact f7_drop_j30_ok hj X B hQ hr _ _ _ hf
  · replace hf := (if_neg hc).symm.trans hf
    refine z_if_eq_f B 4 rfl 20 (by decide) hc ?_
    refine z_aload_n B 5 rfl 0 0 rfl rfl ?_
    refine z_iload_n B 6 rfl 1 1 rfl rfl ?_
    obtain ⟨r5, ec, hf⟩ := bd_e hf
    refine z_callV 0 7 [.int a1] [] [.int r5] X B 7 rfl ob_0 rfl rfl miX7_isResource ⟨(iX7_drop _ (List.mem_of_getElem? (i := 5) rfl)), (iX7_drop _ (List.mem_of_getElem? (i := 6) rfl)), (iX7_drop _ (List.mem_of_getElem? (i := 7) rfl))⟩ (ctX7_isResource hj ec) ⟨Nat.le_of_ble_eq_true rfl, Nat.le_of_ble_eq_true rfl⟩ rfl rfl (Nat.le_of_ble_eq_true rfl) rfl ?_
    by_cases hc : r5 = 0
    · replace hf := (if_pos hc).symm.trans hf
      refine z_if_ne_f B 8 rfl 30 (by decide) hc ?_
      refine z_goto B 9 rfl 28 (by decide) ?_
      refine z_iconst (-1) B 14 rfl (by decide) ?_
      cases hf
      exact z_iret B 15 rfl rfl hQ hr
    · replace hf := (if_neg hc).symm.trans hf
      refine z_if_ne_t B 8 rfl 30 (by decide) hc ?_
      exact f7_drop_j30_ok hj X B hQ hr _ _ _ hf
/-! ZoneCapacityModel.placeOf(III)I -/
def tbX7_placeOf : Tb := [(0, .iload_n 1, 1, 1), (1, .tableswitch 138 0 4 #[35, 59, 72, 72, 107], 35, 36), (36, .iload_n 2, 1, 37), (37, .iconst 0, 1, 38), (38, .iconst 3, 1, 39), (39, .invokestatic 54, 3, 42), (42, .ifCond .eq 16, 3, 45), (45, .iload_n 3, 1, 46), (46, .invokestatic 121, 3, 49), (49, .ifCond .eq 9, 3, 52), (52, .iconst 3, 1, 53), (53, .iload_n 2, 1, 54), (54, .iadd, 1, 55), (55, .goto 4, 3, 58), (58, .iconst (-1), 1, 59), (59, .ireturn, 1, 60), (60, .iload_n 3, 1, 61), (61, .invokestatic 121, 3, 64), (64, .ifCond .eq 7, 3, 67), (67, .iconst 2, 1, 68), (68, .goto 4, 3, 71), (71, .iconst (-1), 1, 72), (72, .ireturn, 1, 73), (73, .iload_n 2, 1, 74), (74, .ifCond .le 32, 3, 77), (77, .aload_n 0, 1, 78), (78, .iload_n 2, 1, 79), (79, .invokevirtual 117, 3, 82), (82, .ifCond .eq 24, 3, 85), (85, .iload_n 3, 1, 86), (86, .invokestatic 121, 3, 89), (89, .ifCond .eq 17, 3, 92), (92, .bipush 7, 2, 94), (94, .bipush 12, 2, 96), (96, .iload_n 2, 1, 97), (97, .imul, 1, 98), (98, .iadd, 1, 99), (99, .iload_n 1, 1, 100), (100, .iadd, 1, 101), (101, .iconst 1, 1, 102), (102, .isub, 1, 103), (103, .goto 4, 3, 106), (106, .iconst (-1), 1, 107), (107, .ireturn, 1, 108), (108, .aload_n 0, 1, 109), (109, .iload_n 2, 1, 110), (110, .invokevirtual 135, 3, 113), (113, .ifCond .eq 24, 3, 116), (116, .iload_n 3, 1, 117), (117, .iconst 0, 1, 118), (118, .iconst 1, 1, 119), (119, .invokestatic 54, 3, 122), (122, .ifCond .eq 15, 3, 125), (125, .bipush 79, 2, 127), (127, .bipush 13, 2, 129), (129, .iload_n 2, 1, 130), (130, .imul, 1, 131), (131, .iadd, 1, 132), (132, .iconst 5, 1, 133), (133, .iadd, 1, 134), (134, .goto 4, 3, 137), (137, .iconst (-1), 1, 138), (138, .ireturn, 1, 139), (139, .iconst (-1), 1, 140), (140, .ireturn, 1, 141)]
theorem dtX7_placeOf : ∀ q ∈ tbX7_placeOf, decode cX7_placeOf q.1 = .ok (q.2.1, q.2.2.1) ∧ q.1 + q.2.2.1 = q.2.2.2 := by decide +kernel
theorem miX7_placeOf : MI yX7_placeOf cX7_placeOf 4 (some .int) 3 := ⟨tw_mem (List.mem_of_getElem? (i := 1094) (by decide +kernel)) rfl, by decide, by decide +kernel, tw_mem (List.mem_of_getElem? (i := 78) (by decide +kernel)) rfl⟩
abbrev rmX7_placeOf : Room := { frames := 2, cells := 0, slots := 0, locals := 43 }
def wX7_placeOf : List Cond := [.methodLink "ZoneCapacityModel" 54 yX7_in, .static yX7_in, .methodLink "ZoneCapacityModel" 121 yX7_isPrice, .static yX7_isPrice, .methodLink "ZoneCapacityModel" 117 yX7_isZone, .instanceMethod yX7_isZone, .selects "ZoneCapacityModel" yX7_isZone yX7_isZone, .methodLink "ZoneCapacityModel" 135 yX7_isResource, .instanceMethod yX7_isResource, .selects "ZoneCapacityModel" yX7_isResource yX7_isResource]
theorem iX7_placeOf : ∀ w ∈ wX7_placeOf, w ∈ TW := tw_of (ids := [1021, 1022, 1024, 1025, 1017, 1019, 25, 1063, 1065, 32]) (by decide +kernel)
def f7_placeOf (mm : Mem) (a1 : Int32) (a2 : Int32) (a3 : Int32) : Option Int32 := if a1 = 0 then bd (f7_in mm a2 (0 : Int32) (3 : Int32)) (fun r1 => if r1 = 0 then some ((-1 : Int32)) else bd (f7_isPrice mm a3) (fun r2 => if r2 = 0 then some ((-1 : Int32)) else some ((3 : Int32) + a2))) else if a1 = 1 then bd (f7_isPrice mm a3) (fun r3 => if r3 = 0 then some ((-1 : Int32)) else some ((2 : Int32))) else if a1 = 2 then if 0 < a2 then bd (f7_isZone mm a2) (fun r4 => if r4 = 0 then some ((-1 : Int32)) else bd (f7_isPrice mm a3) (fun r5 => if r5 = 0 then some ((-1 : Int32)) else some ((((7 : Int32) + ((12 : Int32) * a2)) + a1) - (1 : Int32)))) else some ((-1 : Int32)) else if a1 = 3 then if 0 < a2 then bd (f7_isZone mm a2) (fun r6 => if r6 = 0 then some ((-1 : Int32)) else bd (f7_isPrice mm a3) (fun r7 => if r7 = 0 then some ((-1 : Int32)) else some ((((7 : Int32) + ((12 : Int32) * a2)) + a1) - (1 : Int32)))) else some ((-1 : Int32)) else if a1 = 4 then bd (f7_isResource mm a2) (fun r8 => if r8 = 0 then some ((-1 : Int32)) else bd (f7_in mm a3 (0 : Int32) (1 : Int32)) (fun r9 => if r9 = 0 then some ((-1 : Int32)) else some (((79 : Int32) + ((13 : Int32) * a2)) + (5 : Int32)))) else some ((-1 : Int32))
theorem ctX7_placeOf {l : Launch} {C : Cfg} (hj : Dj C) {mm : Mem} {a1 : Int32} {a2 : Int32} {a3 : Int32} {x : Int32} (hf : f7_placeOf mm a1 a2 a3 = some x) : Ct l C yX7_placeOf cX7_placeOf 4 (some .int) 2 43 [.ref 0, .int a1, .int a2, .int a3] mm (some (.int x)) mm := by
  refine Ct.of (tb := tbX7_placeOf) hj miX7_placeOf.2.1 miX7_placeOf.1 dtX7_placeOf (Nat.le_of_ble_eq_true rfl) ?_
  intro E B hQ hr X
  unfold f7_placeOf at hf
  show G E 4 0 [(0, .ref 0), (1, .int a1), (2, .int a2), (3, .int a3)] [] mm
  refine z_iload_n B 0 rfl 1 1 rfl rfl ?_
  by_cases hc : a1 = 0
  · replace hf := (if_pos hc).symm.trans hf
    refine z_tswi B 1 rfl 0 (35) 36 (by rw [hc]; decide) (by decide) rfl (by decide) ?_
    refine z_iload_n B 2 rfl 2 2 rfl rfl ?_
    refine z_iconst 0 B 3 rfl (by decide) ?_
    refine z_iconst 3 B 4 rfl (by decide) ?_
    obtain ⟨r1, ec, hf⟩ := bd_e hf
    refine z_callS [.int a2, .int (0 : Int32), .int (3 : Int32)] [] [.int r1] X B 5 rfl miX7_in ⟨(iX7_placeOf _ (List.mem_of_getElem? (i := 0) rfl)), (iX7_placeOf _ (List.mem_of_getElem? (i := 1) rfl))⟩ (ctX7_in hj ec) ⟨Nat.le_of_ble_eq_true rfl, Nat.le_of_ble_eq_true rfl⟩ rfl rfl (Nat.le_of_ble_eq_true rfl) rfl ?_
    by_cases hc : r1 = 0
    · replace hf := (if_pos hc).symm.trans hf
      refine z_if_eq_t B 6 rfl 58 (by decide) hc ?_
      refine z_iconst (-1) B 14 rfl (by decide) ?_
      cases hf
      exact z_iret B 15 rfl rfl hQ hr
    · replace hf := (if_neg hc).symm.trans hf
      refine z_if_eq_f B 6 rfl 58 (by decide) hc ?_
      refine z_iload_n B 7 rfl 3 3 rfl rfl ?_
      obtain ⟨r2, ec, hf⟩ := bd_e hf
      refine z_callS [.int a3] [] [.int r2] X B 8 rfl miX7_isPrice ⟨(iX7_placeOf _ (List.mem_of_getElem? (i := 2) rfl)), (iX7_placeOf _ (List.mem_of_getElem? (i := 3) rfl))⟩ (ctX7_isPrice hj ec) ⟨Nat.le_of_ble_eq_true rfl, Nat.le_of_ble_eq_true rfl⟩ rfl rfl (Nat.le_of_ble_eq_true rfl) rfl ?_
      by_cases hc : r2 = 0
      · replace hf := (if_pos hc).symm.trans hf
        refine z_if_eq_t B 9 rfl 58 (by decide) hc ?_
        refine z_iconst (-1) B 14 rfl (by decide) ?_
        cases hf
        exact z_iret B 15 rfl rfl hQ hr
      · replace hf := (if_neg hc).symm.trans hf
        refine z_if_eq_f B 9 rfl 58 (by decide) hc ?_
        refine z_iconst 3 B 10 rfl (by decide) ?_
        refine z_iload_n B 11 rfl 2 2 rfl rfl ?_
        refine z_iadd B 12 rfl ?_
        refine z_goto B 13 rfl 59 (by decide) ?_
        cases hf
        exact z_iret B 15 rfl rfl hQ hr
  · replace hf := (if_neg hc).symm.trans hf
    have hc0 := hc
    by_cases hc : a1 = 1
    · replace hf := (if_pos hc).symm.trans hf
      refine z_tswi B 1 rfl 1 (59) 60 (by rw [hc]; decide) (by decide) rfl (by decide) ?_
      refine z_iload_n B 16 rfl 3 3 rfl rfl ?_
      obtain ⟨r3, ec, hf⟩ := bd_e hf
      refine z_callS [.int a3] [] [.int r3] X B 17 rfl miX7_isPrice ⟨(iX7_placeOf _ (List.mem_of_getElem? (i := 2) rfl)), (iX7_placeOf _ (List.mem_of_getElem? (i := 3) rfl))⟩ (ctX7_isPrice hj ec) ⟨Nat.le_of_ble_eq_true rfl, Nat.le_of_ble_eq_true rfl⟩ rfl rfl (Nat.le_of_ble_eq_true rfl) rfl ?_
      by_cases hc : r3 = 0
      · replace hf := (if_pos hc).symm.trans hf
        refine z_if_eq_t B 18 rfl 71 (by decide) hc ?_
        refine z_iconst (-1) B 21 rfl (by decide) ?_
        cases hf
        exact z_iret B 22 rfl rfl hQ hr
      · replace hf := (if_neg hc).symm.trans hf
        refine z_if_eq_f B 18 rfl 71 (by decide) hc ?_
        refine z_iconst 2 B 19 rfl (by decide) ?_
        refine z_goto B 20 rfl 72 (by decide) ?_
        cases hf
        exact z_iret B 22 rfl rfl hQ hr
    · replace hf := (if_neg hc).symm.trans hf
      have hc1 := hc
      by_cases hc : a1 = 2
      · replace hf := (if_pos hc).symm.trans hf
        refine z_tswi B 1 rfl 2 (72) 73 (by rw [hc]; decide) (by decide) rfl (by decide) ?_
        refine z_iload_n B 23 rfl 2 2 rfl rfl ?_
        by_cases hc : 0 < a2
        · replace hf := (if_pos hc).symm.trans hf
          refine z_if_le_f B 24 rfl 106 (by decide) hc ?_
          refine z_aload_n B 25 rfl 0 0 rfl rfl ?_
          refine z_iload_n B 26 rfl 2 2 rfl rfl ?_
          obtain ⟨r4, ec, hf⟩ := bd_e hf
          refine z_callV 0 7 [.int a2] [] [.int r4] X B 27 rfl ob_0 rfl rfl miX7_isZone ⟨(iX7_placeOf _ (List.mem_of_getElem? (i := 4) rfl)), (iX7_placeOf _ (List.mem_of_getElem? (i := 5) rfl)), (iX7_placeOf _ (List.mem_of_getElem? (i := 6) rfl))⟩ (ctX7_isZone hj ec) ⟨Nat.le_of_ble_eq_true rfl, Nat.le_of_ble_eq_true rfl⟩ rfl rfl (Nat.le_of_ble_eq_true rfl) rfl ?_
          by_cases hc : r4 = 0
          · replace hf := (if_pos hc).symm.trans hf
            refine z_if_eq_t B 28 rfl 106 (by decide) hc ?_
            refine z_iconst (-1) B 42 rfl (by decide) ?_
            cases hf
            exact z_iret B 43 rfl rfl hQ hr
          · replace hf := (if_neg hc).symm.trans hf
            refine z_if_eq_f B 28 rfl 106 (by decide) hc ?_
            refine z_iload_n B 29 rfl 3 3 rfl rfl ?_
            obtain ⟨r5, ec, hf⟩ := bd_e hf
            refine z_callS [.int a3] [] [.int r5] X B 30 rfl miX7_isPrice ⟨(iX7_placeOf _ (List.mem_of_getElem? (i := 2) rfl)), (iX7_placeOf _ (List.mem_of_getElem? (i := 3) rfl))⟩ (ctX7_isPrice hj ec) ⟨Nat.le_of_ble_eq_true rfl, Nat.le_of_ble_eq_true rfl⟩ rfl rfl (Nat.le_of_ble_eq_true rfl) rfl ?_
            by_cases hc : r5 = 0
            · replace hf := (if_pos hc).symm.trans hf
              refine z_if_eq_t B 31 rfl 106 (by decide) hc ?_
              refine z_iconst (-1) B 42 rfl (by decide) ?_
              cases hf
              exact z_iret B 43 rfl rfl hQ hr
            · replace hf := (if_neg hc).symm.trans hf
              refine z_if_eq_f B 31 rfl 106 (by decide) hc ?_
              refine z_bipush 7 B 32 rfl (by decide) ?_
              refine z_bipush 12 B 33 rfl (by decide) ?_
              refine z_iload_n B 34 rfl 2 2 rfl rfl ?_
              refine z_imul B 35 rfl ?_
              refine z_iadd B 36 rfl ?_
              refine z_iload_n B 37 rfl 1 1 rfl rfl ?_
              refine z_iadd B 38 rfl ?_
              refine z_iconst 1 B 39 rfl (by decide) ?_
              refine z_isub B 40 rfl ?_
              refine z_goto B 41 rfl 107 (by decide) ?_
              cases hf
              exact z_iret B 43 rfl rfl hQ hr
        · replace hf := (if_neg hc).symm.trans hf
          refine z_if_le_t B 24 rfl 106 (by decide) hc ?_
          refine z_iconst (-1) B 42 rfl (by decide) ?_
          cases hf
          exact z_iret B 43 rfl rfl hQ hr
      · replace hf := (if_neg hc).symm.trans hf
        have hc2 := hc
        by_cases hc : a1 = 3
        · replace hf := (if_pos hc).symm.trans hf
          refine z_tswi B 1 rfl 3 (72) 73 (by rw [hc]; decide) (by decide) rfl (by decide) ?_
          refine z_iload_n B 23 rfl 2 2 rfl rfl ?_
          by_cases hc : 0 < a2
          · replace hf := (if_pos hc).symm.trans hf
            refine z_if_le_f B 24 rfl 106 (by decide) hc ?_
            refine z_aload_n B 25 rfl 0 0 rfl rfl ?_
            refine z_iload_n B 26 rfl 2 2 rfl rfl ?_
            obtain ⟨r6, ec, hf⟩ := bd_e hf
            refine z_callV 0 7 [.int a2] [] [.int r6] X B 27 rfl ob_0 rfl rfl miX7_isZone ⟨(iX7_placeOf _ (List.mem_of_getElem? (i := 4) rfl)), (iX7_placeOf _ (List.mem_of_getElem? (i := 5) rfl)), (iX7_placeOf _ (List.mem_of_getElem? (i := 6) rfl))⟩ (ctX7_isZone hj ec) ⟨Nat.le_of_ble_eq_true rfl, Nat.le_of_ble_eq_true rfl⟩ rfl rfl (Nat.le_of_ble_eq_true rfl) rfl ?_
            by_cases hc : r6 = 0
            · replace hf := (if_pos hc).symm.trans hf
              refine z_if_eq_t B 28 rfl 106 (by decide) hc ?_
              refine z_iconst (-1) B 42 rfl (by decide) ?_
              cases hf
              exact z_iret B 43 rfl rfl hQ hr
            · replace hf := (if_neg hc).symm.trans hf
              refine z_if_eq_f B 28 rfl 106 (by decide) hc ?_
              refine z_iload_n B 29 rfl 3 3 rfl rfl ?_
              obtain ⟨r7, ec, hf⟩ := bd_e hf
              refine z_callS [.int a3] [] [.int r7] X B 30 rfl miX7_isPrice ⟨(iX7_placeOf _ (List.mem_of_getElem? (i := 2) rfl)), (iX7_placeOf _ (List.mem_of_getElem? (i := 3) rfl))⟩ (ctX7_isPrice hj ec) ⟨Nat.le_of_ble_eq_true rfl, Nat.le_of_ble_eq_true rfl⟩ rfl rfl (Nat.le_of_ble_eq_true rfl) rfl ?_
              by_cases hc : r7 = 0
              · replace hf := (if_pos hc).symm.trans hf
                refine z_if_eq_t B 31 rfl 106 (by decide) hc ?_
                refine z_iconst (-1) B 42 rfl (by decide) ?_
                cases hf
                exact z_iret B 43 rfl rfl hQ hr
              · replace hf := (if_neg hc).symm.trans hf
                refine z_if_eq_f B 31 rfl 106 (by decide) hc ?_
                refine z_bipush 7 B 32 rfl (by decide) ?_
                refine z_bipush 12 B 33 rfl (by decide) ?_
                refine z_iload_n B 34 rfl 2 2 rfl rfl ?_
                refine z_imul B 35 rfl ?_
                refine z_iadd B 36 rfl ?_
                refine z_iload_n B 37 rfl 1 1 rfl rfl ?_
                refine z_iadd B 38 rfl ?_
                refine z_iconst 1 B 39 rfl (by decide) ?_
                refine z_isub B 40 rfl ?_
                refine z_goto B 41 rfl 107 (by decide) ?_
                cases hf
                exact z_iret B 43 rfl rfl hQ hr
          · replace hf := (if_neg hc).symm.trans hf
            refine z_if_le_t B 24 rfl 106 (by decide) hc ?_
            refine z_iconst (-1) B 42 rfl (by decide) ?_
            cases hf
            exact z_iret B 43 rfl rfl hQ hr
        · replace hf := (if_neg hc).symm.trans hf
          have hc3 := hc
          by_cases hc : a1 = 4
          · replace hf := (if_pos hc).symm.trans hf
            refine z_tswi B 1 rfl 4 (107) 108 (by rw [hc]; decide) (by decide) rfl (by decide) ?_
            refine z_aload_n B 44 rfl 0 0 rfl rfl ?_
            refine z_iload_n B 45 rfl 2 2 rfl rfl ?_
            obtain ⟨r8, ec, hf⟩ := bd_e hf
            refine z_callV 0 7 [.int a2] [] [.int r8] X B 46 rfl ob_0 rfl rfl miX7_isResource ⟨(iX7_placeOf _ (List.mem_of_getElem? (i := 7) rfl)), (iX7_placeOf _ (List.mem_of_getElem? (i := 8) rfl)), (iX7_placeOf _ (List.mem_of_getElem? (i := 9) rfl))⟩ (ctX7_isResource hj ec) ⟨Nat.le_of_ble_eq_true rfl, Nat.le_of_ble_eq_true rfl⟩ rfl rfl (Nat.le_of_ble_eq_true rfl) rfl ?_
            by_cases hc : r8 = 0
            · replace hf := (if_pos hc).symm.trans hf
              refine z_if_eq_t B 47 rfl 137 (by decide) hc ?_
              refine z_iconst (-1) B 61 rfl (by decide) ?_
              cases hf
              exact z_iret B 62 rfl rfl hQ hr
            · replace hf := (if_neg hc).symm.trans hf
              refine z_if_eq_f B 47 rfl 137 (by decide) hc ?_
              refine z_iload_n B 48 rfl 3 3 rfl rfl ?_
              refine z_iconst 0 B 49 rfl (by decide) ?_
              refine z_iconst 1 B 50 rfl (by decide) ?_
              obtain ⟨r9, ec, hf⟩ := bd_e hf
              refine z_callS [.int a3, .int (0 : Int32), .int (1 : Int32)] [] [.int r9] X B 51 rfl miX7_in ⟨(iX7_placeOf _ (List.mem_of_getElem? (i := 0) rfl)), (iX7_placeOf _ (List.mem_of_getElem? (i := 1) rfl))⟩ (ctX7_in hj ec) ⟨Nat.le_of_ble_eq_true rfl, Nat.le_of_ble_eq_true rfl⟩ rfl rfl (Nat.le_of_ble_eq_true rfl) rfl ?_
              by_cases hc : r9 = 0
              · replace hf := (if_pos hc).symm.trans hf
                refine z_if_eq_t B 52 rfl 137 (by decide) hc ?_
                refine z_iconst (-1) B 61 rfl (by decide) ?_
                cases hf
                exact z_iret B 62 rfl rfl hQ hr
              · replace hf := (if_neg hc).symm.trans hf
                refine z_if_eq_f B 52 rfl 137 (by decide) hc ?_
                refine z_bipush 79 B 53 rfl (by decide) ?_
                refine z_bipush 13 B 54 rfl (by decide) ?_
                refine z_iload_n B 55 rfl 2 2 rfl rfl ?_
                refine z_imul B 56 rfl ?_
                refine z_iadd B 57 rfl ?_
                refine z_iconst 5 B 58 rfl (by decide) ?_
                refine z_iadd B 59 rfl ?_
                refine z_goto B 60 rfl 138 (by decide) ?_
                cases hf
                exact z_iret B 62 rfl rfl hQ hr
          · replace hf := (if_neg hc).symm.trans hf
            have hc4 := hc
            refine z_tswo B 1 rfl 139 (tsw_out5 hc0 hc1 hc2 hc3 hc4) (by decide) ?_
            refine z_iconst (-1) B 63 rfl (by decide) ?_
            cases hf
            exact z_iret B 64 rfl rfl hQ hr
/-! ZoneCapacityModel.set(III)Z -/
def tbX7_set : Tb := [(0, .aload_n 0, 1, 1), (1, .iconst 0, 1, 2), (2, .putfield 50, 3, 5), (5, .aload_n 0, 1, 6), (6, .iload_n 1, 1, 7), (7, .iload_n 2, 1, 8), (8, .iload_n 3, 1, 9), (9, .invokevirtual 144, 3, 12), (12, .istore 4, 2, 14), (14, .iload 4, 2, 16), (16, .iconst (-1), 1, 17), (17, .if_icmp .eq 14, 3, 20), (20, .aload_n 0, 1, 21), (21, .getfield 7, 3, 24), (24, .iload 4, 2, 26), (26, .iaload, 1, 27), (27, .iload_n 3, 1, 28), (28, .if_icmp .ne 5, 3, 31), (31, .iconst 0, 1, 32), (32, .ireturn, 1, 33), (33, .aload_n 0, 1, 34), (34, .getfield 7, 3, 37), (37, .iload 4, 2, 39), (39, .iload_n 3, 1, 40), (40, .iastore, 1, 41), (41, .iconst 1, 1, 42), (42, .ireturn, 1, 43)]
theorem dtX7_set : ∀ q ∈ tbX7_set, decode cX7_set q.1 = .ok (q.2.1, q.2.2.1) ∧ q.1 + q.2.2.1 = q.2.2.2 := by decide +kernel
theorem miX7_set : MI yX7_set cX7_set 5 (some .boolean) 3 := ⟨tw_mem (List.mem_of_getElem? (i := 1090) (by decide +kernel)) rfl, by decide, by decide +kernel, tw_mem (List.mem_of_getElem? (i := 78) (by decide +kernel)) rfl⟩
abbrev rmX7_set : Room := { frames := 3, cells := 0, slots := 0, locals := 66 }
def wX7_set : List Cond := [.fieldLink "ZoneCapacityModel" 50 "ZoneCapacityModel" "raised" "I", .methodLink "ZoneCapacityModel" 144 yX7_placeOf, .instanceMethod yX7_placeOf, .selects "ZoneCapacityModel" yX7_placeOf yX7_placeOf, .fieldLink "ZoneCapacityModel" 7 "ZoneCapacityModel" "w" "[I"]
theorem iX7_set : ∀ w ∈ wX7_set, w ∈ TW := tw_of (ids := [938, 1091, 1093, 37, 939]) (by decide +kernel)
def f7_set (mm : Mem) (a1 : Int32) (a2 : Int32) (a3 : Int32) : Option (Int32 × Mem) := nm (up2 mm 0 0 (0 : Int32)) (fun m1 => bd (f7_placeOf m1 a1 a2 a3) (fun r2 => if r2 = (-1 : Int32) then some ((0 : Int32), m1) else rdc 1 r2 (nm (m1 1 r2.toNatClampNeg) (fun v3 => if v3 = a3 then some ((0 : Int32), m1) else rdc 1 r2 (nm (up2 m1 1 r2.toNatClampNeg a3) (fun m4 => some ((1 : Int32), m4)))))))
theorem ctX7_set {l : Launch} {C : Cfg} (hj : Dj C) {mm : Mem} {a1 : Int32} {a2 : Int32} {a3 : Int32} {x : (Int32 × Mem)} (hf : f7_set mm a1 a2 a3 = some x) : Ct l C yX7_set cX7_set 5 (some .boolean) 3 66 [.ref 0, .int a1, .int a2, .int a3] mm (some (.int x.1)) x.2 := by
  refine Ct.of (tb := tbX7_set) hj miX7_set.2.1 miX7_set.1 dtX7_set (Nat.le_of_ble_eq_true rfl) ?_
  intro E B hQ hr X
  unfold f7_set at hf
  show G E 5 0 [(0, .ref 0), (1, .int a1), (2, .int a2), (3, .int a3)] [] mm
  refine z_aload_n B 0 rfl 0 0 rfl rfl ?_
  refine z_iconst 0 B 1 rfl (by decide) ?_
  refine z_puti 7 0 0 B 2 rfl ob_0 rfl (iX7_set _ (List.mem_of_getElem? (i := 0) rfl)) rfl (ty := .int) (by decide) rfl rfl rfl ?_
  obtain ⟨m1, ex, hf⟩ := nm_x hf
  refine z_mem ex ?_
  refine z_aload_n B 3 rfl 0 0 rfl rfl ?_
  refine z_iload_n B 4 rfl 1 1 rfl rfl ?_
  refine z_iload_n B 5 rfl 2 2 rfl rfl ?_
  refine z_iload_n B 6 rfl 3 3 rfl rfl ?_
  obtain ⟨r2, ec, hf⟩ := bd_e hf
  refine z_callV 0 7 [.int a1, .int a2, .int a3] [] [.int r2] X B 7 rfl ob_0 rfl rfl miX7_placeOf ⟨(iX7_set _ (List.mem_of_getElem? (i := 1) rfl)), (iX7_set _ (List.mem_of_getElem? (i := 2) rfl)), (iX7_set _ (List.mem_of_getElem? (i := 3) rfl))⟩ (ctX7_placeOf hj ec) ⟨Nat.le_of_ble_eq_true rfl, Nat.le_of_ble_eq_true rfl⟩ rfl rfl (Nat.le_of_ble_eq_true rfl) rfl ?_
  refine z_istore [(4, .int r2), (0, .ref 0), (1, .int a1), (2, .int a2), (3, .int a3)] B 8 rfl (by decide) rfl ?_
  refine z_iload B 9 rfl 0 rfl ?_
  refine z_iconst (-1) B 10 rfl (by decide) ?_
  by_cases hc : r2 = (-1 : Int32)
  · replace hf := (if_pos hc).symm.trans hf
    refine z_icmp_eq_t B 11 rfl 31 (by decide) hc ?_
    refine z_iconst 0 B 18 rfl (by decide) ?_
    cases hf
    exact z_iret B 19 rfl (by decide) hQ hr
  · replace hf := (if_neg hc).symm.trans hf
    refine z_icmp_eq_f B 11 rfl 31 (by decide) hc ?_
    refine z_aload_n B 12 rfl 0 1 rfl rfl ?_
    refine z_getr 7 1 0 B 13 rfl ob_0 rfl (iX7_set _ (List.mem_of_getElem? (i := 4) rfl)) rfl ?_
    refine z_iload B 14 rfl 0 rfl ?_
    obtain ⟨hx, hf⟩ := rdc_e hf
    refine z_iald B 15 rfl ob_1 hx ?_
    obtain ⟨v3, ex, hf⟩ := nm_x hf
    refine z_top ex ?_
    refine z_iload_n B 16 rfl 3 4 rfl rfl ?_
    by_cases hc : v3 = a3
    · replace hf := (if_pos hc).symm.trans hf
      refine z_icmp_ne_f B 17 rfl 33 (by decide) hc ?_
      refine z_iconst 0 B 18 rfl (by decide) ?_
      cases hf
      exact z_iret B 19 rfl (by decide) hQ hr
    · replace hf := (if_neg hc).symm.trans hf
      refine z_icmp_ne_t B 17 rfl 33 (by decide) hc ?_
      refine z_aload_n B 20 rfl 0 1 rfl rfl ?_
      refine z_getr 7 1 0 B 21 rfl ob_0 rfl (iX7_set _ (List.mem_of_getElem? (i := 4) rfl)) rfl ?_
      refine z_iload B 22 rfl 0 rfl ?_
      refine z_iload_n B 23 rfl 3 4 rfl rfl ?_
      obtain ⟨hx, hf⟩ := rdc_e hf
      refine z_iast B 24 rfl ob_1 hx ?_
      obtain ⟨m4, ex, hf⟩ := nm_x hf
      refine z_mem ex ?_
      refine z_iconst 1 B 25 rfl (by decide) ?_
      cases hf
      exact z_iret B 26 rfl (by decide) hQ hr
/-! ZoneCapacityModel.keep(I)Z -/
def tbX7_keep : Tb := [(0, .aload_n 0, 1, 1), (1, .iconst 0, 1, 2), (2, .putfield 50, 3, 5), (5, .iload_n 1, 1, 6), (6, .iconst 0, 1, 7), (7, .iconst 1, 1, 8), (8, .invokestatic 54, 3, 11), (11, .ifCond .ne 5, 3, 14), (14, .iconst 0, 1, 15), (15, .ireturn, 1, 16), (16, .iconst 0, 1, 17), (17, .istore_n 2, 1, 18), (18, .iload_n 2, 1, 19), (19, .sipush 235, 3, 22), (22, .if_icmp .ge 27, 3, 25), (25, .aload_n 0, 1, 26), (26, .getfield 13, 3, 29), (29, .sipush 235, 3, 32), (32, .iload_n 1, 1, 33), (33, .imul, 1, 34), (34, .iload_n 2, 1, 35), (35, .iadd, 1, 36), (36, .aload_n 0, 1, 37), (37, .getfield 7, 3, 40), (40, .iload_n 2, 1, 41), (41, .iaload, 1, 42), (42, .iastore, 1, 43), (43, .iinc 2 1, 3, 46), (46, .goto (-28), 3, 49), (49, .aload_n 0, 1, 50), (50, .getfield 16, 3, 53), (53, .iload_n 1, 1, 54), (54, .iconst 1, 1, 55), (55, .bastore, 1, 56), (56, .iconst 1, 1, 57), (57, .ireturn, 1, 58)]
theorem dtX7_keep : ∀ q ∈ tbX7_keep, decode cX7_keep q.1 = .ok (q.2.1, q.2.2.1) ∧ q.1 + q.2.2.1 = q.2.2.2 := by decide +kernel
theorem miX7_keep : MI yX7_keep cX7_keep 3 (some .boolean) 1 := ⟨tw_mem (List.mem_of_getElem? (i := 1098) (by decide +kernel)) rfl, by decide, by decide +kernel, tw_mem (List.mem_of_getElem? (i := 78) (by decide +kernel)) rfl⟩
abbrev rmX7_keep : Room := { frames := 1, cells := 0, slots := 0, locals := 22 }
def wX7_keep : List Cond := [.fieldLink "ZoneCapacityModel" 50 "ZoneCapacityModel" "raised" "I", .methodLink "ZoneCapacityModel" 54 yX7_in, .static yX7_in, .fieldLink "ZoneCapacityModel" 16 "ZoneCapacityModel" "isKept" "[Z", .fieldLink "ZoneCapacityModel" 13 "ZoneCapacityModel" "kept" "[I", .fieldLink "ZoneCapacityModel" 7 "ZoneCapacityModel" "w" "[I"]
theorem iX7_keep : ∀ w ∈ wX7_keep, w ∈ TW := tw_of (ids := [938, 1021, 1022, 941, 940, 939]) (by decide +kernel)
def f7_keep_l18 : Nat → Int32 → Int32 → Mem → Option (Int32 × Mem)
  | 0, _, _, _ => none
  | n + 1, x1, x2, mm => if x2 < (235 : Int32) then rdc 1 x2 (nm (mm 1 x2.toNatClampNeg) (fun v4 => rdc 2 (((235 : Int32) * x1) + x2) (nm (up2 mm 2 (((235 : Int32) * x1) + x2).toNatClampNeg v4) (fun m5 => nm (x2 + 1) (fun v6 => f7_keep_l18 n x1 v6 m5))))) else rdc 3 x1 (nm (up2 mm 3 x1.toNatClampNeg (1 : Int32)) (fun m3 => some ((1 : Int32), m3)))
theorem f7_keep_l18_ok {E : Ev} {l : Launch} {C : Cfg} {x : (Int32 × Mem)} (hj : Dj C) (X : Ec E l C rmX7_keep) (B : Bx E RX7 tbX7_keep 3 (some .boolean)) (hQ : Rt E) (hr : Rs E (some (.int x.1)) x.2) (n : Nat) : ∀ (x1 : Int32) (x2 : Int32) (mm : Mem), f7_keep_l18 n x1 x2 mm = some x → G E 3 18 [(0, .ref 0), (1, .int x1), (2, .int x2)] [] mm := by
  induction n with
  | zero =>
    intro x1 x2 mm hf
    rw [f7_keep_l18] at hf
    cases hf
  | succ n ih =>
    intro x1 x2 mm hf
    rw [f7_keep_l18] at hf
    refine z_iload_n B 12 rfl 2 2 rfl rfl ?_
    refine z_sipush 235 B 13 rfl (by decide) ?_
    by_cases hc : x2 < (235 : Int32)
    · replace hf := (if_pos hc).symm.trans hf
      refine z_icmp_ge_f B 14 rfl 49 (by decide) hc ?_
      refine z_aload_n B 15 rfl 0 0 rfl rfl ?_
      refine z_getr 7 2 0 B 16 rfl ob_0 rfl (iX7_keep _ (List.mem_of_getElem? (i := 4) rfl)) rfl ?_
      refine z_sipush 235 B 17 rfl (by decide) ?_
      refine z_iload_n B 18 rfl 1 1 rfl rfl ?_
      refine z_imul B 19 rfl ?_
      refine z_iload_n B 20 rfl 2 2 rfl rfl ?_
      refine z_iadd B 21 rfl ?_
      refine z_aload_n B 22 rfl 0 0 rfl rfl ?_
      refine z_getr 7 1 0 B 23 rfl ob_0 rfl (iX7_keep _ (List.mem_of_getElem? (i := 5) rfl)) rfl ?_
      refine z_iload_n B 24 rfl 2 2 rfl rfl ?_
      obtain ⟨hx, hf⟩ := rdc_e hf
      refine z_iald B 25 rfl ob_1 hx ?_
      obtain ⟨v4, ex, hf⟩ := nm_x hf
      refine z_top ex ?_
      obtain ⟨hx, hf⟩ := rdc_e hf
      refine z_iast B 26 rfl ob_2 hx ?_
      obtain ⟨m5, ex, hf⟩ := nm_x hf
      refine z_mem ex ?_
      obtain ⟨v6, ex, hf⟩ := nm_x hf
      refine z_iinc v6 [(2, .int v6), (0, .ref 0), (1, .int x1)] B 27 rfl 2 rfl (ex.symm) (by decide) rfl ?_
      refine z_goto B 28 rfl 18 (by decide) ?_
      refine z_sub [(0, .ref 0), (1, .int x1), (2, .int v6)] [1, 2, 0] rfl ?_
      exact ih _ _ _ hf
    · replace hf := (if_neg hc).symm.trans hf
      refine z_icmp_ge_t B 14 rfl 49 (by decide) hc ?_
      refine z_aload_n B 29 rfl 0 0 rfl rfl ?_
      refine z_getr 7 3 0 B 30 rfl ob_0 rfl (iX7_keep _ (List.mem_of_getElem? (i := 3) rfl)) rfl ?_
      refine z_iload_n B 31 rfl 1 1 rfl rfl ?_
      refine z_iconst 1 B 32 rfl (by decide) ?_
      obtain ⟨hx, hf⟩ := rdc_e hf
      refine z_zast B 33 rfl ob_3 hx (by decide) ?_
      obtain ⟨m3, ex, hf⟩ := nm_x hf
      refine z_mem ex ?_
      refine z_iconst 1 B 34 rfl (by decide) ?_
      cases hf
      exact z_iret B 35 rfl (by decide) hQ hr
def f7_keep (mm : Mem) (a1 : Int32) : Option (Int32 × Mem) := nm (up2 mm 0 0 (0 : Int32)) (fun m1 => bd (f7_in m1 a1 (0 : Int32) (1 : Int32)) (fun r2 => if r2 = 0 then some ((0 : Int32), m1) else f7_keep_l18 FU a1 (0 : Int32) m1))
theorem ctX7_keep {l : Launch} {C : Cfg} (hj : Dj C) {mm : Mem} {a1 : Int32} {x : (Int32 × Mem)} (hf : f7_keep mm a1 = some x) : Ct l C yX7_keep cX7_keep 3 (some .boolean) 1 22 [.ref 0, .int a1] mm (some (.int x.1)) x.2 := by
  refine Ct.of (tb := tbX7_keep) hj miX7_keep.2.1 miX7_keep.1 dtX7_keep (Nat.le_of_ble_eq_true rfl) ?_
  intro E B hQ hr X
  unfold f7_keep at hf
  show G E 3 0 [(0, .ref 0), (1, .int a1)] [] mm
  refine z_aload_n B 0 rfl 0 0 rfl rfl ?_
  refine z_iconst 0 B 1 rfl (by decide) ?_
  refine z_puti 7 0 0 B 2 rfl ob_0 rfl (iX7_keep _ (List.mem_of_getElem? (i := 0) rfl)) rfl (ty := .int) (by decide) rfl rfl rfl ?_
  obtain ⟨m1, ex, hf⟩ := nm_x hf
  refine z_mem ex ?_
  refine z_iload_n B 3 rfl 1 1 rfl rfl ?_
  refine z_iconst 0 B 4 rfl (by decide) ?_
  refine z_iconst 1 B 5 rfl (by decide) ?_
  obtain ⟨r2, ec, hf⟩ := bd_e hf
  refine z_callS [.int a1, .int (0 : Int32), .int (1 : Int32)] [] [.int r2] X B 6 rfl miX7_in ⟨(iX7_keep _ (List.mem_of_getElem? (i := 1) rfl)), (iX7_keep _ (List.mem_of_getElem? (i := 2) rfl))⟩ (ctX7_in hj ec) ⟨Nat.le_of_ble_eq_true rfl, Nat.le_of_ble_eq_true rfl⟩ rfl rfl (Nat.le_of_ble_eq_true rfl) rfl ?_
  by_cases hc : r2 = 0
  · replace hf := (if_pos hc).symm.trans hf
    refine z_if_ne_f B 7 rfl 16 (by decide) hc ?_
    refine z_iconst 0 B 8 rfl (by decide) ?_
    cases hf
    exact z_iret B 9 rfl (by decide) hQ hr
  · replace hf := (if_neg hc).symm.trans hf
    refine z_if_ne_t B 7 rfl 16 (by decide) hc ?_
    refine z_iconst 0 B 10 rfl (by decide) ?_
    refine z_istore_n [(2, .int (0 : Int32)), (0, .ref 0), (1, .int a1)] B 11 rfl 2 rfl (by decide) rfl ?_
    refine z_sub [(0, .ref 0), (1, .int a1), (2, .int (0 : Int32))] [1, 2, 0] rfl ?_
    exact f7_keep_l18_ok hj X B hQ hr FU _ _ _ hf
/-! ZoneCapacityModel.back(I)Z -/
def tbX7_back : Tb := [(0, .aload_n 0, 1, 1), (1, .iconst 0, 1, 2), (2, .putfield 50, 3, 5), (5, .iload_n 1, 1, 6), (6, .iconst 0, 1, 7), (7, .iconst 1, 1, 8), (8, .invokestatic 54, 3, 11), (11, .ifCond .eq 12, 3, 14), (14, .aload_n 0, 1, 15), (15, .getfield 16, 3, 18), (18, .iload_n 1, 1, 19), (19, .baload, 1, 20), (20, .ifCond .ne 5, 3, 23), (23, .iconst 0, 1, 24), (24, .ireturn, 1, 25), (25, .iconst 0, 1, 26), (26, .istore_n 2, 1, 27), (27, .iload_n 2, 1, 28), (28, .sipush 235, 3, 31), (31, .if_icmp .ge 27, 3, 34), (34, .aload_n 0, 1, 35), (35, .getfield 7, 3, 38), (38, .iload_n 2, 1, 39), (39, .aload_n 0, 1, 40), (40, .getfield 13, 3, 43), (43, .sipush 235, 3, 46), (46, .iload_n 1, 1, 47), (47, .imul, 1, 48), (48, .iload_n 2, 1, 49), (49, .iadd, 1, 50), (50, .iaload, 1, 51), (51, .iastore, 1, 52), (52, .iinc 2 1, 3, 55), (55, .goto (-28), 3, 58), (58, .iconst 1, 1, 59), (59, .ireturn, 1, 60)]
theorem dtX7_back : ∀ q ∈ tbX7_back, decode cX7_back q.1 = .ok (q.2.1, q.2.2.1) ∧ q.1 + q.2.2.1 = q.2.2.2 := by decide +kernel
theorem miX7_back : MI yX7_back cX7_back 3 (some .boolean) 1 := ⟨tw_mem (List.mem_of_getElem? (i := 1102) (by decide +kernel)) rfl, by decide, by decide +kernel, tw_mem (List.mem_of_getElem? (i := 78) (by decide +kernel)) rfl⟩
abbrev rmX7_back : Room := { frames := 1, cells := 0, slots := 0, locals := 22 }
def wX7_back : List Cond := [.fieldLink "ZoneCapacityModel" 50 "ZoneCapacityModel" "raised" "I", .methodLink "ZoneCapacityModel" 54 yX7_in, .static yX7_in, .fieldLink "ZoneCapacityModel" 16 "ZoneCapacityModel" "isKept" "[Z", .fieldLink "ZoneCapacityModel" 7 "ZoneCapacityModel" "w" "[I", .fieldLink "ZoneCapacityModel" 13 "ZoneCapacityModel" "kept" "[I"]
theorem iX7_back : ∀ w ∈ wX7_back, w ∈ TW := tw_of (ids := [938, 1021, 1022, 941, 939, 940]) (by decide +kernel)
def f7_back_l27 : Nat → Int32 → Int32 → Mem → Option (Int32 × Mem)
  | 0, _, _, _ => none
  | n + 1, x1, x2, mm => if x2 < (235 : Int32) then rdc 2 (((235 : Int32) * x1) + x2) (nm (mm 2 (((235 : Int32) * x1) + x2).toNatClampNeg) (fun v4 => rdc 1 x2 (nm (up2 mm 1 x2.toNatClampNeg v4) (fun m5 => nm (x2 + 1) (fun v6 => f7_back_l27 n x1 v6 m5))))) else some ((1 : Int32), mm)
theorem f7_back_l27_ok {E : Ev} {l : Launch} {C : Cfg} {x : (Int32 × Mem)} (hj : Dj C) (X : Ec E l C rmX7_back) (B : Bx E RX7 tbX7_back 3 (some .boolean)) (hQ : Rt E) (hr : Rs E (some (.int x.1)) x.2) (n : Nat) : ∀ (x1 : Int32) (x2 : Int32) (mm : Mem), f7_back_l27 n x1 x2 mm = some x → G E 3 27 [(0, .ref 0), (1, .int x1), (2, .int x2)] [] mm := by
  induction n with
  | zero =>
    intro x1 x2 mm hf
    rw [f7_back_l27] at hf
    cases hf
  | succ n ih =>
    intro x1 x2 mm hf
    rw [f7_back_l27] at hf
    refine z_iload_n B 17 rfl 2 2 rfl rfl ?_
    refine z_sipush 235 B 18 rfl (by decide) ?_
    by_cases hc : x2 < (235 : Int32)
    · replace hf := (if_pos hc).symm.trans hf
      refine z_icmp_ge_f B 19 rfl 58 (by decide) hc ?_
      refine z_aload_n B 20 rfl 0 0 rfl rfl ?_
      refine z_getr 7 1 0 B 21 rfl ob_0 rfl (iX7_back _ (List.mem_of_getElem? (i := 4) rfl)) rfl ?_
      refine z_iload_n B 22 rfl 2 2 rfl rfl ?_
      refine z_aload_n B 23 rfl 0 0 rfl rfl ?_
      refine z_getr 7 2 0 B 24 rfl ob_0 rfl (iX7_back _ (List.mem_of_getElem? (i := 5) rfl)) rfl ?_
      refine z_sipush 235 B 25 rfl (by decide) ?_
      refine z_iload_n B 26 rfl 1 1 rfl rfl ?_
      refine z_imul B 27 rfl ?_
      refine z_iload_n B 28 rfl 2 2 rfl rfl ?_
      refine z_iadd B 29 rfl ?_
      obtain ⟨hx, hf⟩ := rdc_e hf
      refine z_iald B 30 rfl ob_2 hx ?_
      obtain ⟨v4, ex, hf⟩ := nm_x hf
      refine z_top ex ?_
      obtain ⟨hx, hf⟩ := rdc_e hf
      refine z_iast B 31 rfl ob_1 hx ?_
      obtain ⟨m5, ex, hf⟩ := nm_x hf
      refine z_mem ex ?_
      obtain ⟨v6, ex, hf⟩ := nm_x hf
      refine z_iinc v6 [(2, .int v6), (0, .ref 0), (1, .int x1)] B 32 rfl 2 rfl (ex.symm) (by decide) rfl ?_
      refine z_goto B 33 rfl 27 (by decide) ?_
      refine z_sub [(0, .ref 0), (1, .int x1), (2, .int v6)] [1, 2, 0] rfl ?_
      exact ih _ _ _ hf
    · replace hf := (if_neg hc).symm.trans hf
      refine z_icmp_ge_t B 19 rfl 58 (by decide) hc ?_
      refine z_iconst 1 B 34 rfl (by decide) ?_
      cases hf
      exact z_iret B 35 rfl (by decide) hQ hr
def f7_back (mm : Mem) (a1 : Int32) : Option (Int32 × Mem) := nm (up2 mm 0 0 (0 : Int32)) (fun m1 => bd (f7_in m1 a1 (0 : Int32) (1 : Int32)) (fun r2 => if r2 = 0 then some ((0 : Int32), m1) else rdc 3 a1 (nm (m1 3 a1.toNatClampNeg) (fun v3 => if v3 = 0 then some ((0 : Int32), m1) else f7_back_l27 FU a1 (0 : Int32) m1))))
theorem ctX7_back {l : Launch} {C : Cfg} (hj : Dj C) {mm : Mem} {a1 : Int32} {x : (Int32 × Mem)} (hf : f7_back mm a1 = some x) : Ct l C yX7_back cX7_back 3 (some .boolean) 1 22 [.ref 0, .int a1] mm (some (.int x.1)) x.2 := by
  refine Ct.of (tb := tbX7_back) hj miX7_back.2.1 miX7_back.1 dtX7_back (Nat.le_of_ble_eq_true rfl) ?_
  intro E B hQ hr X
  unfold f7_back at hf
  show G E 3 0 [(0, .ref 0), (1, .int a1)] [] mm
  refine z_aload_n B 0 rfl 0 0 rfl rfl ?_
  refine z_iconst 0 B 1 rfl (by decide) ?_
  refine z_puti 7 0 0 B 2 rfl ob_0 rfl (iX7_back _ (List.mem_of_getElem? (i := 0) rfl)) rfl (ty := .int) (by decide) rfl rfl rfl ?_
  obtain ⟨m1, ex, hf⟩ := nm_x hf
  refine z_mem ex ?_
  refine z_iload_n B 3 rfl 1 1 rfl rfl ?_
  refine z_iconst 0 B 4 rfl (by decide) ?_
  refine z_iconst 1 B 5 rfl (by decide) ?_
  obtain ⟨r2, ec, hf⟩ := bd_e hf
  refine z_callS [.int a1, .int (0 : Int32), .int (1 : Int32)] [] [.int r2] X B 6 rfl miX7_in ⟨(iX7_back _ (List.mem_of_getElem? (i := 1) rfl)), (iX7_back _ (List.mem_of_getElem? (i := 2) rfl))⟩ (ctX7_in hj ec) ⟨Nat.le_of_ble_eq_true rfl, Nat.le_of_ble_eq_true rfl⟩ rfl rfl (Nat.le_of_ble_eq_true rfl) rfl ?_
  by_cases hc : r2 = 0
  · replace hf := (if_pos hc).symm.trans hf
    refine z_if_eq_t B 7 rfl 23 (by decide) hc ?_
    refine z_iconst 0 B 13 rfl (by decide) ?_
    cases hf
    exact z_iret B 14 rfl (by decide) hQ hr
  · replace hf := (if_neg hc).symm.trans hf
    refine z_if_eq_f B 7 rfl 23 (by decide) hc ?_
    refine z_aload_n B 8 rfl 0 0 rfl rfl ?_
    refine z_getr 7 3 0 B 9 rfl ob_0 rfl (iX7_back _ (List.mem_of_getElem? (i := 3) rfl)) rfl ?_
    refine z_iload_n B 10 rfl 1 1 rfl rfl ?_
    obtain ⟨hx, hf⟩ := rdc_e hf
    refine z_zald B 11 rfl ob_3 hx ?_
    obtain ⟨v3, ex, hf⟩ := nm_x hf
    refine z_top ex ?_
    by_cases hc : v3 = 0
    · replace hf := (if_pos hc).symm.trans hf
      refine z_if_ne_f B 12 rfl 25 (by decide) hc ?_
      refine z_iconst 0 B 13 rfl (by decide) ?_
      cases hf
      exact z_iret B 14 rfl (by decide) hQ hr
    · replace hf := (if_neg hc).symm.trans hf
      refine z_if_ne_t B 12 rfl 25 (by decide) hc ?_
      refine z_iconst 0 B 15 rfl (by decide) ?_
      refine z_istore_n [(2, .int (0 : Int32)), (0, .ref 0), (1, .int a1)] B 16 rfl 2 rfl (by decide) rfl ?_
      refine z_sub [(0, .ref 0), (1, .int a1), (2, .int (0 : Int32))] [1, 2, 0] rfl ?_
      exact f7_back_l27_ok hj X B hQ hr FU _ _ _ hf
/-! ZoneCapacityModel.count(I)I -/
def tbX7_count : Tb := [(0, .aload_n 0, 1, 1), (1, .iconst 0, 1, 2), (2, .putfield 50, 3, 5), (5, .iload_n 1, 1, 6), (6, .bipush 10, 2, 8), (8, .bipush 13, 2, 10), (10, .invokestatic 54, 3, 13), (13, .ifCond .eq 15, 3, 16), (16, .aload_n 0, 1, 17), (17, .getfield 7, 3, 20), (20, .iconst 3, 1, 21), (21, .iload_n 1, 1, 22), (22, .iadd, 1, 23), (23, .bipush 10, 2, 25), (25, .isub, 1, 26), (26, .iaload, 1, 27), (27, .ireturn, 1, 28), (28, .iload_n 1, 1, 29), (29, .iconst 0, 1, 30), (30, .iconst 2, 1, 31), (31, .invokestatic 54, 3, 34), (34, .ifCond .eq 12, 3, 37), (37, .aload_n 0, 1, 38), (38, .getfield 7, 3, 41), (41, .iload_n 1, 1, 42), (42, .iaload, 1, 43), (43, .goto 16, 3, 46), (46, .iload_n 1, 1, 47), (47, .iconst 3, 1, 48), (48, .if_icmp .ne 10, 3, 51), (51, .aload_n 0, 1, 52), (52, .getfield 148, 3, 55), (55, .goto 4, 3, 58), (58, .iconst (-1), 1, 59), (59, .ireturn, 1, 60)]
theorem dtX7_count : ∀ q ∈ tbX7_count, decode cX7_count q.1 = .ok (q.2.1, q.2.2.1) ∧ q.1 + q.2.2.1 = q.2.2.2 := by decide +kernel
theorem miX7_count : MI yX7_count cX7_count 2 (some .int) 1 := ⟨tw_mem (List.mem_of_getElem? (i := 1106) (by decide +kernel)) rfl, by decide, by decide +kernel, tw_mem (List.mem_of_getElem? (i := 78) (by decide +kernel)) rfl⟩
abbrev rmX7_count : Room := { frames := 1, cells := 0, slots := 0, locals := 22 }
def wX7_count : List Cond := [.fieldLink "ZoneCapacityModel" 50 "ZoneCapacityModel" "raised" "I", .methodLink "ZoneCapacityModel" 54 yX7_in, .static yX7_in, .fieldLink "ZoneCapacityModel" 148 "ZoneCapacityModel" "taped" "I", .fieldLink "ZoneCapacityModel" 7 "ZoneCapacityModel" "w" "[I"]
theorem iX7_count : ∀ w ∈ wX7_count, w ∈ TW := tw_of (ids := [938, 1021, 1022, 953, 939]) (by decide +kernel)
def f7_count (mm : Mem) (a1 : Int32) : Option (Int32 × Mem) := nm (up2 mm 0 0 (0 : Int32)) (fun m1 => bd (f7_in m1 a1 (10 : Int32) (13 : Int32)) (fun r2 => if r2 = 0 then bd (f7_in m1 a1 (0 : Int32) (2 : Int32)) (fun r3 => if r3 = 0 then if a1 = (3 : Int32) then some (m1 0 15, m1) else some ((-1 : Int32), m1) else rdc 1 a1 (nm (m1 1 a1.toNatClampNeg) (fun v4 => some (v4, m1)))) else rdc 1 (((3 : Int32) + a1) - (10 : Int32)) (nm (m1 1 (((3 : Int32) + a1) - (10 : Int32)).toNatClampNeg) (fun v5 => some (v5, m1)))))
theorem ctX7_count {l : Launch} {C : Cfg} (hj : Dj C) {mm : Mem} {a1 : Int32} {x : (Int32 × Mem)} (hf : f7_count mm a1 = some x) : Ct l C yX7_count cX7_count 2 (some .int) 1 22 [.ref 0, .int a1] mm (some (.int x.1)) x.2 := by
  refine Ct.of (tb := tbX7_count) hj miX7_count.2.1 miX7_count.1 dtX7_count (Nat.le_of_ble_eq_true rfl) ?_
  intro E B hQ hr X
  unfold f7_count at hf
  show G E 2 0 [(0, .ref 0), (1, .int a1)] [] mm
  refine z_aload_n B 0 rfl 0 0 rfl rfl ?_
  refine z_iconst 0 B 1 rfl (by decide) ?_
  refine z_puti 7 0 0 B 2 rfl ob_0 rfl (iX7_count _ (List.mem_of_getElem? (i := 0) rfl)) rfl (ty := .int) (by decide) rfl rfl rfl ?_
  obtain ⟨m1, ex, hf⟩ := nm_x hf
  refine z_mem ex ?_
  refine z_iload_n B 3 rfl 1 1 rfl rfl ?_
  refine z_bipush 10 B 4 rfl (by decide) ?_
  refine z_bipush 13 B 5 rfl (by decide) ?_
  obtain ⟨r2, ec, hf⟩ := bd_e hf
  refine z_callS [.int a1, .int (10 : Int32), .int (13 : Int32)] [] [.int r2] X B 6 rfl miX7_in ⟨(iX7_count _ (List.mem_of_getElem? (i := 1) rfl)), (iX7_count _ (List.mem_of_getElem? (i := 2) rfl))⟩ (ctX7_in hj ec) ⟨Nat.le_of_ble_eq_true rfl, Nat.le_of_ble_eq_true rfl⟩ rfl rfl (Nat.le_of_ble_eq_true rfl) rfl ?_
  by_cases hc : r2 = 0
  · replace hf := (if_pos hc).symm.trans hf
    refine z_if_eq_t B 7 rfl 28 (by decide) hc ?_
    refine z_iload_n B 17 rfl 1 1 rfl rfl ?_
    refine z_iconst 0 B 18 rfl (by decide) ?_
    refine z_iconst 2 B 19 rfl (by decide) ?_
    obtain ⟨r3, ec, hf⟩ := bd_e hf
    refine z_callS [.int a1, .int (0 : Int32), .int (2 : Int32)] [] [.int r3] X B 20 rfl miX7_in ⟨(iX7_count _ (List.mem_of_getElem? (i := 1) rfl)), (iX7_count _ (List.mem_of_getElem? (i := 2) rfl))⟩ (ctX7_in hj ec) ⟨Nat.le_of_ble_eq_true rfl, Nat.le_of_ble_eq_true rfl⟩ rfl rfl (Nat.le_of_ble_eq_true rfl) rfl ?_
    by_cases hc : r3 = 0
    · replace hf := (if_pos hc).symm.trans hf
      refine z_if_eq_t B 21 rfl 46 (by decide) hc ?_
      refine z_iload_n B 27 rfl 1 1 rfl rfl ?_
      refine z_iconst 3 B 28 rfl (by decide) ?_
      by_cases hc : a1 = (3 : Int32)
      · replace hf := (if_pos hc).symm.trans hf
        refine z_icmp_ne_f B 29 rfl 58 (by decide) hc ?_
        refine z_aload_n B 30 rfl 0 0 rfl rfl ?_
        refine z_geti 7 15 0 B 31 rfl ob_0 rfl (iX7_count _ (List.mem_of_getElem? (i := 3) rfl)) rfl ?_
        refine z_goto B 32 rfl 59 (by decide) ?_
        cases hf
        exact z_iret B 34 rfl rfl hQ hr
      · replace hf := (if_neg hc).symm.trans hf
        refine z_icmp_ne_t B 29 rfl 58 (by decide) hc ?_
        refine z_iconst (-1) B 33 rfl (by decide) ?_
        cases hf
        exact z_iret B 34 rfl rfl hQ hr
    · replace hf := (if_neg hc).symm.trans hf
      refine z_if_eq_f B 21 rfl 46 (by decide) hc ?_
      refine z_aload_n B 22 rfl 0 0 rfl rfl ?_
      refine z_getr 7 1 0 B 23 rfl ob_0 rfl (iX7_count _ (List.mem_of_getElem? (i := 4) rfl)) rfl ?_
      refine z_iload_n B 24 rfl 1 1 rfl rfl ?_
      obtain ⟨hx, hf⟩ := rdc_e hf
      refine z_iald B 25 rfl ob_1 hx ?_
      obtain ⟨v4, ex, hf⟩ := nm_x hf
      refine z_top ex ?_
      refine z_goto B 26 rfl 59 (by decide) ?_
      cases hf
      exact z_iret B 34 rfl rfl hQ hr
  · replace hf := (if_neg hc).symm.trans hf
    refine z_if_eq_f B 7 rfl 28 (by decide) hc ?_
    refine z_aload_n B 8 rfl 0 0 rfl rfl ?_
    refine z_getr 7 1 0 B 9 rfl ob_0 rfl (iX7_count _ (List.mem_of_getElem? (i := 4) rfl)) rfl ?_
    refine z_iconst 3 B 10 rfl (by decide) ?_
    refine z_iload_n B 11 rfl 1 1 rfl rfl ?_
    refine z_iadd B 12 rfl ?_
    refine z_bipush 10 B 13 rfl (by decide) ?_
    refine z_isub B 14 rfl ?_
    obtain ⟨hx, hf⟩ := rdc_e hf
    refine z_iald B 15 rfl ob_1 hx ?_
    obtain ⟨v5, ex, hf⟩ := nm_x hf
    refine z_top ex ?_
    cases hf
    exact z_iret B 16 rfl rfl hQ hr
/-! ZoneCapacityModel.zoneOf(II)I -/
def tbX7_zoneOf : Tb := [(0, .aload_n 0, 1, 1), (1, .aload_n 0, 1, 2), (2, .iload_n 1, 1, 3), (3, .invokevirtual 117, 3, 6), (6, .ifCond .eq 16, 3, 9), (9, .iload_n 2, 1, 10), (10, .iconst 0, 1, 11), (11, .iconst 5, 1, 12), (12, .invokestatic 54, 3, 15), (15, .ifCond .eq 7, 3, 18), (18, .iconst 0, 1, 19), (19, .goto 4, 3, 22), (22, .iconst 1, 1, 23), (23, .putfield 50, 3, 26), (26, .aload_n 0, 1, 27), (27, .getfield 50, 3, 30), (30, .ifCond .le 5, 3, 33), (33, .iconst 0, 1, 34), (34, .ireturn, 1, 35), (35, .iload_n 2, 1, 36), (36, .iconst 4, 1, 37), (37, .if_icmp .ge 10, 3, 40), (40, .aload_n 0, 1, 41), (41, .iload_n 1, 1, 42), (42, .iload_n 2, 1, 43), (43, .invokevirtual 58, 3, 46), (46, .ireturn, 1, 47), (47, .iconst 0, 1, 48), (48, .istore_n 3, 1, 49), (49, .iconst 0, 1, 50), (50, .istore 4, 2, 52), (52, .iload 4, 2, 54), (54, .aload_n 0, 1, 55), (55, .getfield 7, 3, 58), (58, .iconst 1, 1, 59), (59, .iaload, 1, 60), (60, .if_icmp .ge 31, 3, 63), (63, .iload_n 3, 1, 64), (64, .aload_n 0, 1, 65), (65, .iload 4, 2, 67), (67, .iconst 0, 1, 68), (68, .invokevirtual 75, 3, 71), (71, .iload_n 1, 1, 72), (72, .if_icmp .ne 10, 3, 75), (75, .iconst 1, 1, 76), (76, .iload 4, 2, 78), (78, .ishl, 1, 79), (79, .goto 4, 3, 82), (82, .iconst 0, 1, 83), (83, .ior, 1, 84), (84, .istore_n 3, 1, 85), (85, .iinc 4 1, 3, 88), (88, .goto (-36), 3, 91), (91, .iload_n 2, 1, 92), (92, .iconst 4, 1, 93), (93, .if_icmp .ne 11, 3, 96), (96, .aload_n 0, 1, 97), (97, .iload_n 1, 1, 98), (98, .invokevirtual 68, 3, 101), (101, .goto 4, 3, 104), (104, .iload_n 3, 1, 105), (105, .ireturn, 1, 106)]
theorem dtX7_zoneOf : ∀ q ∈ tbX7_zoneOf, decode cX7_zoneOf q.1 = .ok (q.2.1, q.2.2.1) ∧ q.1 + q.2.2.1 = q.2.2.2 := by decide +kernel
theorem miX7_zoneOf : MI yX7_zoneOf cX7_zoneOf 5 (some .int) 2 := ⟨tw_mem (List.mem_of_getElem? (i := 1110) (by decide +kernel)) rfl, by decide, by decide +kernel, tw_mem (List.mem_of_getElem? (i := 78) (by decide +kernel)) rfl⟩
abbrev rmX7_zoneOf : Room := { frames := 2, cells := 0, slots := 0, locals := 43 }
def wX7_zoneOf : List Cond := [.methodLink "ZoneCapacityModel" 117 yX7_isZone, .instanceMethod yX7_isZone, .selects "ZoneCapacityModel" yX7_isZone yX7_isZone, .fieldLink "ZoneCapacityModel" 50 "ZoneCapacityModel" "raised" "I", .fieldLink "ZoneCapacityModel" 7 "ZoneCapacityModel" "w" "[I", .methodLink "ZoneCapacityModel" 68 yX7_wanted, .instanceMethod yX7_wanted, .selects "ZoneCapacityModel" yX7_wanted yX7_wanted, .methodLink "ZoneCapacityModel" 75 yX7_ofResource, .instanceMethod yX7_ofResource, .selects "ZoneCapacityModel" yX7_ofResource yX7_ofResource, .methodLink "ZoneCapacityModel" 58 yX7_ofZone, .instanceMethod yX7_ofZone, .selects "ZoneCapacityModel" yX7_ofZone yX7_ofZone, .methodLink "ZoneCapacityModel" 54 yX7_in, .static yX7_in]
theorem iX7_zoneOf : ∀ w ∈ wX7_zoneOf, w ∈ TW := tw_of (ids := [1017, 1019, 25, 938, 939, 1111, 1113, 38, 1067, 1069, 33, 1031, 1033, 26, 1021, 1022]) (by decide +kernel)
def f7_zoneOf_j83 (k52 : Int32 → Int32 → Int32 → Int32 → Mem → Option (Int32 × Mem)) (x1 : Int32) (x2 : Int32) (x4 : Int32) (s0 : Int32) (s1 : Int32) (mm : Mem) : Option (Int32 × Mem) := nm (s1 ||| s0) (fun v6 => nm (x4 + 1) (fun v7 => k52 x1 x2 v6 v7 mm))
theorem f7_zoneOf_j83_ok {E : Ev} {l : Launch} {C : Cfg} {x : (Int32 × Mem)} {k52 : Int32 → Int32 → Int32 → Int32 → Mem → Option (Int32 × Mem)} (hj : Dj C) (X : Ec E l C rmX7_zoneOf) (B : Bx E RX7 tbX7_zoneOf 5 (some .int)) (hQ : Rt E) (hr : Rs E (some (.int x.1)) x.2) (hk52 : ∀ (x1 : Int32) (x2 : Int32) (x3 : Int32) (x4 : Int32) (mm : Mem), k52 x1 x2 x3 x4 mm = some x → G E 5 52 [(0, .ref 0), (1, .int x1), (2, .int x2), (3, .int x3), (4, .int x4)] [] mm) (x1 : Int32) (x2 : Int32) (x4 : Int32) (s0 : Int32) (s1 : Int32) (mm : Mem) (hf : f7_zoneOf_j83 k52 x1 x2 x4 s0 s1 mm = some x) : G E 5 83 [(0, .ref 0), (1, .int x1), (2, .int x2), (4, .int x4)] [.int s0, .int s1] mm := by
  unfold f7_zoneOf_j83 at hf
  refine z_ior B 49 rfl ?_
  obtain ⟨v6, ex, hf⟩ := nm_x hf
  refine z_top ex ?_
  refine z_istore_n [(3, .int v6), (0, .ref 0), (1, .int x1), (2, .int x2), (4, .int x4)] B 50 rfl 3 rfl (by decide) rfl ?_
  obtain ⟨v7, ex, hf⟩ := nm_x hf
  refine z_iinc v7 [(4, .int v7), (3, .int v6), (0, .ref 0), (1, .int x1), (2, .int x2)] B 51 rfl 4 rfl (ex.symm) (by decide) rfl ?_
  refine z_goto B 52 rfl 52 (by decide) ?_
  refine z_sub [(0, .ref 0), (1, .int x1), (2, .int x2), (3, .int v6), (4, .int v7)] [2, 3, 4, 1, 0] rfl ?_
  exact hk52 _ _ _ _ _ hf
def f7_zoneOf_l52 : Nat → Int32 → Int32 → Int32 → Int32 → Mem → Option (Int32 × Mem)
  | 0, _, _, _, _, _ => none
  | n + 1, x1, x2, x3, x4, mm => rdc 1 (1 : Int32) (nm (mm 1 (1 : Int32).toNatClampNeg) (fun v3 => if x4 < v3 then bd (f7_ofResource mm x4 (0 : Int32)) (fun r5 => if r5 = x1 then f7_zoneOf_j83 (fun x1 x2 x3 x4 mm => f7_zoneOf_l52 n x1 x2 x3 x4 mm) x1 x2 x4 ((1 : Int32) <<< (x4 &&& 31)) x3 mm else f7_zoneOf_j83 (fun x1 x2 x3 x4 mm => f7_zoneOf_l52 n x1 x2 x3 x4 mm) x1 x2 x4 (0 : Int32) x3 mm) else if x2 = (4 : Int32) then bd (f7_wanted mm x1) (fun r4 => some (r4, mm)) else some (x3, mm)))
theorem f7_zoneOf_l52_ok {E : Ev} {l : Launch} {C : Cfg} {x : (Int32 × Mem)} (hj : Dj C) (X : Ec E l C rmX7_zoneOf) (B : Bx E RX7 tbX7_zoneOf 5 (some .int)) (hQ : Rt E) (hr : Rs E (some (.int x.1)) x.2) (n : Nat) : ∀ (x1 : Int32) (x2 : Int32) (x3 : Int32) (x4 : Int32) (mm : Mem), f7_zoneOf_l52 n x1 x2 x3 x4 mm = some x → G E 5 52 [(0, .ref 0), (1, .int x1), (2, .int x2), (3, .int x3), (4, .int x4)] [] mm := by
  induction n with
  | zero =>
    intro x1 x2 x3 x4 mm hf
    rw [f7_zoneOf_l52] at hf
    cases hf
  | succ n ih =>
    intro x1 x2 x3 x4 mm hf
    rw [f7_zoneOf_l52] at hf
    refine z_iload B 31 rfl 4 rfl ?_
    refine z_aload_n B 32 rfl 0 0 rfl rfl ?_
    refine z_getr 7 1 0 B 33 rfl ob_0 rfl (iX7_zoneOf _ (List.mem_of_getElem? (i := 4) rfl)) rfl ?_
    refine z_iconst 1 B 34 rfl (by decide) ?_
    obtain ⟨hx, hf⟩ := rdc_e hf
    refine z_iald B 35 rfl ob_1 hx ?_
    obtain ⟨v3, ex, hf⟩ := nm_x hf
    refine z_top ex ?_
    by_cases hc : x4 < v3
    · replace hf := (if_pos hc).symm.trans hf
      refine z_icmp_ge_f B 36 rfl 91 (by decide) hc ?_
      refine z_iload_n B 37 rfl 3 3 rfl rfl ?_
      refine z_aload_n B 38 rfl 0 0 rfl rfl ?_
      refine z_iload B 39 rfl 4 rfl ?_
      refine z_iconst 0 B 40 rfl (by decide) ?_
      obtain ⟨r5, ec, hf⟩ := bd_e hf
      refine z_callV 0 7 [.int x4, .int (0 : Int32)] [.int x3] [.int r5, .int x3] X B 41 rfl ob_0 rfl rfl miX7_ofResource ⟨(iX7_zoneOf _ (List.mem_of_getElem? (i := 8) rfl)), (iX7_zoneOf _ (List.mem_of_getElem? (i := 9) rfl)), (iX7_zoneOf _ (List.mem_of_getElem? (i := 10) rfl))⟩ (ctX7_ofResource hj ec) ⟨Nat.le_of_ble_eq_true rfl, Nat.le_of_ble_eq_true rfl⟩ rfl rfl (Nat.le_of_ble_eq_true rfl) rfl ?_
      refine z_iload_n B 42 rfl 1 1 rfl rfl ?_
      by_cases hc : r5 = x1
      · replace hf := (if_pos hc).symm.trans hf
        refine z_icmp_ne_f B 43 rfl 82 (by decide) hc ?_
        refine z_iconst 1 B 44 rfl (by decide) ?_
        refine z_iload B 45 rfl 4 rfl ?_
        refine z_ishl B 46 rfl ?_
        refine z_goto B 47 rfl 83 (by decide) ?_
        refine z_sub [(0, .ref 0), (1, .int x1), (2, .int x2), (4, .int x4)] [0, 1, 2, 4] rfl ?_
        exact f7_zoneOf_j83_ok hj X B hQ hr ih _ _ _ _ _ _ hf
      · replace hf := (if_neg hc).symm.trans hf
        refine z_icmp_ne_t B 43 rfl 82 (by decide) hc ?_
        refine z_iconst 0 B 48 rfl (by decide) ?_
        refine z_sub [(0, .ref 0), (1, .int x1), (2, .int x2), (4, .int x4)] [0, 1, 2, 4] rfl ?_
        exact f7_zoneOf_j83_ok hj X B hQ hr ih _ _ _ _ _ _ hf
    · replace hf := (if_neg hc).symm.trans hf
      refine z_icmp_ge_t B 36 rfl 91 (by decide) hc ?_
      refine z_iload_n B 53 rfl 2 2 rfl rfl ?_
      refine z_iconst 4 B 54 rfl (by decide) ?_
      by_cases hc : x2 = (4 : Int32)
      · replace hf := (if_pos hc).symm.trans hf
        refine z_icmp_ne_f B 55 rfl 104 (by decide) hc ?_
        refine z_aload_n B 56 rfl 0 0 rfl rfl ?_
        refine z_iload_n B 57 rfl 1 1 rfl rfl ?_
        obtain ⟨r4, ec, hf⟩ := bd_e hf
        refine z_callV 0 7 [.int x1] [] [.int r4] X B 58 rfl ob_0 rfl rfl miX7_wanted ⟨(iX7_zoneOf _ (List.mem_of_getElem? (i := 5) rfl)), (iX7_zoneOf _ (List.mem_of_getElem? (i := 6) rfl)), (iX7_zoneOf _ (List.mem_of_getElem? (i := 7) rfl))⟩ (ctX7_wanted hj ec) ⟨Nat.le_of_ble_eq_true rfl, Nat.le_of_ble_eq_true rfl⟩ rfl rfl (Nat.le_of_ble_eq_true rfl) rfl ?_
        refine z_goto B 59 rfl 105 (by decide) ?_
        cases hf
        exact z_iret B 61 rfl rfl hQ hr
      · replace hf := (if_neg hc).symm.trans hf
        refine z_icmp_ne_t B 55 rfl 104 (by decide) hc ?_
        refine z_iload_n B 60 rfl 3 3 rfl rfl ?_
        cases hf
        exact z_iret B 61 rfl rfl hQ hr
def f7_zoneOf_j23 (x1 : Int32) (x2 : Int32) (s0 : Int32) (mm : Mem) : Option (Int32 × Mem) := nm (up2 mm 0 0 s0) (fun m2 => if 0 < (m2 0 0) then some ((0 : Int32), m2) else if x2 < (4 : Int32) then bd (f7_ofZone m2 x1 x2) (fun r8 => some (r8, m2)) else f7_zoneOf_l52 FU x1 x2 (0 : Int32) (0 : Int32) m2)
theorem f7_zoneOf_j23_ok {E : Ev} {l : Launch} {C : Cfg} {x : (Int32 × Mem)} (hj : Dj C) (X : Ec E l C rmX7_zoneOf) (B : Bx E RX7 tbX7_zoneOf 5 (some .int)) (hQ : Rt E) (hr : Rs E (some (.int x.1)) x.2) (x1 : Int32) (x2 : Int32) (s0 : Int32) (mm : Mem) (hf : f7_zoneOf_j23 x1 x2 s0 mm = some x) : G E 5 23 [(0, .ref 0), (1, .int x1), (2, .int x2)] [.int s0, .ref 0] mm := by
  unfold f7_zoneOf_j23 at hf
  refine z_puti 7 0 0 B 13 rfl ob_0 rfl (iX7_zoneOf _ (List.mem_of_getElem? (i := 3) rfl)) rfl (ty := .int) (by decide) rfl rfl rfl ?_
  obtain ⟨m2, ex, hf⟩ := nm_x hf
  refine z_mem ex ?_
  refine z_aload_n B 14 rfl 0 0 rfl rfl ?_
  refine z_geti 7 0 0 B 15 rfl ob_0 rfl (iX7_zoneOf _ (List.mem_of_getElem? (i := 3) rfl)) rfl ?_
  by_cases hc : 0 < (m2 0 0)
  · replace hf := (if_pos hc).symm.trans hf
    refine z_if_le_f B 16 rfl 35 (by decide) hc ?_
    refine z_iconst 0 B 17 rfl (by decide) ?_
    cases hf
    exact z_iret B 18 rfl rfl hQ hr
  · replace hf := (if_neg hc).symm.trans hf
    refine z_if_le_t B 16 rfl 35 (by decide) hc ?_
    refine z_iload_n B 19 rfl 2 2 rfl rfl ?_
    refine z_iconst 4 B 20 rfl (by decide) ?_
    by_cases hc : x2 < (4 : Int32)
    · replace hf := (if_pos hc).symm.trans hf
      refine z_icmp_ge_f B 21 rfl 47 (by decide) hc ?_
      refine z_aload_n B 22 rfl 0 0 rfl rfl ?_
      refine z_iload_n B 23 rfl 1 1 rfl rfl ?_
      refine z_iload_n B 24 rfl 2 2 rfl rfl ?_
      obtain ⟨r8, ec, hf⟩ := bd_e hf
      refine z_callV 0 7 [.int x1, .int x2] [] [.int r8] X B 25 rfl ob_0 rfl rfl miX7_ofZone ⟨(iX7_zoneOf _ (List.mem_of_getElem? (i := 11) rfl)), (iX7_zoneOf _ (List.mem_of_getElem? (i := 12) rfl)), (iX7_zoneOf _ (List.mem_of_getElem? (i := 13) rfl))⟩ (ctX7_ofZone hj ec) ⟨Nat.le_of_ble_eq_true rfl, Nat.le_of_ble_eq_true rfl⟩ rfl rfl (Nat.le_of_ble_eq_true rfl) rfl ?_
      cases hf
      exact z_iret B 26 rfl rfl hQ hr
    · replace hf := (if_neg hc).symm.trans hf
      refine z_icmp_ge_t B 21 rfl 47 (by decide) hc ?_
      refine z_iconst 0 B 27 rfl (by decide) ?_
      refine z_istore_n [(3, .int (0 : Int32)), (0, .ref 0), (1, .int x1), (2, .int x2)] B 28 rfl 3 rfl (by decide) rfl ?_
      refine z_iconst 0 B 29 rfl (by decide) ?_
      refine z_istore [(4, .int (0 : Int32)), (3, .int (0 : Int32)), (0, .ref 0), (1, .int x1), (2, .int x2)] B 30 rfl (by decide) rfl ?_
      refine z_sub [(0, .ref 0), (1, .int x1), (2, .int x2), (3, .int (0 : Int32)), (4, .int (0 : Int32))] [2, 3, 4, 1, 0] rfl ?_
      exact f7_zoneOf_l52_ok hj X B hQ hr FU _ _ _ _ _ hf
def f7_zoneOf_j22 (x1 : Int32) (x2 : Int32) (mm : Mem) : Option (Int32 × Mem) := f7_zoneOf_j23 x1 x2 (1 : Int32) mm
theorem f7_zoneOf_j22_ok {E : Ev} {l : Launch} {C : Cfg} {x : (Int32 × Mem)} (hj : Dj C) (X : Ec E l C rmX7_zoneOf) (B : Bx E RX7 tbX7_zoneOf 5 (some .int)) (hQ : Rt E) (hr : Rs E (some (.int x.1)) x.2) (x1 : Int32) (x2 : Int32) (mm : Mem) (hf : f7_zoneOf_j22 x1 x2 mm = some x) : G E 5 22 [(0, .ref 0), (1, .int x1), (2, .int x2)] [.ref 0] mm := by
  unfold f7_zoneOf_j22 at hf
  refine z_iconst 1 B 12 rfl (by decide) ?_
  exact f7_zoneOf_j23_ok hj X B hQ hr _ _ _ _ hf
def f7_zoneOf (mm : Mem) (a1 : Int32) (a2 : Int32) : Option (Int32 × Mem) := bd (f7_isZone mm a1) (fun r1 => if r1 = 0 then f7_zoneOf_j22 a1 a2 mm else bd (f7_in mm a2 (0 : Int32) (5 : Int32)) (fun r9 => if r9 = 0 then f7_zoneOf_j22 a1 a2 mm else f7_zoneOf_j23 a1 a2 (0 : Int32) mm))
theorem ctX7_zoneOf {l : Launch} {C : Cfg} (hj : Dj C) {mm : Mem} {a1 : Int32} {a2 : Int32} {x : (Int32 × Mem)} (hf : f7_zoneOf mm a1 a2 = some x) : Ct l C yX7_zoneOf cX7_zoneOf 5 (some .int) 2 43 [.ref 0, .int a1, .int a2] mm (some (.int x.1)) x.2 := by
  refine Ct.of (tb := tbX7_zoneOf) hj miX7_zoneOf.2.1 miX7_zoneOf.1 dtX7_zoneOf (Nat.le_of_ble_eq_true rfl) ?_
  intro E B hQ hr X
  unfold f7_zoneOf at hf
  show G E 5 0 [(0, .ref 0), (1, .int a1), (2, .int a2)] [] mm
  refine z_aload_n B 0 rfl 0 0 rfl rfl ?_
  refine z_aload_n B 1 rfl 0 0 rfl rfl ?_
  refine z_iload_n B 2 rfl 1 1 rfl rfl ?_
  obtain ⟨r1, ec, hf⟩ := bd_e hf
  refine z_callV 0 7 [.int a1] [.ref 0] [.int r1, .ref 0] X B 3 rfl ob_0 rfl rfl miX7_isZone ⟨(iX7_zoneOf _ (List.mem_of_getElem? (i := 0) rfl)), (iX7_zoneOf _ (List.mem_of_getElem? (i := 1) rfl)), (iX7_zoneOf _ (List.mem_of_getElem? (i := 2) rfl))⟩ (ctX7_isZone hj ec) ⟨Nat.le_of_ble_eq_true rfl, Nat.le_of_ble_eq_true rfl⟩ rfl rfl (Nat.le_of_ble_eq_true rfl) rfl ?_
  by_cases hc : r1 = 0
  · replace hf := (if_pos hc).symm.trans hf
    refine z_if_eq_t B 4 rfl 22 (by decide) hc ?_
    exact f7_zoneOf_j22_ok hj X B hQ hr _ _ _ hf
  · replace hf := (if_neg hc).symm.trans hf
    refine z_if_eq_f B 4 rfl 22 (by decide) hc ?_
    refine z_iload_n B 5 rfl 2 2 rfl rfl ?_
    refine z_iconst 0 B 6 rfl (by decide) ?_
    refine z_iconst 5 B 7 rfl (by decide) ?_
    obtain ⟨r9, ec, hf⟩ := bd_e hf
    refine z_callS [.int a2, .int (0 : Int32), .int (5 : Int32)] [.ref 0] [.int r9, .ref 0] X B 8 rfl miX7_in ⟨(iX7_zoneOf _ (List.mem_of_getElem? (i := 14) rfl)), (iX7_zoneOf _ (List.mem_of_getElem? (i := 15) rfl))⟩ (ctX7_in hj ec) ⟨Nat.le_of_ble_eq_true rfl, Nat.le_of_ble_eq_true rfl⟩ rfl rfl (Nat.le_of_ble_eq_true rfl) rfl ?_
    by_cases hc : r9 = 0
    · replace hf := (if_pos hc).symm.trans hf
      refine z_if_eq_t B 9 rfl 22 (by decide) hc ?_
      exact f7_zoneOf_j22_ok hj X B hQ hr _ _ _ hf
    · replace hf := (if_neg hc).symm.trans hf
      refine z_if_eq_f B 9 rfl 22 (by decide) hc ?_
      refine z_iconst 0 B 10 rfl (by decide) ?_
      refine z_goto B 11 rfl 23 (by decide) ?_
      exact f7_zoneOf_j23_ok hj X B hQ hr _ _ _ _ hf
/-! ZoneCapacityModel.resourceOf(II)I -/
def tbX7_resourceOf : Tb := [(0, .aload_n 0, 1, 1), (1, .aload_n 0, 1, 2), (2, .iload_n 1, 1, 3), (3, .invokevirtual 135, 3, 6), (6, .ifCond .eq 17, 3, 9), (9, .iload_n 2, 1, 10), (10, .iconst 0, 1, 11), (11, .bipush 6, 2, 13), (13, .invokestatic 54, 3, 16), (16, .ifCond .eq 7, 3, 19), (19, .iconst 0, 1, 20), (20, .goto 4, 3, 23), (23, .iconst 1, 1, 24), (24, .putfield 50, 3, 27), (27, .aload_n 0, 1, 28), (28, .getfield 50, 3, 31), (31, .ifCond .le 7, 3, 34), (34, .iconst 0, 1, 35), (35, .goto 9, 3, 38), (38, .aload_n 0, 1, 39), (39, .iload_n 1, 1, 40), (40, .iload_n 2, 1, 41), (41, .invokevirtual 75, 3, 44), (44, .ireturn, 1, 45)]
theorem dtX7_resourceOf : ∀ q ∈ tbX7_resourceOf, decode cX7_resourceOf q.1 = .ok (q.2.1, q.2.2.1) ∧ q.1 + q.2.2.1 = q.2.2.2 := by decide +kernel
theorem miX7_resourceOf : MI yX7_resourceOf cX7_resourceOf 3 (some .int) 2 := ⟨tw_mem (List.mem_of_getElem? (i := 1118) (by decide +kernel)) rfl, by decide, by decide +kernel, tw_mem (List.mem_of_getElem? (i := 78) (by decide +kernel)) rfl⟩
abbrev rmX7_resourceOf : Room := { frames := 2, cells := 0, slots := 0, locals := 43 }
def wX7_resourceOf : List Cond := [.methodLink "ZoneCapacityModel" 135 yX7_isResource, .instanceMethod yX7_isResource, .selects "ZoneCapacityModel" yX7_isResource yX7_isResource, .fieldLink "ZoneCapacityModel" 50 "ZoneCapacityModel" "raised" "I", .methodLink "ZoneCapacityModel" 75 yX7_ofResource, .instanceMethod yX7_ofResource, .selects "ZoneCapacityModel" yX7_ofResource yX7_ofResource, .methodLink "ZoneCapacityModel" 54 yX7_in, .static yX7_in]
theorem iX7_resourceOf : ∀ w ∈ wX7_resourceOf, w ∈ TW := tw_of (ids := [1063, 1065, 32, 938, 1067, 1069, 33, 1021, 1022]) (by decide +kernel)
def f7_resourceOf_j24 (x1 : Int32) (x2 : Int32) (s0 : Int32) (mm : Mem) : Option (Int32 × Mem) := nm (up2 mm 0 0 s0) (fun m2 => if 0 < (m2 0 0) then some ((0 : Int32), m2) else bd (f7_ofResource m2 x1 x2) (fun r3 => some (r3, m2)))
theorem f7_resourceOf_j24_ok {E : Ev} {l : Launch} {C : Cfg} {x : (Int32 × Mem)} (hj : Dj C) (X : Ec E l C rmX7_resourceOf) (B : Bx E RX7 tbX7_resourceOf 3 (some .int)) (hQ : Rt E) (hr : Rs E (some (.int x.1)) x.2) (x1 : Int32) (x2 : Int32) (s0 : Int32) (mm : Mem) (hf : f7_resourceOf_j24 x1 x2 s0 mm = some x) : G E 3 24 [(0, .ref 0), (1, .int x1), (2, .int x2)] [.int s0, .ref 0] mm := by
  unfold f7_resourceOf_j24 at hf
  refine z_puti 7 0 0 B 13 rfl ob_0 rfl (iX7_resourceOf _ (List.mem_of_getElem? (i := 3) rfl)) rfl (ty := .int) (by decide) rfl rfl rfl ?_
  obtain ⟨m2, ex, hf⟩ := nm_x hf
  refine z_mem ex ?_
  refine z_aload_n B 14 rfl 0 0 rfl rfl ?_
  refine z_geti 7 0 0 B 15 rfl ob_0 rfl (iX7_resourceOf _ (List.mem_of_getElem? (i := 3) rfl)) rfl ?_
  by_cases hc : 0 < (m2 0 0)
  · replace hf := (if_pos hc).symm.trans hf
    refine z_if_le_f B 16 rfl 38 (by decide) hc ?_
    refine z_iconst 0 B 17 rfl (by decide) ?_
    refine z_goto B 18 rfl 44 (by decide) ?_
    cases hf
    exact z_iret B 23 rfl rfl hQ hr
  · replace hf := (if_neg hc).symm.trans hf
    refine z_if_le_t B 16 rfl 38 (by decide) hc ?_
    refine z_aload_n B 19 rfl 0 0 rfl rfl ?_
    refine z_iload_n B 20 rfl 1 1 rfl rfl ?_
    refine z_iload_n B 21 rfl 2 2 rfl rfl ?_
    obtain ⟨r3, ec, hf⟩ := bd_e hf
    refine z_callV 0 7 [.int x1, .int x2] [] [.int r3] X B 22 rfl ob_0 rfl rfl miX7_ofResource ⟨(iX7_resourceOf _ (List.mem_of_getElem? (i := 4) rfl)), (iX7_resourceOf _ (List.mem_of_getElem? (i := 5) rfl)), (iX7_resourceOf _ (List.mem_of_getElem? (i := 6) rfl))⟩ (ctX7_ofResource hj ec) ⟨Nat.le_of_ble_eq_true rfl, Nat.le_of_ble_eq_true rfl⟩ rfl rfl (Nat.le_of_ble_eq_true rfl) rfl ?_
    cases hf
    exact z_iret B 23 rfl rfl hQ hr
def f7_resourceOf_j23 (x1 : Int32) (x2 : Int32) (mm : Mem) : Option (Int32 × Mem) := f7_resourceOf_j24 x1 x2 (1 : Int32) mm
theorem f7_resourceOf_j23_ok {E : Ev} {l : Launch} {C : Cfg} {x : (Int32 × Mem)} (hj : Dj C) (X : Ec E l C rmX7_resourceOf) (B : Bx E RX7 tbX7_resourceOf 3 (some .int)) (hQ : Rt E) (hr : Rs E (some (.int x.1)) x.2) (x1 : Int32) (x2 : Int32) (mm : Mem) (hf : f7_resourceOf_j23 x1 x2 mm = some x) : G E 3 23 [(0, .ref 0), (1, .int x1), (2, .int x2)] [.ref 0] mm := by
  unfold f7_resourceOf_j23 at hf
  refine z_iconst 1 B 12 rfl (by decide) ?_
  exact f7_resourceOf_j24_ok hj X B hQ hr _ _ _ _ hf
def f7_resourceOf (mm : Mem) (a1 : Int32) (a2 : Int32) : Option (Int32 × Mem) := bd (f7_isResource mm a1) (fun r1 => if r1 = 0 then f7_resourceOf_j23 a1 a2 mm else bd (f7_in mm a2 (0 : Int32) (6 : Int32)) (fun r4 => if r4 = 0 then f7_resourceOf_j23 a1 a2 mm else f7_resourceOf_j24 a1 a2 (0 : Int32) mm))
theorem ctX7_resourceOf {l : Launch} {C : Cfg} (hj : Dj C) {mm : Mem} {a1 : Int32} {a2 : Int32} {x : (Int32 × Mem)} (hf : f7_resourceOf mm a1 a2 = some x) : Ct l C yX7_resourceOf cX7_resourceOf 3 (some .int) 2 43 [.ref 0, .int a1, .int a2] mm (some (.int x.1)) x.2 := by
  refine Ct.of (tb := tbX7_resourceOf) hj miX7_resourceOf.2.1 miX7_resourceOf.1 dtX7_resourceOf (Nat.le_of_ble_eq_true rfl) ?_
  intro E B hQ hr X
  unfold f7_resourceOf at hf
  show G E 3 0 [(0, .ref 0), (1, .int a1), (2, .int a2)] [] mm
  refine z_aload_n B 0 rfl 0 0 rfl rfl ?_
  refine z_aload_n B 1 rfl 0 0 rfl rfl ?_
  refine z_iload_n B 2 rfl 1 1 rfl rfl ?_
  obtain ⟨r1, ec, hf⟩ := bd_e hf
  refine z_callV 0 7 [.int a1] [.ref 0] [.int r1, .ref 0] X B 3 rfl ob_0 rfl rfl miX7_isResource ⟨(iX7_resourceOf _ (List.mem_of_getElem? (i := 0) rfl)), (iX7_resourceOf _ (List.mem_of_getElem? (i := 1) rfl)), (iX7_resourceOf _ (List.mem_of_getElem? (i := 2) rfl))⟩ (ctX7_isResource hj ec) ⟨Nat.le_of_ble_eq_true rfl, Nat.le_of_ble_eq_true rfl⟩ rfl rfl (Nat.le_of_ble_eq_true rfl) rfl ?_
  by_cases hc : r1 = 0
  · replace hf := (if_pos hc).symm.trans hf
    refine z_if_eq_t B 4 rfl 23 (by decide) hc ?_
    exact f7_resourceOf_j23_ok hj X B hQ hr _ _ _ hf
  · replace hf := (if_neg hc).symm.trans hf
    refine z_if_eq_f B 4 rfl 23 (by decide) hc ?_
    refine z_iload_n B 5 rfl 2 2 rfl rfl ?_
    refine z_iconst 0 B 6 rfl (by decide) ?_
    refine z_bipush 6 B 7 rfl (by decide) ?_
    obtain ⟨r4, ec, hf⟩ := bd_e hf
    refine z_callS [.int a2, .int (0 : Int32), .int (6 : Int32)] [.ref 0] [.int r4, .ref 0] X B 8 rfl miX7_in ⟨(iX7_resourceOf _ (List.mem_of_getElem? (i := 7) rfl)), (iX7_resourceOf _ (List.mem_of_getElem? (i := 8) rfl))⟩ (ctX7_in hj ec) ⟨Nat.le_of_ble_eq_true rfl, Nat.le_of_ble_eq_true rfl⟩ rfl rfl (Nat.le_of_ble_eq_true rfl) rfl ?_
    by_cases hc : r4 = 0
    · replace hf := (if_pos hc).symm.trans hf
      refine z_if_eq_t B 9 rfl 23 (by decide) hc ?_
      exact f7_resourceOf_j23_ok hj X B hQ hr _ _ _ hf
    · replace hf := (if_neg hc).symm.trans hf
      refine z_if_eq_f B 9 rfl 23 (by decide) hc ?_
      refine z_iconst 0 B 10 rfl (by decide) ?_
      refine z_goto B 11 rfl 24 (by decide) ?_
      exact f7_resourceOf_j24_ok hj X B hQ hr _ _ _ _ hf
/-! ZoneCapacityModel.line(IIZ)I -/
def tbX7_line : Tb := [(0, .aload_n 0, 1, 1), (1, .iconst 0, 1, 2), (2, .putfield 50, 3, 5), (5, .aload_n 0, 1, 6), (6, .iconst 0, 1, 7), (7, .putfield 78, 3, 10), (10, .aload_n 0, 1, 11), (11, .iload_n 1, 1, 12), (12, .invokevirtual 135, 3, 15), (15, .ifCond .eq 12, 3, 18), (18, .aload_n 0, 1, 19), (19, .iload_n 1, 1, 20), (20, .iload_n 2, 1, 21), (21, .invokevirtual 151, 3, 24), (24, .ifCond .ne 5, 3, 27), (27, .iconst (-1), 1, 28), (28, .ireturn, 1, 29), (29, .iload_n 3, 1, 30), (30, .ifCond .eq 12, 3, 33), (33, .aload_n 0, 1, 34), (34, .iload_n 1, 1, 35), (35, .iload_n 2, 1, 36), (36, .invokevirtual 88, 3, 39), (39, .goto 9, 3, 42), (42, .aload_n 0, 1, 43), (43, .iload_n 1, 1, 44), (44, .iload_n 2, 1, 45), (45, .invokevirtual 82, 3, 48), (48, .ireturn, 1, 49)]
theorem dtX7_line : ∀ q ∈ tbX7_line, decode cX7_line q.1 = .ok (q.2.1, q.2.2.1) ∧ q.1 + q.2.2.1 = q.2.2.2 := by decide +kernel
theorem miX7_line : MI yX7_line cX7_line 4 (some .int) 3 := ⟨tw_mem (List.mem_of_getElem? (i := 1122) (by decide +kernel)) rfl, by decide, by decide +kernel, tw_mem (List.mem_of_getElem? (i := 78) (by decide +kernel)) rfl⟩
abbrev rmX7_line : Room := { frames := 3, cells := 0, slots := 0, locals := 69 }
def wX7_line : List Cond := [.fieldLink "ZoneCapacityModel" 50 "ZoneCapacityModel" "raised" "I", .fieldLink "ZoneCapacityModel" 78 "ZoneCapacityModel" "noFloors" "Z", .methodLink "ZoneCapacityModel" 135 yX7_isResource, .instanceMethod yX7_isResource, .selects "ZoneCapacityModel" yX7_isResource yX7_isResource, .methodLink "ZoneCapacityModel" 151 yX7_isLine, .instanceMethod yX7_isLine, .selects "ZoneCapacityModel" yX7_isLine yX7_isLine, .methodLink "ZoneCapacityModel" 82 yX7_lineUnits, .instanceMethod yX7_lineUnits, .selects "ZoneCapacityModel" yX7_lineUnits yX7_lineUnits, .methodLink "ZoneCapacityModel" 88 yX7_lineIts, .instanceMethod yX7_lineIts, .selects "ZoneCapacityModel" yX7_lineIts yX7_lineIts]
theorem iX7_line : ∀ w ∈ wX7_line, w ∈ TW := tw_of (ids := [938, 944, 1063, 1065, 32, 1123, 1125, 39, 1075, 1077, 35, 1127, 1129, 40]) (by decide +kernel)
def f7_line (mm : Mem) (a1 : Int32) (a2 : Int32) (a3 : Int32) : Option (Int32 × Mem) := nm (up2 mm 0 0 (0 : Int32)) (fun m1 => nm (up2 m1 0 6 (0 : Int32)) (fun m2 => bd (f7_isResource m2 a1) (fun r3 => if r3 = 0 then some ((-1 : Int32), m2) else bd (f7_isLine m2 a1 a2) (fun r4 => if r4 = 0 then some ((-1 : Int32), m2) else if a3 = 0 then bd (f7_lineUnits m2 a1 a2) (fun r5 => some (r5, m2)) else bd (f7_lineIts m2 a1 a2) (fun r6 => some (r6, m2))))))
theorem ctX7_line {l : Launch} {C : Cfg} (hj : Dj C) {mm : Mem} {a1 : Int32} {a2 : Int32} {a3 : Int32} {x : (Int32 × Mem)} (hf : f7_line mm a1 a2 a3 = some x) : Ct l C yX7_line cX7_line 4 (some .int) 3 69 [.ref 0, .int a1, .int a2, .int a3] mm (some (.int x.1)) x.2 := by
  refine Ct.of (tb := tbX7_line) hj miX7_line.2.1 miX7_line.1 dtX7_line (Nat.le_of_ble_eq_true rfl) ?_
  intro E B hQ hr X
  unfold f7_line at hf
  show G E 4 0 [(0, .ref 0), (1, .int a1), (2, .int a2), (3, .int a3)] [] mm
  refine z_aload_n B 0 rfl 0 0 rfl rfl ?_
  refine z_iconst 0 B 1 rfl (by decide) ?_
  refine z_puti 7 0 0 B 2 rfl ob_0 rfl (iX7_line _ (List.mem_of_getElem? (i := 0) rfl)) rfl (ty := .int) (by decide) rfl rfl rfl ?_
  obtain ⟨m1, ex, hf⟩ := nm_x hf
  refine z_mem ex ?_
  refine z_aload_n B 3 rfl 0 0 rfl rfl ?_
  refine z_iconst 0 B 4 rfl (by decide) ?_
  refine z_puti 7 6 0 B 5 rfl ob_0 rfl (iX7_line _ (List.mem_of_getElem? (i := 1) rfl)) rfl (ty := .boolean) (by decide) rfl (by decide) (by decide) ?_
  obtain ⟨m2, ex, hf⟩ := nm_x hf
  refine z_mem ex ?_
  refine z_aload_n B 6 rfl 0 0 rfl rfl ?_
  refine z_iload_n B 7 rfl 1 1 rfl rfl ?_
  obtain ⟨r3, ec, hf⟩ := bd_e hf
  refine z_callV 0 7 [.int a1] [] [.int r3] X B 8 rfl ob_0 rfl rfl miX7_isResource ⟨(iX7_line _ (List.mem_of_getElem? (i := 2) rfl)), (iX7_line _ (List.mem_of_getElem? (i := 3) rfl)), (iX7_line _ (List.mem_of_getElem? (i := 4) rfl))⟩ (ctX7_isResource hj ec) ⟨Nat.le_of_ble_eq_true rfl, Nat.le_of_ble_eq_true rfl⟩ rfl rfl (Nat.le_of_ble_eq_true rfl) rfl ?_
  by_cases hc : r3 = 0
  · replace hf := (if_pos hc).symm.trans hf
    refine z_if_eq_t B 9 rfl 27 (by decide) hc ?_
    refine z_iconst (-1) B 15 rfl (by decide) ?_
    cases hf
    exact z_iret B 16 rfl rfl hQ hr
  · replace hf := (if_neg hc).symm.trans hf
    refine z_if_eq_f B 9 rfl 27 (by decide) hc ?_
    refine z_aload_n B 10 rfl 0 0 rfl rfl ?_
    refine z_iload_n B 11 rfl 1 1 rfl rfl ?_
    refine z_iload_n B 12 rfl 2 2 rfl rfl ?_
    obtain ⟨r4, ec, hf⟩ := bd_e hf
    refine z_callV 0 7 [.int a1, .int a2] [] [.int r4] X B 13 rfl ob_0 rfl rfl miX7_isLine ⟨(iX7_line _ (List.mem_of_getElem? (i := 5) rfl)), (iX7_line _ (List.mem_of_getElem? (i := 6) rfl)), (iX7_line _ (List.mem_of_getElem? (i := 7) rfl))⟩ (ctX7_isLine hj ec) ⟨Nat.le_of_ble_eq_true rfl, Nat.le_of_ble_eq_true rfl⟩ rfl rfl (Nat.le_of_ble_eq_true rfl) rfl ?_
    by_cases hc : r4 = 0
    · replace hf := (if_pos hc).symm.trans hf
      refine z_if_ne_f B 14 rfl 29 (by decide) hc ?_
      refine z_iconst (-1) B 15 rfl (by decide) ?_
      cases hf
      exact z_iret B 16 rfl rfl hQ hr
    · replace hf := (if_neg hc).symm.trans hf
      refine z_if_ne_t B 14 rfl 29 (by decide) hc ?_
      refine z_iload_n B 17 rfl 3 3 rfl rfl ?_
      by_cases hc : a3 = 0
      · replace hf := (if_pos hc).symm.trans hf
        refine z_if_eq_t B 18 rfl 42 (by decide) hc ?_
        refine z_aload_n B 24 rfl 0 0 rfl rfl ?_
        refine z_iload_n B 25 rfl 1 1 rfl rfl ?_
        refine z_iload_n B 26 rfl 2 2 rfl rfl ?_
        obtain ⟨r5, ec, hf⟩ := bd_e hf
        refine z_callV 0 7 [.int a1, .int a2] [] [.int r5] X B 27 rfl ob_0 rfl rfl miX7_lineUnits ⟨(iX7_line _ (List.mem_of_getElem? (i := 8) rfl)), (iX7_line _ (List.mem_of_getElem? (i := 9) rfl)), (iX7_line _ (List.mem_of_getElem? (i := 10) rfl))⟩ (ctX7_lineUnits hj ec) ⟨Nat.le_of_ble_eq_true rfl, Nat.le_of_ble_eq_true rfl⟩ rfl rfl (Nat.le_of_ble_eq_true rfl) rfl ?_
        cases hf
        exact z_iret B 28 rfl rfl hQ hr
      · replace hf := (if_neg hc).symm.trans hf
        refine z_if_eq_f B 18 rfl 42 (by decide) hc ?_
        refine z_aload_n B 19 rfl 0 0 rfl rfl ?_
        refine z_iload_n B 20 rfl 1 1 rfl rfl ?_
        refine z_iload_n B 21 rfl 2 2 rfl rfl ?_
        obtain ⟨r6, ec, hf⟩ := bd_e hf
        refine z_callV 0 7 [.int a1, .int a2] [] [.int r6] X B 22 rfl ob_0 rfl rfl miX7_lineIts ⟨(iX7_line _ (List.mem_of_getElem? (i := 11) rfl)), (iX7_line _ (List.mem_of_getElem? (i := 12) rfl)), (iX7_line _ (List.mem_of_getElem? (i := 13) rfl))⟩ (ctX7_lineIts hj ec) ⟨Nat.le_of_ble_eq_true rfl, Nat.le_of_ble_eq_true rfl⟩ rfl rfl (Nat.le_of_ble_eq_true rfl) rfl ?_
        refine z_goto B 23 rfl 48 (by decide) ?_
        cases hf
        exact z_iret B 28 rfl rfl hQ hr
/-! ZoneCapacityModel.worth(II)I -/
def tbX7_worth : Tb := [(0, .aload_n 0, 1, 1), (1, .iconst 0, 1, 2), (2, .putfield 50, 3, 5), (5, .aload_n 0, 1, 6), (6, .iload_n 1, 1, 7), (7, .invokevirtual 117, 3, 10), (10, .ifCond .eq 12, 3, 13), (13, .aload_n 0, 1, 14), (14, .iload_n 1, 1, 15), (15, .iload_n 2, 1, 16), (16, .invokevirtual 72, 3, 19), (19, .goto 4, 3, 22), (22, .iconst (-1), 1, 23), (23, .ireturn, 1, 24)]
theorem dtX7_worth : ∀ q ∈ tbX7_worth, decode cX7_worth q.1 = .ok (q.2.1, q.2.2.1) ∧ q.1 + q.2.2.1 = q.2.2.2 := by decide +kernel
theorem miX7_worth : MI yX7_worth cX7_worth 3 (some .int) 2 := ⟨tw_mem (List.mem_of_getElem? (i := 1134) (by decide +kernel)) rfl, by decide, by decide +kernel, tw_mem (List.mem_of_getElem? (i := 78) (by decide +kernel)) rfl⟩
abbrev rmX7_worth : Room := { frames := 2, cells := 0, slots := 0, locals := 48 }
def wX7_worth : List Cond := [.fieldLink "ZoneCapacityModel" 50 "ZoneCapacityModel" "raised" "I", .methodLink "ZoneCapacityModel" 117 yX7_isZone, .instanceMethod yX7_isZone, .selects "ZoneCapacityModel" yX7_isZone yX7_isZone, .methodLink "ZoneCapacityModel" 72 yX7_worthOf, .instanceMethod yX7_worthOf, .selects "ZoneCapacityModel" yX7_worthOf yX7_worthOf]
theorem iX7_worth : ∀ w ∈ wX7_worth, w ∈ TW := tw_of (ids := [938, 1017, 1019, 25, 1135, 1137, 41]) (by decide +kernel)
def f7_worth (mm : Mem) (a1 : Int32) (a2 : Int32) : Option (Int32 × Mem) := nm (up2 mm 0 0 (0 : Int32)) (fun m1 => bd (f7_isZone m1 a1) (fun r2 => if r2 = 0 then some ((-1 : Int32), m1) else bd (f7_worthOf m1 a1 a2) (fun r3 => some (r3, m1))))
theorem ctX7_worth {l : Launch} {C : Cfg} (hj : Dj C) {mm : Mem} {a1 : Int32} {a2 : Int32} {x : (Int32 × Mem)} (hf : f7_worth mm a1 a2 = some x) : Ct l C yX7_worth cX7_worth 3 (some .int) 2 48 [.ref 0, .int a1, .int a2] mm (some (.int x.1)) x.2 := by
  refine Ct.of (tb := tbX7_worth) hj miX7_worth.2.1 miX7_worth.1 dtX7_worth (Nat.le_of_ble_eq_true rfl) ?_
  intro E B hQ hr X
  unfold f7_worth at hf
  show G E 3 0 [(0, .ref 0), (1, .int a1), (2, .int a2)] [] mm
  refine z_aload_n B 0 rfl 0 0 rfl rfl ?_
  refine z_iconst 0 B 1 rfl (by decide) ?_
  refine z_puti 7 0 0 B 2 rfl ob_0 rfl (iX7_worth _ (List.mem_of_getElem? (i := 0) rfl)) rfl (ty := .int) (by decide) rfl rfl rfl ?_
  obtain ⟨m1, ex, hf⟩ := nm_x hf
  refine z_mem ex ?_
  refine z_aload_n B 3 rfl 0 0 rfl rfl ?_
  refine z_iload_n B 4 rfl 1 1 rfl rfl ?_
  obtain ⟨r2, ec, hf⟩ := bd_e hf
  refine z_callV 0 7 [.int a1] [] [.int r2] X B 5 rfl ob_0 rfl rfl miX7_isZone ⟨(iX7_worth _ (List.mem_of_getElem? (i := 1) rfl)), (iX7_worth _ (List.mem_of_getElem? (i := 2) rfl)), (iX7_worth _ (List.mem_of_getElem? (i := 3) rfl))⟩ (ctX7_isZone hj ec) ⟨Nat.le_of_ble_eq_true rfl, Nat.le_of_ble_eq_true rfl⟩ rfl rfl (Nat.le_of_ble_eq_true rfl) rfl ?_
  by_cases hc : r2 = 0
  · replace hf := (if_pos hc).symm.trans hf
    refine z_if_eq_t B 6 rfl 22 (by decide) hc ?_
    refine z_iconst (-1) B 12 rfl (by decide) ?_
    cases hf
    exact z_iret B 13 rfl rfl hQ hr
  · replace hf := (if_neg hc).symm.trans hf
    refine z_if_eq_f B 6 rfl 22 (by decide) hc ?_
    refine z_aload_n B 7 rfl 0 0 rfl rfl ?_
    refine z_iload_n B 8 rfl 1 1 rfl rfl ?_
    refine z_iload_n B 9 rfl 2 2 rfl rfl ?_
    obtain ⟨r3, ec, hf⟩ := bd_e hf
    refine z_callV 0 7 [.int a1, .int a2] [] [.int r3] X B 10 rfl ob_0 rfl rfl miX7_worthOf ⟨(iX7_worth _ (List.mem_of_getElem? (i := 4) rfl)), (iX7_worth _ (List.mem_of_getElem? (i := 5) rfl)), (iX7_worth _ (List.mem_of_getElem? (i := 6) rfl))⟩ (ctX7_worthOf hj ec) ⟨Nat.le_of_ble_eq_true rfl, Nat.le_of_ble_eq_true rfl⟩ rfl rfl (Nat.le_of_ble_eq_true rfl) rfl ?_
    refine z_goto B 11 rfl 23 (by decide) ?_
    cases hf
    exact z_iret B 13 rfl rfl hQ hr
/-! ZoneCapacityModel.wants(II)I -/
def tbX7_wants : Tb := [(0, .aload_n 0, 1, 1), (1, .iconst 0, 1, 2), (2, .putfield 50, 3, 5), (5, .aload_n 0, 1, 6), (6, .iload_n 1, 1, 7), (7, .invokevirtual 117, 3, 10), (10, .ifCond .eq 19, 3, 13), (13, .iload_n 2, 1, 14), (14, .invokestatic 121, 3, 17), (17, .ifCond .eq 12, 3, 20), (20, .aload_n 0, 1, 21), (21, .iload_n 1, 1, 22), (22, .iload_n 2, 1, 23), (23, .invokevirtual 95, 3, 26), (26, .goto 4, 3, 29), (29, .iconst (-1), 1, 30), (30, .ireturn, 1, 31)]
theorem dtX7_wants : ∀ q ∈ tbX7_wants, decode cX7_wants q.1 = .ok (q.2.1, q.2.2.1) ∧ q.1 + q.2.2.1 = q.2.2.2 := by decide +kernel
theorem miX7_wants : MI yX7_wants cX7_wants 3 (some .int) 2 := ⟨tw_mem (List.mem_of_getElem? (i := 1142) (by decide +kernel)) rfl, by decide, by decide +kernel, tw_mem (List.mem_of_getElem? (i := 78) (by decide +kernel)) rfl⟩
abbrev rmX7_wants : Room := { frames := 3, cells := 0, slots := 0, locals := 73 }
def wX7_wants : List Cond := [.fieldLink "ZoneCapacityModel" 50 "ZoneCapacityModel" "raised" "I", .methodLink "ZoneCapacityModel" 117 yX7_isZone, .instanceMethod yX7_isZone, .selects "ZoneCapacityModel" yX7_isZone yX7_isZone, .methodLink "ZoneCapacityModel" 121 yX7_isPrice, .static yX7_isPrice, .methodLink "ZoneCapacityModel" 95 yX7_wantedAt, .instanceMethod yX7_wantedAt, .selects "ZoneCapacityModel" yX7_wantedAt yX7_wantedAt]
theorem iX7_wants : ∀ w ∈ wX7_wants, w ∈ TW := tw_of (ids := [938, 1017, 1019, 25, 1024, 1025, 1143, 1145, 42]) (by decide +kernel)
def f7_wants (mm : Mem) (a1 : Int32) (a2 : Int32) : Option (Int32 × Mem) := nm (up2 mm 0 0 (0 : Int32)) (fun m1 => bd (f7_isZone m1 a1) (fun r2 => if r2 = 0 then some ((-1 : Int32), m1) else bd (f7_isPrice m1 a2) (fun r3 => if r3 = 0 then some ((-1 : Int32), m1) else bd (f7_wantedAt m1 a1 a2) (fun r4 => some (r4, m1)))))
theorem ctX7_wants {l : Launch} {C : Cfg} (hj : Dj C) {mm : Mem} {a1 : Int32} {a2 : Int32} {x : (Int32 × Mem)} (hf : f7_wants mm a1 a2 = some x) : Ct l C yX7_wants cX7_wants 3 (some .int) 3 73 [.ref 0, .int a1, .int a2] mm (some (.int x.1)) x.2 := by
  refine Ct.of (tb := tbX7_wants) hj miX7_wants.2.1 miX7_wants.1 dtX7_wants (Nat.le_of_ble_eq_true rfl) ?_
  intro E B hQ hr X
  unfold f7_wants at hf
  show G E 3 0 [(0, .ref 0), (1, .int a1), (2, .int a2)] [] mm
  refine z_aload_n B 0 rfl 0 0 rfl rfl ?_
  refine z_iconst 0 B 1 rfl (by decide) ?_
  refine z_puti 7 0 0 B 2 rfl ob_0 rfl (iX7_wants _ (List.mem_of_getElem? (i := 0) rfl)) rfl (ty := .int) (by decide) rfl rfl rfl ?_
  obtain ⟨m1, ex, hf⟩ := nm_x hf
  refine z_mem ex ?_
  refine z_aload_n B 3 rfl 0 0 rfl rfl ?_
  refine z_iload_n B 4 rfl 1 1 rfl rfl ?_
  obtain ⟨r2, ec, hf⟩ := bd_e hf
  refine z_callV 0 7 [.int a1] [] [.int r2] X B 5 rfl ob_0 rfl rfl miX7_isZone ⟨(iX7_wants _ (List.mem_of_getElem? (i := 1) rfl)), (iX7_wants _ (List.mem_of_getElem? (i := 2) rfl)), (iX7_wants _ (List.mem_of_getElem? (i := 3) rfl))⟩ (ctX7_isZone hj ec) ⟨Nat.le_of_ble_eq_true rfl, Nat.le_of_ble_eq_true rfl⟩ rfl rfl (Nat.le_of_ble_eq_true rfl) rfl ?_
  by_cases hc : r2 = 0
  · replace hf := (if_pos hc).symm.trans hf
    refine z_if_eq_t B 6 rfl 29 (by decide) hc ?_
    refine z_iconst (-1) B 15 rfl (by decide) ?_
    cases hf
    exact z_iret B 16 rfl rfl hQ hr
  · replace hf := (if_neg hc).symm.trans hf
    refine z_if_eq_f B 6 rfl 29 (by decide) hc ?_
    refine z_iload_n B 7 rfl 2 2 rfl rfl ?_
    obtain ⟨r3, ec, hf⟩ := bd_e hf
    refine z_callS [.int a2] [] [.int r3] X B 8 rfl miX7_isPrice ⟨(iX7_wants _ (List.mem_of_getElem? (i := 4) rfl)), (iX7_wants _ (List.mem_of_getElem? (i := 5) rfl))⟩ (ctX7_isPrice hj ec) ⟨Nat.le_of_ble_eq_true rfl, Nat.le_of_ble_eq_true rfl⟩ rfl rfl (Nat.le_of_ble_eq_true rfl) rfl ?_
    by_cases hc : r3 = 0
    · replace hf := (if_pos hc).symm.trans hf
      refine z_if_eq_t B 9 rfl 29 (by decide) hc ?_
      refine z_iconst (-1) B 15 rfl (by decide) ?_
      cases hf
      exact z_iret B 16 rfl rfl hQ hr
    · replace hf := (if_neg hc).symm.trans hf
      refine z_if_eq_f B 9 rfl 29 (by decide) hc ?_
      refine z_aload_n B 10 rfl 0 0 rfl rfl ?_
      refine z_iload_n B 11 rfl 1 1 rfl rfl ?_
      refine z_iload_n B 12 rfl 2 2 rfl rfl ?_
      obtain ⟨r4, ec, hf⟩ := bd_e hf
      refine z_callV 0 7 [.int a1, .int a2] [] [.int r4] X B 13 rfl ob_0 rfl rfl miX7_wantedAt ⟨(iX7_wants _ (List.mem_of_getElem? (i := 6) rfl)), (iX7_wants _ (List.mem_of_getElem? (i := 7) rfl)), (iX7_wants _ (List.mem_of_getElem? (i := 8) rfl))⟩ (ctX7_wantedAt hj ec) ⟨Nat.le_of_ble_eq_true rfl, Nat.le_of_ble_eq_true rfl⟩ rfl rfl (Nat.le_of_ble_eq_true rfl) rfl ?_
      refine z_goto B 14 rfl 30 (by decide) ?_
      cases hf
      exact z_iret B 16 rfl rfl hQ hr
/-! ZoneCapacityModel.level(IIZ)I -/
def tbX7_level : Tb := [(0, .aload_n 0, 1, 1), (1, .iconst 0, 1, 2), (2, .putfield 50, 3, 5), (5, .aload_n 0, 1, 6), (6, .iload_n 1, 1, 7), (7, .invokevirtual 117, 3, 10), (10, .ifCond .eq 10, 3, 13), (13, .iload_n 2, 1, 14), (14, .invokestatic 121, 3, 17), (17, .ifCond .ne 6, 3, 20), (20, .ldc 155, 2, 22), (22, .ireturn, 1, 23), (23, .aload_n 0, 1, 24), (24, .iconst 0, 1, 25), (25, .putfield 85, 3, 28), (28, .aload_n 0, 1, 29), (29, .iconst 0, 1, 30), (30, .putfield 78, 3, 33), (33, .aload_n 0, 1, 34), (34, .iload_n 1, 1, 35), (35, .iload_n 2, 1, 36), (36, .invokevirtual 101, 3, 39), (39, .iload_n 3, 1, 40), (40, .ifCond .eq 12, 3, 43), (43, .aload_n 0, 1, 44), (44, .getfield 26, 3, 47), (47, .iload_n 1, 1, 48), (48, .iaload, 1, 49), (49, .goto 9, 3, 52), (52, .aload_n 0, 1, 53), (53, .getfield 23, 3, 56), (56, .iload_n 1, 1, 57), (57, .iaload, 1, 58), (58, .ireturn, 1, 59)]
theorem dtX7_level : ∀ q ∈ tbX7_level, decode cX7_level q.1 = .ok (q.2.1, q.2.2.1) ∧ q.1 + q.2.2.1 = q.2.2.2 := by decide +kernel
theorem miX7_level : MI yX7_level cX7_level 4 (some .int) 3 := ⟨tw_mem (List.mem_of_getElem? (i := 1150) (by decide +kernel)) rfl, by decide, by decide +kernel, tw_mem (List.mem_of_getElem? (i := 78) (by decide +kernel)) rfl⟩
abbrev rmX7_level : Room := { frames := 4, cells := 0, slots := 0, locals := 98 }
def wX7_level : List Cond := [.fieldLink "ZoneCapacityModel" 50 "ZoneCapacityModel" "raised" "I", .methodLink "ZoneCapacityModel" 117 yX7_isZone, .instanceMethod yX7_isZone, .selects "ZoneCapacityModel" yX7_isZone yX7_isZone, .constant "ZoneCapacityModel" 155 (-1000000), .methodLink "ZoneCapacityModel" 121 yX7_isPrice, .static yX7_isPrice, .fieldLink "ZoneCapacityModel" 85 "ZoneCapacityModel" "gone" "I", .fieldLink "ZoneCapacityModel" 78 "ZoneCapacityModel" "noFloors" "Z", .methodLink "ZoneCapacityModel" 101 yX7_laysLevels, .instanceMethod yX7_laysLevels, .selects "ZoneCapacityModel" yX7_laysLevels yX7_laysLevels, .fieldLink "ZoneCapacityModel" 23 "ZoneCapacityModel" "low" "[I", .fieldLink "ZoneCapacityModel" 26 "ZoneCapacityModel" "high" "[I"]
theorem iX7_level : ∀ w ∈ wX7_level, w ∈ TW := tw_of (ids := [938, 1017, 1019, 25, 1151, 1024, 1025, 943, 944, 1152, 1154, 43, 945, 946]) (by decide +kernel)
def f7_level (mm : Mem) (a1 : Int32) (a2 : Int32) (a3 : Int32) : Option (Int32 × Mem) := nm (up2 mm 0 0 (0 : Int32)) (fun m1 => bd (f7_isZone m1 a1) (fun r2 => if r2 = 0 then some ((-1000000 : Int32), m1) else bd (f7_isPrice m1 a2) (fun r3 => if r3 = 0 then some ((-1000000 : Int32), m1) else nm (up2 m1 0 5 (0 : Int32)) (fun m4 => nm (up2 m4 0 6 (0 : Int32)) (fun m5 => bd (f7_laysLevels m5 a1 a2) (fun r6 => if a3 = 0 then rdc 5 a1 (nm (r6 5 a1.toNatClampNeg) (fun v7 => some (v7, r6))) else rdc 6 a1 (nm (r6 6 a1.toNatClampNeg) (fun v8 => some (v8, r6)))))))))
theorem ctX7_level {l : Launch} {C : Cfg} (hj : Dj C) {mm : Mem} {a1 : Int32} {a2 : Int32} {a3 : Int32} {x : (Int32 × Mem)} (hf : f7_level mm a1 a2 a3 = some x) : Ct l C yX7_level cX7_level 4 (some .int) 4 98 [.ref 0, .int a1, .int a2, .int a3] mm (some (.int x.1)) x.2 := by
  refine Ct.of (tb := tbX7_level) hj miX7_level.2.1 miX7_level.1 dtX7_level (Nat.le_of_ble_eq_true rfl) ?_
  intro E B hQ hr X
  unfold f7_level at hf
  show G E 4 0 [(0, .ref 0), (1, .int a1), (2, .int a2), (3, .int a3)] [] mm
  refine z_aload_n B 0 rfl 0 0 rfl rfl ?_
  refine z_iconst 0 B 1 rfl (by decide) ?_
  refine z_puti 7 0 0 B 2 rfl ob_0 rfl (iX7_level _ (List.mem_of_getElem? (i := 0) rfl)) rfl (ty := .int) (by decide) rfl rfl rfl ?_
  obtain ⟨m1, ex, hf⟩ := nm_x hf
  refine z_mem ex ?_
  refine z_aload_n B 3 rfl 0 0 rfl rfl ?_
  refine z_iload_n B 4 rfl 1 1 rfl rfl ?_
  obtain ⟨r2, ec, hf⟩ := bd_e hf
  refine z_callV 0 7 [.int a1] [] [.int r2] X B 5 rfl ob_0 rfl rfl miX7_isZone ⟨(iX7_level _ (List.mem_of_getElem? (i := 1) rfl)), (iX7_level _ (List.mem_of_getElem? (i := 2) rfl)), (iX7_level _ (List.mem_of_getElem? (i := 3) rfl))⟩ (ctX7_isZone hj ec) ⟨Nat.le_of_ble_eq_true rfl, Nat.le_of_ble_eq_true rfl⟩ rfl rfl (Nat.le_of_ble_eq_true rfl) rfl ?_
  by_cases hc : r2 = 0
  · replace hf := (if_pos hc).symm.trans hf
    refine z_if_eq_t B 6 rfl 20 (by decide) hc ?_
    refine z_ldc (-1000000) B 10 rfl (iX7_level _ (List.mem_of_getElem? (i := 4) rfl)) ?_
    cases hf
    exact z_iret B 11 rfl rfl hQ hr
  · replace hf := (if_neg hc).symm.trans hf
    refine z_if_eq_f B 6 rfl 20 (by decide) hc ?_
    refine z_iload_n B 7 rfl 2 2 rfl rfl ?_
    obtain ⟨r3, ec, hf⟩ := bd_e hf
    refine z_callS [.int a2] [] [.int r3] X B 8 rfl miX7_isPrice ⟨(iX7_level _ (List.mem_of_getElem? (i := 5) rfl)), (iX7_level _ (List.mem_of_getElem? (i := 6) rfl))⟩ (ctX7_isPrice hj ec) ⟨Nat.le_of_ble_eq_true rfl, Nat.le_of_ble_eq_true rfl⟩ rfl rfl (Nat.le_of_ble_eq_true rfl) rfl ?_
    by_cases hc : r3 = 0
    · replace hf := (if_pos hc).symm.trans hf
      refine z_if_ne_f B 9 rfl 23 (by decide) hc ?_
      refine z_ldc (-1000000) B 10 rfl (iX7_level _ (List.mem_of_getElem? (i := 4) rfl)) ?_
      cases hf
      exact z_iret B 11 rfl rfl hQ hr
    · replace hf := (if_neg hc).symm.trans hf
      refine z_if_ne_t B 9 rfl 23 (by decide) hc ?_
      refine z_aload_n B 12 rfl 0 0 rfl rfl ?_
      refine z_iconst 0 B 13 rfl (by decide) ?_
      refine z_puti 7 5 0 B 14 rfl ob_0 rfl (iX7_level _ (List.mem_of_getElem? (i := 7) rfl)) rfl (ty := .int) (by decide) rfl rfl rfl ?_
      obtain ⟨m4, ex, hf⟩ := nm_x hf
      refine z_mem ex ?_
      refine z_aload_n B 15 rfl 0 0 rfl rfl ?_
      refine z_iconst 0 B 16 rfl (by decide) ?_
      refine z_puti 7 6 0 B 17 rfl ob_0 rfl (iX7_level _ (List.mem_of_getElem? (i := 8) rfl)) rfl (ty := .boolean) (by decide) rfl (by decide) (by decide) ?_
      obtain ⟨m5, ex, hf⟩ := nm_x hf
      refine z_mem ex ?_
      refine z_aload_n B 18 rfl 0 0 rfl rfl ?_
      refine z_iload_n B 19 rfl 1 1 rfl rfl ?_
      refine z_iload_n B 20 rfl 2 2 rfl rfl ?_
      obtain ⟨r6, ec, hf⟩ := bd_e hf
      refine z_callV 0 7 [.int a1, .int a2] [] [] X B 21 rfl ob_0 rfl rfl miX7_laysLevels ⟨(iX7_level _ (List.mem_of_getElem? (i := 9) rfl)), (iX7_level _ (List.mem_of_getElem? (i := 10) rfl)), (iX7_level _ (List.mem_of_getElem? (i := 11) rfl))⟩ (ctX7_laysLevels hj ec) ⟨Nat.le_of_ble_eq_true rfl, Nat.le_of_ble_eq_true rfl⟩ rfl rfl (Nat.le_of_ble_eq_true rfl) rfl ?_
      refine z_iload_n B 22 rfl 3 3 rfl rfl ?_
      by_cases hc : a3 = 0
      · replace hf := (if_pos hc).symm.trans hf
        refine z_if_eq_t B 23 rfl 52 (by decide) hc ?_
        refine z_aload_n B 29 rfl 0 0 rfl rfl ?_
        refine z_getr 7 7 0 B 30 rfl ob_0 rfl (iX7_level _ (List.mem_of_getElem? (i := 12) rfl)) rfl ?_
        refine z_iload_n B 31 rfl 1 1 rfl rfl ?_
        obtain ⟨hx, hf⟩ := rdc_e hf
        refine z_iald B 32 rfl ob_5 hx ?_
        obtain ⟨v7, ex, hf⟩ := nm_x hf
        refine z_top ex ?_
        cases hf
        exact z_iret B 33 rfl rfl hQ hr
      · replace hf := (if_neg hc).symm.trans hf
        refine z_if_eq_f B 23 rfl 52 (by decide) hc ?_
        refine z_aload_n B 24 rfl 0 0 rfl rfl ?_
        refine z_getr 7 8 0 B 25 rfl ob_0 rfl (iX7_level _ (List.mem_of_getElem? (i := 13) rfl)) rfl ?_
        refine z_iload_n B 26 rfl 1 1 rfl rfl ?_
        obtain ⟨hx, hf⟩ := rdc_e hf
        refine z_iald B 27 rfl ob_6 hx ?_
        obtain ⟨v8, ex, hf⟩ := nm_x hf
        refine z_top ex ?_
        refine z_goto B 28 rfl 58 (by decide) ?_
        cases hf
        exact z_iret B 33 rfl rfl hQ hr
/-! ZoneCapacityModel.price(I)I -/
def tbX7_price : Tb := [(0, .aload_n 0, 1, 1), (1, .iconst 0, 1, 2), (2, .putfield 50, 3, 5), (5, .aload_n 0, 1, 6), (6, .iload_n 1, 1, 7), (7, .invokevirtual 117, 3, 10), (10, .ifCond .ne 5, 3, 13), (13, .iconst (-1), 1, 14), (14, .ireturn, 1, 15), (15, .aload_n 0, 1, 16), (16, .invokevirtual 156, 3, 19), (19, .aload_n 0, 1, 20), (20, .getfield 29, 3, 23), (23, .iload_n 1, 1, 24), (24, .iaload, 1, 25), (25, .ireturn, 1, 26)]
theorem dtX7_price : ∀ q ∈ tbX7_price, decode cX7_price q.1 = .ok (q.2.1, q.2.2.1) ∧ q.1 + q.2.2.1 = q.2.2.2 := by decide +kernel
theorem miX7_price : MI yX7_price cX7_price 2 (some .int) 1 := ⟨tw_mem (List.mem_of_getElem? (i := 1167) (by decide +kernel)) rfl, by decide, by decide +kernel, tw_mem (List.mem_of_getElem? (i := 78) (by decide +kernel)) rfl⟩
abbrev rmX7_price : Room := { frames := 8, cells := 0, slots := 0, locals := 191 }
def wX7_price : List Cond := [.fieldLink "ZoneCapacityModel" 50 "ZoneCapacityModel" "raised" "I", .methodLink "ZoneCapacityModel" 117 yX7_isZone, .instanceMethod yX7_isZone, .selects "ZoneCapacityModel" yX7_isZone yX7_isZone, .methodLink "ZoneCapacityModel" 156 yX7_clearsAll, .instanceMethod yX7_clearsAll, .selects "ZoneCapacityModel" yX7_clearsAll yX7_clearsAll, .fieldLink "ZoneCapacityModel" 29 "ZoneCapacityModel" "prices" "[I"]
theorem iX7_price : ∀ w ∈ wX7_price, w ∈ TW := tw_of (ids := [938, 1017, 1019, 25, 1168, 1170, 46, 947]) (by decide +kernel)
def f7_price (mm : Mem) (a1 : Int32) : Option (Int32 × Mem) := nm (up2 mm 0 0 (0 : Int32)) (fun m1 => bd (f7_isZone m1 a1) (fun r2 => if r2 = 0 then some ((-1 : Int32), m1) else bd (f7_clearsAll m1) (fun r3 => rdc 7 a1 (nm (r3 7 a1.toNatClampNeg) (fun v4 => some (v4, r3))))))
theorem ctX7_price {l : Launch} {C : Cfg} (hj : Dj C) {mm : Mem} {a1 : Int32} {x : (Int32 × Mem)} (hf : f7_price mm a1 = some x) : Ct l C yX7_price cX7_price 2 (some .int) 8 191 [.ref 0, .int a1] mm (some (.int x.1)) x.2 := by
  refine Ct.of (tb := tbX7_price) hj miX7_price.2.1 miX7_price.1 dtX7_price (Nat.le_of_ble_eq_true rfl) ?_
  intro E B hQ hr X
  unfold f7_price at hf
  show G E 2 0 [(0, .ref 0), (1, .int a1)] [] mm
  refine z_aload_n B 0 rfl 0 0 rfl rfl ?_
  refine z_iconst 0 B 1 rfl (by decide) ?_
  refine z_puti 7 0 0 B 2 rfl ob_0 rfl (iX7_price _ (List.mem_of_getElem? (i := 0) rfl)) rfl (ty := .int) (by decide) rfl rfl rfl ?_
  obtain ⟨m1, ex, hf⟩ := nm_x hf
  refine z_mem ex ?_
  refine z_aload_n B 3 rfl 0 0 rfl rfl ?_
  refine z_iload_n B 4 rfl 1 1 rfl rfl ?_
  obtain ⟨r2, ec, hf⟩ := bd_e hf
  refine z_callV 0 7 [.int a1] [] [.int r2] X B 5 rfl ob_0 rfl rfl miX7_isZone ⟨(iX7_price _ (List.mem_of_getElem? (i := 1) rfl)), (iX7_price _ (List.mem_of_getElem? (i := 2) rfl)), (iX7_price _ (List.mem_of_getElem? (i := 3) rfl))⟩ (ctX7_isZone hj ec) ⟨Nat.le_of_ble_eq_true rfl, Nat.le_of_ble_eq_true rfl⟩ rfl rfl (Nat.le_of_ble_eq_true rfl) rfl ?_
  by_cases hc : r2 = 0
  · replace hf := (if_pos hc).symm.trans hf
    refine z_if_ne_f B 6 rfl 15 (by decide) hc ?_
    refine z_iconst (-1) B 7 rfl (by decide) ?_
    cases hf
    exact z_iret B 8 rfl rfl hQ hr
  · replace hf := (if_neg hc).symm.trans hf
    refine z_if_ne_t B 6 rfl 15 (by decide) hc ?_
    refine z_aload_n B 9 rfl 0 0 rfl rfl ?_
    obtain ⟨r3, ec, hf⟩ := bd_e hf
    refine z_callV 0 7 [] [] [] X B 10 rfl ob_0 rfl rfl miX7_clearsAll ⟨(iX7_price _ (List.mem_of_getElem? (i := 4) rfl)), (iX7_price _ (List.mem_of_getElem? (i := 5) rfl)), (iX7_price _ (List.mem_of_getElem? (i := 6) rfl))⟩ (ctX7_clearsAll hj ec) ⟨Nat.le_of_ble_eq_true rfl, Nat.le_of_ble_eq_true rfl⟩ rfl rfl (Nat.le_of_ble_eq_true rfl) rfl ?_
    refine z_aload_n B 11 rfl 0 0 rfl rfl ?_
    refine z_getr 7 9 0 B 12 rfl ob_0 rfl (iX7_price _ (List.mem_of_getElem? (i := 7) rfl)) rfl ?_
    refine z_iload_n B 13 rfl 1 1 rfl rfl ?_
    obtain ⟨hx, hf⟩ := rdc_e hf
    refine z_iald B 14 rfl ob_7 hx ?_
    obtain ⟨v4, ex, hf⟩ := nm_x hf
    refine z_top ex ?_
    cases hf
    exact z_iret B 15 rfl rfl hQ hr
/-! ZoneCapacityModel.net(I)I -/
def tbX7_net : Tb := [(0, .aload_n 0, 1, 1), (1, .iconst 0, 1, 2), (2, .putfield 50, 3, 5), (5, .aload_n 0, 1, 6), (6, .iload_n 1, 1, 7), (7, .invokevirtual 117, 3, 10), (10, .ifCond .ne 6, 3, 13), (13, .ldc 155, 2, 15), (15, .ireturn, 1, 16), (16, .aload_n 0, 1, 17), (17, .invokevirtual 156, 3, 20), (20, .aload_n 0, 1, 21), (21, .getfield 32, 3, 24), (24, .iload_n 1, 1, 25), (25, .iaload, 1, 26), (26, .ireturn, 1, 27)]
theorem dtX7_net : ∀ q ∈ tbX7_net, decode cX7_net q.1 = .ok (q.2.1, q.2.2.1) ∧ q.1 + q.2.2.1 = q.2.2.2 := by decide +kernel
theorem miX7_net : MI yX7_net cX7_net 2 (some .int) 1 := ⟨tw_mem (List.mem_of_getElem? (i := 1191) (by decide +kernel)) rfl, by decide, by decide +kernel, tw_mem (List.mem_of_getElem? (i := 78) (by decide +kernel)) rfl⟩
abbrev rmX7_net : Room := { frames := 8, cells := 0, slots := 0, locals := 191 }
def wX7_net : List Cond := [.fieldLink "ZoneCapacityModel" 50 "ZoneCapacityModel" "raised" "I", .methodLink "ZoneCapacityModel" 117 yX7_isZone, .instanceMethod yX7_isZone, .selects "ZoneCapacityModel" yX7_isZone yX7_isZone, .methodLink "ZoneCapacityModel" 156 yX7_clearsAll, .instanceMethod yX7_clearsAll, .selects "ZoneCapacityModel" yX7_clearsAll yX7_clearsAll, .fieldLink "ZoneCapacityModel" 32 "ZoneCapacityModel" "nets" "[I", .constant "ZoneCapacityModel" 155 (-1000000)]
theorem iX7_net : ∀ w ∈ wX7_net, w ∈ TW := tw_of (ids := [938, 1017, 1019, 25, 1168, 1170, 46, 948, 1151]) (by decide +kernel)
def f7_net (mm : Mem) (a1 : Int32) : Option (Int32 × Mem) := nm (up2 mm 0 0 (0 : Int32)) (fun m1 => bd (f7_isZone m1 a1) (fun r2 => if r2 = 0 then some ((-1000000 : Int32), m1) else bd (f7_clearsAll m1) (fun r3 => rdc 8 a1 (nm (r3 8 a1.toNatClampNeg) (fun v4 => some (v4, r3))))))
theorem ctX7_net {l : Launch} {C : Cfg} (hj : Dj C) {mm : Mem} {a1 : Int32} {x : (Int32 × Mem)} (hf : f7_net mm a1 = some x) : Ct l C yX7_net cX7_net 2 (some .int) 8 191 [.ref 0, .int a1] mm (some (.int x.1)) x.2 := by
  refine Ct.of (tb := tbX7_net) hj miX7_net.2.1 miX7_net.1 dtX7_net (Nat.le_of_ble_eq_true rfl) ?_
  intro E B hQ hr X
  unfold f7_net at hf
  show G E 2 0 [(0, .ref 0), (1, .int a1)] [] mm
  refine z_aload_n B 0 rfl 0 0 rfl rfl ?_
  refine z_iconst 0 B 1 rfl (by decide) ?_
  refine z_puti 7 0 0 B 2 rfl ob_0 rfl (iX7_net _ (List.mem_of_getElem? (i := 0) rfl)) rfl (ty := .int) (by decide) rfl rfl rfl ?_
  obtain ⟨m1, ex, hf⟩ := nm_x hf
  refine z_mem ex ?_
  refine z_aload_n B 3 rfl 0 0 rfl rfl ?_
  refine z_iload_n B 4 rfl 1 1 rfl rfl ?_
  obtain ⟨r2, ec, hf⟩ := bd_e hf
  refine z_callV 0 7 [.int a1] [] [.int r2] X B 5 rfl ob_0 rfl rfl miX7_isZone ⟨(iX7_net _ (List.mem_of_getElem? (i := 1) rfl)), (iX7_net _ (List.mem_of_getElem? (i := 2) rfl)), (iX7_net _ (List.mem_of_getElem? (i := 3) rfl))⟩ (ctX7_isZone hj ec) ⟨Nat.le_of_ble_eq_true rfl, Nat.le_of_ble_eq_true rfl⟩ rfl rfl (Nat.le_of_ble_eq_true rfl) rfl ?_
  by_cases hc : r2 = 0
  · replace hf := (if_pos hc).symm.trans hf
    refine z_if_ne_f B 6 rfl 16 (by decide) hc ?_
    refine z_ldc (-1000000) B 7 rfl (iX7_net _ (List.mem_of_getElem? (i := 8) rfl)) ?_
    cases hf
    exact z_iret B 8 rfl rfl hQ hr
  · replace hf := (if_neg hc).symm.trans hf
    refine z_if_ne_t B 6 rfl 16 (by decide) hc ?_
    refine z_aload_n B 9 rfl 0 0 rfl rfl ?_
    obtain ⟨r3, ec, hf⟩ := bd_e hf
    refine z_callV 0 7 [] [] [] X B 10 rfl ob_0 rfl rfl miX7_clearsAll ⟨(iX7_net _ (List.mem_of_getElem? (i := 4) rfl)), (iX7_net _ (List.mem_of_getElem? (i := 5) rfl)), (iX7_net _ (List.mem_of_getElem? (i := 6) rfl))⟩ (ctX7_clearsAll hj ec) ⟨Nat.le_of_ble_eq_true rfl, Nat.le_of_ble_eq_true rfl⟩ rfl rfl (Nat.le_of_ble_eq_true rfl) rfl ?_
    refine z_aload_n B 11 rfl 0 0 rfl rfl ?_
    refine z_getr 7 10 0 B 12 rfl ob_0 rfl (iX7_net _ (List.mem_of_getElem? (i := 7) rfl)) rfl ?_
    refine z_iload_n B 13 rfl 1 1 rfl rfl ?_
    obtain ⟨hx, hf⟩ := rdc_e hf
    refine z_iald B 14 rfl ob_8 hx ?_
    obtain ⟨v4, ex, hf⟩ := nm_x hf
    refine z_top ex ?_
    cases hf
    exact z_iret B 15 rfl rfl hQ hr
/-! ZoneCapacityModel.served(I)I -/
def tbX7_served : Tb := [(0, .aload_n 0, 1, 1), (1, .iconst 0, 1, 2), (2, .putfield 50, 3, 5), (5, .aload_n 0, 1, 6), (6, .iload_n 1, 1, 7), (7, .invokevirtual 117, 3, 10), (10, .ifCond .ne 5, 3, 13), (13, .iconst (-1), 1, 14), (14, .ireturn, 1, 15), (15, .aload_n 0, 1, 16), (16, .invokevirtual 156, 3, 19), (19, .aload_n 0, 1, 20), (20, .getfield 35, 3, 23), (23, .iload_n 1, 1, 24), (24, .iaload, 1, 25), (25, .ireturn, 1, 26)]
theorem dtX7_served : ∀ q ∈ tbX7_served, decode cX7_served q.1 = .ok (q.2.1, q.2.2.1) ∧ q.1 + q.2.2.1 = q.2.2.2 := by decide +kernel
theorem miX7_served : MI yX7_served cX7_served 2 (some .int) 1 := ⟨tw_mem (List.mem_of_getElem? (i := 1195) (by decide +kernel)) rfl, by decide, by decide +kernel, tw_mem (List.mem_of_getElem? (i := 78) (by decide +kernel)) rfl⟩
abbrev rmX7_served : Room := { frames := 8, cells := 0, slots := 0, locals := 191 }
def wX7_served : List Cond := [.fieldLink "ZoneCapacityModel" 50 "ZoneCapacityModel" "raised" "I", .methodLink "ZoneCapacityModel" 117 yX7_isZone, .instanceMethod yX7_isZone, .selects "ZoneCapacityModel" yX7_isZone yX7_isZone, .methodLink "ZoneCapacityModel" 156 yX7_clearsAll, .instanceMethod yX7_clearsAll, .selects "ZoneCapacityModel" yX7_clearsAll yX7_clearsAll, .fieldLink "ZoneCapacityModel" 35 "ZoneCapacityModel" "serves" "[I"]
theorem iX7_served : ∀ w ∈ wX7_served, w ∈ TW := tw_of (ids := [938, 1017, 1019, 25, 1168, 1170, 46, 949]) (by decide +kernel)
def f7_served (mm : Mem) (a1 : Int32) : Option (Int32 × Mem) := nm (up2 mm 0 0 (0 : Int32)) (fun m1 => bd (f7_isZone m1 a1) (fun r2 => if r2 = 0 then some ((-1 : Int32), m1) else bd (f7_clearsAll m1) (fun r3 => rdc 9 a1 (nm (r3 9 a1.toNatClampNeg) (fun v4 => some (v4, r3))))))
theorem ctX7_served {l : Launch} {C : Cfg} (hj : Dj C) {mm : Mem} {a1 : Int32} {x : (Int32 × Mem)} (hf : f7_served mm a1 = some x) : Ct l C yX7_served cX7_served 2 (some .int) 8 191 [.ref 0, .int a1] mm (some (.int x.1)) x.2 := by
  refine Ct.of (tb := tbX7_served) hj miX7_served.2.1 miX7_served.1 dtX7_served (Nat.le_of_ble_eq_true rfl) ?_
  intro E B hQ hr X
  unfold f7_served at hf
  show G E 2 0 [(0, .ref 0), (1, .int a1)] [] mm
  refine z_aload_n B 0 rfl 0 0 rfl rfl ?_
  refine z_iconst 0 B 1 rfl (by decide) ?_
  refine z_puti 7 0 0 B 2 rfl ob_0 rfl (iX7_served _ (List.mem_of_getElem? (i := 0) rfl)) rfl (ty := .int) (by decide) rfl rfl rfl ?_
  obtain ⟨m1, ex, hf⟩ := nm_x hf
  refine z_mem ex ?_
  refine z_aload_n B 3 rfl 0 0 rfl rfl ?_
  refine z_iload_n B 4 rfl 1 1 rfl rfl ?_
  obtain ⟨r2, ec, hf⟩ := bd_e hf
  refine z_callV 0 7 [.int a1] [] [.int r2] X B 5 rfl ob_0 rfl rfl miX7_isZone ⟨(iX7_served _ (List.mem_of_getElem? (i := 1) rfl)), (iX7_served _ (List.mem_of_getElem? (i := 2) rfl)), (iX7_served _ (List.mem_of_getElem? (i := 3) rfl))⟩ (ctX7_isZone hj ec) ⟨Nat.le_of_ble_eq_true rfl, Nat.le_of_ble_eq_true rfl⟩ rfl rfl (Nat.le_of_ble_eq_true rfl) rfl ?_
  by_cases hc : r2 = 0
  · replace hf := (if_pos hc).symm.trans hf
    refine z_if_ne_f B 6 rfl 15 (by decide) hc ?_
    refine z_iconst (-1) B 7 rfl (by decide) ?_
    cases hf
    exact z_iret B 8 rfl rfl hQ hr
  · replace hf := (if_neg hc).symm.trans hf
    refine z_if_ne_t B 6 rfl 15 (by decide) hc ?_
    refine z_aload_n B 9 rfl 0 0 rfl rfl ?_
    obtain ⟨r3, ec, hf⟩ := bd_e hf
    refine z_callV 0 7 [] [] [] X B 10 rfl ob_0 rfl rfl miX7_clearsAll ⟨(iX7_served _ (List.mem_of_getElem? (i := 4) rfl)), (iX7_served _ (List.mem_of_getElem? (i := 5) rfl)), (iX7_served _ (List.mem_of_getElem? (i := 6) rfl))⟩ (ctX7_clearsAll hj ec) ⟨Nat.le_of_ble_eq_true rfl, Nat.le_of_ble_eq_true rfl⟩ rfl rfl (Nat.le_of_ble_eq_true rfl) rfl ?_
    refine z_aload_n B 11 rfl 0 0 rfl rfl ?_
    refine z_getr 7 11 0 B 12 rfl ob_0 rfl (iX7_served _ (List.mem_of_getElem? (i := 7) rfl)) rfl ?_
    refine z_iload_n B 13 rfl 1 1 rfl rfl ?_
    obtain ⟨hx, hf⟩ := rdc_e hf
    refine z_iald B 14 rfl ob_9 hx ?_
    obtain ⟨v4, ex, hf⟩ := nm_x hf
    refine z_top ex ?_
    cases hf
    exact z_iret B 15 rfl rfl hQ hr
/-! ZoneCapacityModel.taken(II)I -/
def tbX7_taken : Tb := [(0, .aload_n 0, 1, 1), (1, .iconst 0, 1, 2), (2, .putfield 50, 3, 5), (5, .aload_n 0, 1, 6), (6, .iload_n 1, 1, 7), (7, .invokevirtual 135, 3, 10), (10, .ifCond .eq 17, 3, 13), (13, .iload_n 2, 1, 14), (14, .iconst (-1), 1, 15), (15, .if_icmp .eq 14, 3, 18), (18, .aload_n 0, 1, 19), (19, .iload_n 1, 1, 20), (20, .iload_n 2, 1, 21), (21, .invokevirtual 151, 3, 24), (24, .ifCond .ne 5, 3, 27), (27, .iconst (-1), 1, 28), (28, .ireturn, 1, 29), (29, .aload_n 0, 1, 30), (30, .invokevirtual 156, 3, 33), (33, .iload_n 2, 1, 34), (34, .iconst (-1), 1, 35), (35, .if_icmp .ne 11, 3, 38), (38, .aload_n 0, 1, 39), (39, .iload_n 1, 1, 40), (40, .invokevirtual 159, 3, 43), (43, .goto 13, 3, 46), (46, .aload_n 0, 1, 47), (47, .getfield 38, 3, 50), (50, .iconst 4, 1, 51), (51, .iload_n 1, 1, 52), (52, .imul, 1, 53), (53, .iload_n 2, 1, 54), (54, .iadd, 1, 55), (55, .iaload, 1, 56), (56, .ireturn, 1, 57)]
theorem dtX7_taken : ∀ q ∈ tbX7_taken, decode cX7_taken q.1 = .ok (q.2.1, q.2.2.1) ∧ q.1 + q.2.2.1 = q.2.2.2 := by decide +kernel
theorem miX7_taken : MI yX7_taken cX7_taken 3 (some .int) 2 := ⟨tw_mem (List.mem_of_getElem? (i := 1199) (by decide +kernel)) rfl, by decide, by decide +kernel, tw_mem (List.mem_of_getElem? (i := 78) (by decide +kernel)) rfl⟩
abbrev rmX7_taken : Room := { frames := 8, cells := 0, slots := 0, locals := 191 }
def wX7_taken : List Cond := [.fieldLink "ZoneCapacityModel" 50 "ZoneCapacityModel" "raised" "I", .methodLink "ZoneCapacityModel" 135 yX7_isResource, .instanceMethod yX7_isResource, .selects "ZoneCapacityModel" yX7_isResource yX7_isResource, .methodLink "ZoneCapacityModel" 156 yX7_clearsAll, .instanceMethod yX7_clearsAll, .selects "ZoneCapacityModel" yX7_clearsAll yX7_clearsAll, .fieldLink "ZoneCapacityModel" 38 "ZoneCapacityModel" "takes" "[I", .methodLink "ZoneCapacityModel" 159 yX7_takenOf, .instanceMethod yX7_takenOf, .selects "ZoneCapacityModel" yX7_takenOf yX7_takenOf, .methodLink "ZoneCapacityModel" 151 yX7_isLine, .instanceMethod yX7_isLine, .selects "ZoneCapacityModel" yX7_isLine yX7_isLine]
theorem iX7_taken : ∀ w ∈ wX7_taken, w ∈ TW := tw_of (ids := [938, 1063, 1065, 32, 1168, 1170, 46, 950, 1200, 1202, 51, 1123, 1125, 39]) (by decide +kernel)
def f7_taken_j29 (x1 : Int32) (x2 : Int32) (mm : Mem) : Option (Int32 × Mem) := bd (f7_clearsAll mm) (fun r3 => if x2 = (-1 : Int32) then bd (f7_takenOf r3 x1) (fun r5 => some (r5, r3)) else rdc 10 (((4 : Int32) * x1) + x2) (nm (r3 10 (((4 : Int32) * x1) + x2).toNatClampNeg) (fun v4 => some (v4, r3))))
theorem f7_taken_j29_ok {E : Ev} {l : Launch} {C : Cfg} {x : (Int32 × Mem)} (hj : Dj C) (X : Ec E l C rmX7_taken) (B : Bx E RX7 tbX7_taken 3 (some .int)) (hQ : Rt E) (hr : Rs E (some (.int x.1)) x.2) (x1 : Int32) (x2 : Int32) (mm : Mem) (hf : f7_taken_j29 x1 x2 mm = some x) : G E 3 29 [(0, .ref 0), (1, .int x1), (2, .int x2)] [] mm := by
  unfold f7_taken_j29 at hf
  refine z_aload_n B 17 rfl 0 0 rfl rfl ?_
  obtain ⟨r3, ec, hf⟩ := bd_e hf
  refine z_callV 0 7 [] [] [] X B 18 rfl ob_0 rfl rfl miX7_clearsAll ⟨(iX7_taken _ (List.mem_of_getElem? (i := 4) rfl)), (iX7_taken _ (List.mem_of_getElem? (i := 5) rfl)), (iX7_taken _ (List.mem_of_getElem? (i := 6) rfl))⟩ (ctX7_clearsAll hj ec) ⟨Nat.le_of_ble_eq_true rfl, Nat.le_of_ble_eq_true rfl⟩ rfl rfl (Nat.le_of_ble_eq_true rfl) rfl ?_
  refine z_iload_n B 19 rfl 2 2 rfl rfl ?_
  refine z_iconst (-1) B 20 rfl (by decide) ?_
  by_cases hc : x2 = (-1 : Int32)
  · replace hf := (if_pos hc).symm.trans hf
    refine z_icmp_ne_f B 21 rfl 46 (by decide) hc ?_
    refine z_aload_n B 22 rfl 0 0 rfl rfl ?_
    refine z_iload_n B 23 rfl 1 1 rfl rfl ?_
    obtain ⟨r5, ec, hf⟩ := bd_e hf
    refine z_callV 0 7 [.int x1] [] [.int r5] X B 24 rfl ob_0 rfl rfl miX7_takenOf ⟨(iX7_taken _ (List.mem_of_getElem? (i := 8) rfl)), (iX7_taken _ (List.mem_of_getElem? (i := 9) rfl)), (iX7_taken _ (List.mem_of_getElem? (i := 10) rfl))⟩ (ctX7_takenOf hj ec) ⟨Nat.le_of_ble_eq_true rfl, Nat.le_of_ble_eq_true rfl⟩ rfl rfl (Nat.le_of_ble_eq_true rfl) rfl ?_
    refine z_goto B 25 rfl 56 (by decide) ?_
    cases hf
    exact z_iret B 34 rfl rfl hQ hr
  · replace hf := (if_neg hc).symm.trans hf
    refine z_icmp_ne_t B 21 rfl 46 (by decide) hc ?_
    refine z_aload_n B 26 rfl 0 0 rfl rfl ?_
    refine z_getr 7 12 0 B 27 rfl ob_0 rfl (iX7_taken _ (List.mem_of_getElem? (i := 7) rfl)) rfl ?_
    refine z_iconst 4 B 28 rfl (by decide) ?_
    refine z_iload_n B 29 rfl 1 1 rfl rfl ?_
    refine z_imul B 30 rfl ?_
    refine z_iload_n B 31 rfl 2 2 rfl rfl ?_
    refine z_iadd B 32 rfl ?_
    obtain ⟨hx, hf⟩ := rdc_e hf
    refine z_iald B 33 rfl ob_10 hx ?_
    obtain ⟨v4, ex, hf⟩ := nm_x hf
    refine z_top ex ?_
    cases hf
    exact z_iret B 34 rfl rfl hQ hr
def f7_taken (mm : Mem) (a1 : Int32) (a2 : Int32) : Option (Int32 × Mem) := nm (up2 mm 0 0 (0 : Int32)) (fun m1 => bd (f7_isResource m1 a1) (fun r2 => if r2 = 0 then some ((-1 : Int32), m1) else if a2 = (-1 : Int32) then f7_taken_j29 a1 a2 m1 else bd (f7_isLine m1 a1 a2) (fun r6 => if r6 = 0 then some ((-1 : Int32), m1) else f7_taken_j29 a1 a2 m1)))
theorem ctX7_taken {l : Launch} {C : Cfg} (hj : Dj C) {mm : Mem} {a1 : Int32} {a2 : Int32} {x : (Int32 × Mem)} (hf : f7_taken mm a1 a2 = some x) : Ct l C yX7_taken cX7_taken 3 (some .int) 8 191 [.ref 0, .int a1, .int a2] mm (some (.int x.1)) x.2 := by
  refine Ct.of (tb := tbX7_taken) hj miX7_taken.2.1 miX7_taken.1 dtX7_taken (Nat.le_of_ble_eq_true rfl) ?_
  intro E B hQ hr X
  unfold f7_taken at hf
  show G E 3 0 [(0, .ref 0), (1, .int a1), (2, .int a2)] [] mm
  refine z_aload_n B 0 rfl 0 0 rfl rfl ?_
  refine z_iconst 0 B 1 rfl (by decide) ?_
  refine z_puti 7 0 0 B 2 rfl ob_0 rfl (iX7_taken _ (List.mem_of_getElem? (i := 0) rfl)) rfl (ty := .int) (by decide) rfl rfl rfl ?_
  obtain ⟨m1, ex, hf⟩ := nm_x hf
  refine z_mem ex ?_
  refine z_aload_n B 3 rfl 0 0 rfl rfl ?_
  refine z_iload_n B 4 rfl 1 1 rfl rfl ?_
  obtain ⟨r2, ec, hf⟩ := bd_e hf
  refine z_callV 0 7 [.int a1] [] [.int r2] X B 5 rfl ob_0 rfl rfl miX7_isResource ⟨(iX7_taken _ (List.mem_of_getElem? (i := 1) rfl)), (iX7_taken _ (List.mem_of_getElem? (i := 2) rfl)), (iX7_taken _ (List.mem_of_getElem? (i := 3) rfl))⟩ (ctX7_isResource hj ec) ⟨Nat.le_of_ble_eq_true rfl, Nat.le_of_ble_eq_true rfl⟩ rfl rfl (Nat.le_of_ble_eq_true rfl) rfl ?_
  by_cases hc : r2 = 0
  · replace hf := (if_pos hc).symm.trans hf
    refine z_if_eq_t B 6 rfl 27 (by decide) hc ?_
    refine z_iconst (-1) B 15 rfl (by decide) ?_
    cases hf
    exact z_iret B 16 rfl rfl hQ hr
  · replace hf := (if_neg hc).symm.trans hf
    refine z_if_eq_f B 6 rfl 27 (by decide) hc ?_
    refine z_iload_n B 7 rfl 2 2 rfl rfl ?_
    refine z_iconst (-1) B 8 rfl (by decide) ?_
    by_cases hc : a2 = (-1 : Int32)
    · replace hf := (if_pos hc).symm.trans hf
      refine z_icmp_eq_t B 9 rfl 29 (by decide) hc ?_
      exact f7_taken_j29_ok hj X B hQ hr _ _ _ hf
    · replace hf := (if_neg hc).symm.trans hf
      refine z_icmp_eq_f B 9 rfl 29 (by decide) hc ?_
      refine z_aload_n B 10 rfl 0 0 rfl rfl ?_
      refine z_iload_n B 11 rfl 1 1 rfl rfl ?_
      refine z_iload_n B 12 rfl 2 2 rfl rfl ?_
      obtain ⟨r6, ec, hf⟩ := bd_e hf
      refine z_callV 0 7 [.int a1, .int a2] [] [.int r6] X B 13 rfl ob_0 rfl rfl miX7_isLine ⟨(iX7_taken _ (List.mem_of_getElem? (i := 11) rfl)), (iX7_taken _ (List.mem_of_getElem? (i := 12) rfl)), (iX7_taken _ (List.mem_of_getElem? (i := 13) rfl))⟩ (ctX7_isLine hj ec) ⟨Nat.le_of_ble_eq_true rfl, Nat.le_of_ble_eq_true rfl⟩ rfl rfl (Nat.le_of_ble_eq_true rfl) rfl ?_
      by_cases hc : r6 = 0
      · replace hf := (if_pos hc).symm.trans hf
        refine z_if_ne_f B 14 rfl 29 (by decide) hc ?_
        refine z_iconst (-1) B 15 rfl (by decide) ?_
        cases hf
        exact z_iret B 16 rfl rfl hQ hr
      · replace hf := (if_neg hc).symm.trans hf
        refine z_if_ne_t B 14 rfl 29 (by decide) hc ?_
        exact f7_taken_j29_ok hj X B hQ hr _ _ _ hf
/-! ZoneCapacityModel.binds(I)I -/
def tbX7_binds : Tb := [(0, .aload_n 0, 1, 1), (1, .iconst 0, 1, 2), (2, .putfield 50, 3, 5), (5, .aload_n 0, 1, 6), (6, .iload_n 1, 1, 7), (7, .invokevirtual 117, 3, 10), (10, .ifCond .ne 5, 3, 13), (13, .iconst (-1), 1, 14), (14, .ireturn, 1, 15), (15, .aload_n 0, 1, 16), (16, .invokevirtual 156, 3, 19), (19, .iload_n 1, 1, 20), (20, .ifCond .ne 5, 3, 23), (23, .iconst 0, 1, 24), (24, .ireturn, 1, 25), (25, .aload_n 0, 1, 26), (26, .getfield 29, 3, 29), (29, .aload_n 0, 1, 30), (30, .iload_n 1, 1, 31), (31, .iconst 0, 1, 32), (32, .invokevirtual 58, 3, 35), (35, .iaload, 1, 36), (36, .istore_n 2, 1, 37), (37, .aload_n 0, 1, 38), (38, .getfield 32, 3, 41), (41, .iload_n 1, 1, 42), (42, .iaload, 1, 43), (43, .aload_n 0, 1, 44), (44, .iload_n 1, 1, 45), (45, .iconst 1, 1, 46), (46, .invokevirtual 58, 3, 49), (49, .ineg, 1, 50), (50, .if_icmp .ne 17, 3, 53), (53, .aload_n 0, 1, 54), (54, .getfield 29, 3, 57), (57, .iload_n 1, 1, 58), (58, .iaload, 1, 59), (59, .iload_n 2, 1, 60), (60, .if_icmp .le 7, 3, 63), (63, .iconst 1, 1, 64), (64, .goto 33, 3, 67), (67, .aload_n 0, 1, 68), (68, .getfield 32, 3, 71), (71, .iload_n 1, 1, 72), (72, .iaload, 1, 73), (73, .aload_n 0, 1, 74), (74, .iload_n 1, 1, 75), (75, .iconst 2, 1, 76), (76, .invokevirtual 58, 3, 79), (79, .if_icmp .ne 17, 3, 82), (82, .aload_n 0, 1, 83), (83, .getfield 29, 3, 86), (86, .iload_n 1, 1, 87), (87, .iaload, 1, 88), (88, .iload_n 2, 1, 89), (89, .if_icmp .ge 7, 3, 92), (92, .iconst 2, 1, 93), (93, .goto 4, 3, 96), (96, .iconst 0, 1, 97), (97, .ireturn, 1, 98)]
theorem dtX7_binds : ∀ q ∈ tbX7_binds, decode cX7_binds q.1 = .ok (q.2.1, q.2.2.1) ∧ q.1 + q.2.2.1 = q.2.2.2 := by decide +kernel
theorem miX7_binds : MI yX7_binds cX7_binds 3 (some .int) 1 := ⟨tw_mem (List.mem_of_getElem? (i := 1207) (by decide +kernel)) rfl, by decide, by decide +kernel, tw_mem (List.mem_of_getElem? (i := 78) (by decide +kernel)) rfl⟩
abbrev rmX7_binds : Room := { frames := 8, cells := 0, slots := 0, locals := 191 }
def wX7_binds : List Cond := [.fieldLink "ZoneCapacityModel" 50 "ZoneCapacityModel" "raised" "I", .methodLink "ZoneCapacityModel" 117 yX7_isZone, .instanceMethod yX7_isZone, .selects "ZoneCapacityModel" yX7_isZone yX7_isZone, .methodLink "ZoneCapacityModel" 156 yX7_clearsAll, .instanceMethod yX7_clearsAll, .selects "ZoneCapacityModel" yX7_clearsAll yX7_clearsAll, .fieldLink "ZoneCapacityModel" 29 "ZoneCapacityModel" "prices" "[I", .methodLink "ZoneCapacityModel" 58 yX7_ofZone, .instanceMethod yX7_ofZone, .selects "ZoneCapacityModel" yX7_ofZone yX7_ofZone, .fieldLink "ZoneCapacityModel" 32 "ZoneCapacityModel" "nets" "[I"]
theorem iX7_binds : ∀ w ∈ wX7_binds, w ∈ TW := tw_of (ids := [938, 1017, 1019, 25, 1168, 1170, 46, 947, 1031, 1033, 26, 948]) (by decide +kernel)
def f7_binds_j67 (x1 : Int32) (x2 : Int32) (mm : Mem) : Option (Int32 × Mem) := rdc 8 x1 (nm (mm 8 x1.toNatClampNeg) (fun v8 => bd (f7_ofZone mm x1 (2 : Int32)) (fun r9 => if v8 = r9 then rdc 7 x1 (nm (mm 7 x1.toNatClampNeg) (fun v10 => if v10 < x2 then some ((2 : Int32), mm) else some ((0 : Int32), mm))) else some ((0 : Int32), mm))))
theorem f7_binds_j67_ok {E : Ev} {l : Launch} {C : Cfg} {x : (Int32 × Mem)} (hj : Dj C) (X : Ec E l C rmX7_binds) (B : Bx E RX7 tbX7_binds 3 (some .int)) (hQ : Rt E) (hr : Rs E (some (.int x.1)) x.2) (x1 : Int32) (x2 : Int32) (mm : Mem) (hf : f7_binds_j67 x1 x2 mm = some x) : G E 3 67 [(0, .ref 0), (1, .int x1), (2, .int x2)] [] mm := by
  unfold f7_binds_j67 at hf
  refine z_aload_n B 41 rfl 0 0 rfl rfl ?_
  refine z_getr 7 10 0 B 42 rfl ob_0 rfl (iX7_binds _ (List.mem_of_getElem? (i := 11) rfl)) rfl ?_
  refine z_iload_n B 43 rfl 1 1 rfl rfl ?_
  obtain ⟨hx, hf⟩ := rdc_e hf
  refine z_iald B 44 rfl ob_8 hx ?_
  obtain ⟨v8, ex, hf⟩ := nm_x hf
  refine z_top ex ?_
  refine z_aload_n B 45 rfl 0 0 rfl rfl ?_
  refine z_iload_n B 46 rfl 1 1 rfl rfl ?_
  refine z_iconst 2 B 47 rfl (by decide) ?_
  obtain ⟨r9, ec, hf⟩ := bd_e hf
  refine z_callV 0 7 [.int x1, .int (2 : Int32)] [.int v8] [.int r9, .int v8] X B 48 rfl ob_0 rfl rfl miX7_ofZone ⟨(iX7_binds _ (List.mem_of_getElem? (i := 8) rfl)), (iX7_binds _ (List.mem_of_getElem? (i := 9) rfl)), (iX7_binds _ (List.mem_of_getElem? (i := 10) rfl))⟩ (ctX7_ofZone hj ec) ⟨Nat.le_of_ble_eq_true rfl, Nat.le_of_ble_eq_true rfl⟩ rfl rfl (Nat.le_of_ble_eq_true rfl) rfl ?_
  by_cases hc : v8 = r9
  · replace hf := (if_pos hc).symm.trans hf
    refine z_icmp_ne_f B 49 rfl 96 (by decide) hc ?_
    refine z_aload_n B 50 rfl 0 0 rfl rfl ?_
    refine z_getr 7 9 0 B 51 rfl ob_0 rfl (iX7_binds _ (List.mem_of_getElem? (i := 7) rfl)) rfl ?_
    refine z_iload_n B 52 rfl 1 1 rfl rfl ?_
    obtain ⟨hx, hf⟩ := rdc_e hf
    refine z_iald B 53 rfl ob_7 hx ?_
    obtain ⟨v10, ex, hf⟩ := nm_x hf
    refine z_top ex ?_
    refine z_iload_n B 54 rfl 2 2 rfl rfl ?_
    by_cases hc : v10 < x2
    · replace hf := (if_pos hc).symm.trans hf
      refine z_icmp_ge_f B 55 rfl 96 (by decide) hc ?_
      refine z_iconst 2 B 56 rfl (by decide) ?_
      refine z_goto B 57 rfl 97 (by decide) ?_
      cases hf
      exact z_iret B 59 rfl rfl hQ hr
    · replace hf := (if_neg hc).symm.trans hf
      refine z_icmp_ge_t B 55 rfl 96 (by decide) hc ?_
      refine z_iconst 0 B 58 rfl (by decide) ?_
      cases hf
      exact z_iret B 59 rfl rfl hQ hr
  · replace hf := (if_neg hc).symm.trans hf
    refine z_icmp_ne_t B 49 rfl 96 (by decide) hc ?_
    refine z_iconst 0 B 58 rfl (by decide) ?_
    cases hf
    exact z_iret B 59 rfl rfl hQ hr
def f7_binds (mm : Mem) (a1 : Int32) : Option (Int32 × Mem) := nm (up2 mm 0 0 (0 : Int32)) (fun m1 => bd (f7_isZone m1 a1) (fun r2 => if r2 = 0 then some ((-1 : Int32), m1) else bd (f7_clearsAll m1) (fun r3 => if a1 = 0 then some ((0 : Int32), r3) else bd (f7_ofZone r3 a1 (0 : Int32)) (fun r4 => rdc 7 r4 (nm (r3 7 r4.toNatClampNeg) (fun v5 => rdc 8 a1 (nm (r3 8 a1.toNatClampNeg) (fun v6 => bd (f7_ofZone r3 a1 (1 : Int32)) (fun r7 => if v6 = (-r7) then rdc 7 a1 (nm (r3 7 a1.toNatClampNeg) (fun v11 => if v5 < v11 then some ((1 : Int32), r3) else f7_binds_j67 a1 v5 r3)) else f7_binds_j67 a1 v5 r3)))))))))
theorem ctX7_binds {l : Launch} {C : Cfg} (hj : Dj C) {mm : Mem} {a1 : Int32} {x : (Int32 × Mem)} (hf : f7_binds mm a1 = some x) : Ct l C yX7_binds cX7_binds 3 (some .int) 8 191 [.ref 0, .int a1] mm (some (.int x.1)) x.2 := by
  refine Ct.of (tb := tbX7_binds) hj miX7_binds.2.1 miX7_binds.1 dtX7_binds (Nat.le_of_ble_eq_true rfl) ?_
  intro E B hQ hr X
  unfold f7_binds at hf
  show G E 3 0 [(0, .ref 0), (1, .int a1)] [] mm
  refine z_aload_n B 0 rfl 0 0 rfl rfl ?_
  refine z_iconst 0 B 1 rfl (by decide) ?_
  refine z_puti 7 0 0 B 2 rfl ob_0 rfl (iX7_binds _ (List.mem_of_getElem? (i := 0) rfl)) rfl (ty := .int) (by decide) rfl rfl rfl ?_
  obtain ⟨m1, ex, hf⟩ := nm_x hf
  refine z_mem ex ?_
  refine z_aload_n B 3 rfl 0 0 rfl rfl ?_
  refine z_iload_n B 4 rfl 1 1 rfl rfl ?_
  obtain ⟨r2, ec, hf⟩ := bd_e hf
  refine z_callV 0 7 [.int a1] [] [.int r2] X B 5 rfl ob_0 rfl rfl miX7_isZone ⟨(iX7_binds _ (List.mem_of_getElem? (i := 1) rfl)), (iX7_binds _ (List.mem_of_getElem? (i := 2) rfl)), (iX7_binds _ (List.mem_of_getElem? (i := 3) rfl))⟩ (ctX7_isZone hj ec) ⟨Nat.le_of_ble_eq_true rfl, Nat.le_of_ble_eq_true rfl⟩ rfl rfl (Nat.le_of_ble_eq_true rfl) rfl ?_
  by_cases hc : r2 = 0
  · replace hf := (if_pos hc).symm.trans hf
    refine z_if_ne_f B 6 rfl 15 (by decide) hc ?_
    refine z_iconst (-1) B 7 rfl (by decide) ?_
    cases hf
    exact z_iret B 8 rfl rfl hQ hr
  · replace hf := (if_neg hc).symm.trans hf
    refine z_if_ne_t B 6 rfl 15 (by decide) hc ?_
    refine z_aload_n B 9 rfl 0 0 rfl rfl ?_
    obtain ⟨r3, ec, hf⟩ := bd_e hf
    refine z_callV 0 7 [] [] [] X B 10 rfl ob_0 rfl rfl miX7_clearsAll ⟨(iX7_binds _ (List.mem_of_getElem? (i := 4) rfl)), (iX7_binds _ (List.mem_of_getElem? (i := 5) rfl)), (iX7_binds _ (List.mem_of_getElem? (i := 6) rfl))⟩ (ctX7_clearsAll hj ec) ⟨Nat.le_of_ble_eq_true rfl, Nat.le_of_ble_eq_true rfl⟩ rfl rfl (Nat.le_of_ble_eq_true rfl) rfl ?_
    refine z_iload_n B 11 rfl 1 1 rfl rfl ?_
    by_cases hc : a1 = 0
    · replace hf := (if_pos hc).symm.trans hf
      refine z_if_ne_f B 12 rfl 25 (by decide) hc ?_
      refine z_iconst 0 B 13 rfl (by decide) ?_
      cases hf
      exact z_iret B 14 rfl rfl hQ hr
    · replace hf := (if_neg hc).symm.trans hf
      refine z_if_ne_t B 12 rfl 25 (by decide) hc ?_
      refine z_aload_n B 15 rfl 0 0 rfl rfl ?_
      refine z_getr 7 9 0 B 16 rfl ob_0 rfl (iX7_binds _ (List.mem_of_getElem? (i := 7) rfl)) rfl ?_
      refine z_aload_n B 17 rfl 0 0 rfl rfl ?_
      refine z_iload_n B 18 rfl 1 1 rfl rfl ?_
      refine z_iconst 0 B 19 rfl (by decide) ?_
      obtain ⟨r4, ec, hf⟩ := bd_e hf
      refine z_callV 0 7 [.int a1, .int (0 : Int32)] [.ref 7] [.int r4, .ref 7] X B 20 rfl ob_0 rfl rfl miX7_ofZone ⟨(iX7_binds _ (List.mem_of_getElem? (i := 8) rfl)), (iX7_binds _ (List.mem_of_getElem? (i := 9) rfl)), (iX7_binds _ (List.mem_of_getElem? (i := 10) rfl))⟩ (ctX7_ofZone hj ec) ⟨Nat.le_of_ble_eq_true rfl, Nat.le_of_ble_eq_true rfl⟩ rfl rfl (Nat.le_of_ble_eq_true rfl) rfl ?_
      obtain ⟨hx, hf⟩ := rdc_e hf
      refine z_iald B 21 rfl ob_7 hx ?_
      obtain ⟨v5, ex, hf⟩ := nm_x hf
      refine z_top ex ?_
      refine z_istore_n [(2, .int v5), (0, .ref 0), (1, .int a1)] B 22 rfl 2 rfl (by decide) rfl ?_
      refine z_aload_n B 23 rfl 0 1 rfl rfl ?_
      refine z_getr 7 10 0 B 24 rfl ob_0 rfl (iX7_binds _ (List.mem_of_getElem? (i := 11) rfl)) rfl ?_
      refine z_iload_n B 25 rfl 1 2 rfl rfl ?_
      obtain ⟨hx, hf⟩ := rdc_e hf
      refine z_iald B 26 rfl ob_8 hx ?_
      obtain ⟨v6, ex, hf⟩ := nm_x hf
      refine z_top ex ?_
      refine z_aload_n B 27 rfl 0 1 rfl rfl ?_
      refine z_iload_n B 28 rfl 1 2 rfl rfl ?_
      refine z_iconst 1 B 29 rfl (by decide) ?_
      obtain ⟨r7, ec, hf⟩ := bd_e hf
      refine z_callV 0 7 [.int a1, .int (1 : Int32)] [.int v6] [.int r7, .int v6] X B 30 rfl ob_0 rfl rfl miX7_ofZone ⟨(iX7_binds _ (List.mem_of_getElem? (i := 8) rfl)), (iX7_binds _ (List.mem_of_getElem? (i := 9) rfl)), (iX7_binds _ (List.mem_of_getElem? (i := 10) rfl))⟩ (ctX7_ofZone hj ec) ⟨Nat.le_of_ble_eq_true rfl, Nat.le_of_ble_eq_true rfl⟩ rfl rfl (Nat.le_of_ble_eq_true rfl) rfl ?_
      refine z_ineg B 31 rfl ?_
      by_cases hc : v6 = (-r7)
      · replace hf := (if_pos hc).symm.trans hf
        refine z_icmp_ne_f B 32 rfl 67 (by decide) hc ?_
        refine z_aload_n B 33 rfl 0 1 rfl rfl ?_
        refine z_getr 7 9 0 B 34 rfl ob_0 rfl (iX7_binds _ (List.mem_of_getElem? (i := 7) rfl)) rfl ?_
        refine z_iload_n B 35 rfl 1 2 rfl rfl ?_
        obtain ⟨hx, hf⟩ := rdc_e hf
        refine z_iald B 36 rfl ob_7 hx ?_
        obtain ⟨v11, ex, hf⟩ := nm_x hf
        refine z_top ex ?_
        refine z_iload_n B 37 rfl 2 0 rfl rfl ?_
        by_cases hc : v5 < v11
        · replace hf := (if_pos hc).symm.trans hf
          refine z_icmp_le_f B 38 rfl 67 (by decide) hc ?_
          refine z_iconst 1 B 39 rfl (by decide) ?_
          refine z_goto B 40 rfl 97 (by decide) ?_
          cases hf
          exact z_iret B 59 rfl rfl hQ hr
        · replace hf := (if_neg hc).symm.trans hf
          refine z_icmp_le_t B 38 rfl 67 (by decide) hc ?_
          refine z_sub [(0, .ref 0), (1, .int a1), (2, .int v5)] [1, 2, 0] rfl ?_
          exact f7_binds_j67_ok hj X B hQ hr _ _ _ hf
      · replace hf := (if_neg hc).symm.trans hf
        refine z_icmp_ne_t B 32 rfl 67 (by decide) hc ?_
        refine z_sub [(0, .ref 0), (1, .int a1), (2, .int v5)] [1, 2, 0] rfl ?_
        exact f7_binds_j67_ok hj X B hQ hr _ _ _ hf
/-! ZoneCapacityModel.surplus()J -/
def tbX7_surplus : Tb := [(0, .aload_n 0, 1, 1), (1, .iconst 0, 1, 2), (2, .putfield 50, 3, 5), (5, .aload_n 0, 1, 6), (6, .invokevirtual 156, 3, 9), (9, .aload_n 0, 1, 10), (10, .invokevirtual 162, 3, 13), (13, .lreturn, 1, 14)]
theorem dtX7_surplus : ∀ q ∈ tbX7_surplus, decode cX7_surplus q.1 = .ok (q.2.1, q.2.2.1) ∧ q.1 + q.2.2.1 = q.2.2.2 := by decide +kernel
theorem miX7_surplus : MI yX7_surplus cX7_surplus 1 (some .long) 0 := ⟨tw_mem (List.mem_of_getElem? (i := 1211) (by decide +kernel)) rfl, by decide, by decide +kernel, tw_mem (List.mem_of_getElem? (i := 78) (by decide +kernel)) rfl⟩
abbrev rmX7_surplus : Room := { frames := 8, cells := 0, slots := 0, locals := 191 }
def wX7_surplus : List Cond := [.fieldLink "ZoneCapacityModel" 50 "ZoneCapacityModel" "raised" "I", .methodLink "ZoneCapacityModel" 156 yX7_clearsAll, .instanceMethod yX7_clearsAll, .selects "ZoneCapacityModel" yX7_clearsAll yX7_clearsAll, .methodLink "ZoneCapacityModel" 162 yX7_surplusNow, .instanceMethod yX7_surplusNow, .selects "ZoneCapacityModel" yX7_surplusNow yX7_surplusNow]
theorem iX7_surplus : ∀ w ∈ wX7_surplus, w ∈ TW := tw_of (ids := [938, 1168, 1170, 46, 1212, 1214, 52]) (by decide +kernel)
def f7_surplus (mm : Mem) : Option (Int64 × Mem) := nm (up2 mm 0 0 (0 : Int32)) (fun m1 => bd (f7_clearsAll m1) (fun r2 => bd (f7_surplusNow r2) (fun r3 => some (r3, r2))))
theorem ctX7_surplus {l : Launch} {C : Cfg} (hj : Dj C) {mm : Mem} {x : (Int64 × Mem)} (hf : f7_surplus mm = some x) : Ct l C yX7_surplus cX7_surplus 1 (some .long) 8 191 [.ref 0] mm (some (.long x.1)) x.2 := by
  refine Ct.of (tb := tbX7_surplus) hj miX7_surplus.2.1 miX7_surplus.1 dtX7_surplus (Nat.le_of_ble_eq_true rfl) ?_
  intro E B hQ hr X
  unfold f7_surplus at hf
  show G E 1 0 [(0, .ref 0)] [] mm
  refine z_aload_n B 0 rfl 0 0 rfl rfl ?_
  refine z_iconst 0 B 1 rfl (by decide) ?_
  refine z_puti 7 0 0 B 2 rfl ob_0 rfl (iX7_surplus _ (List.mem_of_getElem? (i := 0) rfl)) rfl (ty := .int) (by decide) rfl rfl rfl ?_
  obtain ⟨m1, ex, hf⟩ := nm_x hf
  refine z_mem ex ?_
  refine z_aload_n B 3 rfl 0 0 rfl rfl ?_
  obtain ⟨r2, ec, hf⟩ := bd_e hf
  refine z_callV 0 7 [] [] [] X B 4 rfl ob_0 rfl rfl miX7_clearsAll ⟨(iX7_surplus _ (List.mem_of_getElem? (i := 1) rfl)), (iX7_surplus _ (List.mem_of_getElem? (i := 2) rfl)), (iX7_surplus _ (List.mem_of_getElem? (i := 3) rfl))⟩ (ctX7_clearsAll hj ec) ⟨Nat.le_of_ble_eq_true rfl, Nat.le_of_ble_eq_true rfl⟩ rfl rfl (Nat.le_of_ble_eq_true rfl) rfl ?_
  refine z_aload_n B 5 rfl 0 0 rfl rfl ?_
  obtain ⟨r3, ec, hf⟩ := bd_e hf
  refine z_callV 0 7 [] [] [.long r3] X B 6 rfl ob_0 rfl rfl miX7_surplusNow ⟨(iX7_surplus _ (List.mem_of_getElem? (i := 4) rfl)), (iX7_surplus _ (List.mem_of_getElem? (i := 5) rfl)), (iX7_surplus _ (List.mem_of_getElem? (i := 6) rfl))⟩ (ctX7_surplusNow hj ec) ⟨Nat.le_of_ble_eq_true rfl, Nat.le_of_ble_eq_true rfl⟩ rfl rfl (Nat.le_of_ble_eq_true rfl) rfl ?_
  cases hf
  exact z_lret B 7 rfl hQ hr
/-! ZoneCapacityModel.rent(I)J -/
def tbX7_rent : Tb := [(0, .aload_n 0, 1, 1), (1, .iconst 0, 1, 2), (2, .putfield 50, 3, 5), (5, .aload_n 0, 1, 6), (6, .iload_n 1, 1, 7), (7, .invokevirtual 117, 3, 10), (10, .ifCond .ne 7, 3, 13), (13, .ldc2_w 166, 3, 16), (16, .lreturn, 1, 17), (17, .aload_n 0, 1, 18), (18, .invokevirtual 156, 3, 21), (21, .iload_n 1, 1, 22), (22, .ifCond .ne 7, 3, 25), (25, .lconst 0, 1, 26), (26, .goto 30, 3, 29), (29, .aload_n 0, 1, 30), (30, .getfield 32, 3, 33), (33, .iload_n 1, 1, 34), (34, .iaload, 1, 35), (35, .i2l, 1, 36), (36, .aload_n 0, 1, 37), (37, .getfield 29, 3, 40), (40, .aload_n 0, 1, 41), (41, .iload_n 1, 1, 42), (42, .iconst 0, 1, 43), (43, .invokevirtual 58, 3, 46), (46, .iaload, 1, 47), (47, .aload_n 0, 1, 48), (48, .getfield 29, 3, 51), (51, .iload_n 1, 1, 52), (52, .iaload, 1, 53), (53, .isub, 1, 54), (54, .i2l, 1, 55), (55, .lmul, 1, 56), (56, .lreturn, 1, 57)]
theorem dtX7_rent : ∀ q ∈ tbX7_rent, decode cX7_rent q.1 = .ok (q.2.1, q.2.2.1) ∧ q.1 + q.2.2.1 = q.2.2.2 := by decide +kernel
theorem miX7_rent : MI yX7_rent cX7_rent 2 (some .long) 1 := ⟨tw_mem (List.mem_of_getElem? (i := 1219) (by decide +kernel)) rfl, by decide, by decide +kernel, tw_mem (List.mem_of_getElem? (i := 78) (by decide +kernel)) rfl⟩
abbrev rmX7_rent : Room := { frames := 8, cells := 0, slots := 0, locals := 191 }
def wX7_rent : List Cond := [.fieldLink "ZoneCapacityModel" 50 "ZoneCapacityModel" "raised" "I", .methodLink "ZoneCapacityModel" 117 yX7_isZone, .instanceMethod yX7_isZone, .selects "ZoneCapacityModel" yX7_isZone yX7_isZone, .methodLink "ZoneCapacityModel" 156 yX7_clearsAll, .instanceMethod yX7_clearsAll, .selects "ZoneCapacityModel" yX7_clearsAll yX7_clearsAll, .fieldLink "ZoneCapacityModel" 32 "ZoneCapacityModel" "nets" "[I", .fieldLink "ZoneCapacityModel" 29 "ZoneCapacityModel" "prices" "[I", .methodLink "ZoneCapacityModel" 58 yX7_ofZone, .instanceMethod yX7_ofZone, .selects "ZoneCapacityModel" yX7_ofZone yX7_ofZone, .constantLong "ZoneCapacityModel" 166 (-1000000000000000)]
theorem iX7_rent : ∀ w ∈ wX7_rent, w ∈ TW := tw_of (ids := [938, 1017, 1019, 25, 1168, 1170, 46, 948, 947, 1031, 1033, 26, 1220]) (by decide +kernel)
def f7_rent (mm : Mem) (a1 : Int32) : Option (Int64 × Mem) := nm (up2 mm 0 0 (0 : Int32)) (fun m1 => bd (f7_isZone m1 a1) (fun r2 => if r2 = 0 then some ((-1000000000000000 : Int64), m1) else bd (f7_clearsAll m1) (fun r3 => if a1 = 0 then some ((0 : Int64), r3) else rdc 8 a1 (nm (r3 8 a1.toNatClampNeg) (fun v4 => bd (f7_ofZone r3 a1 (0 : Int32)) (fun r5 => rdc 7 r5 (nm (r3 7 r5.toNatClampNeg) (fun v6 => rdc 7 a1 (nm (r3 7 a1.toNatClampNeg) (fun v7 => some (v4.toInt64 * ((v6 - v7).toInt64), r3)))))))))))
theorem ctX7_rent {l : Launch} {C : Cfg} (hj : Dj C) {mm : Mem} {a1 : Int32} {x : (Int64 × Mem)} (hf : f7_rent mm a1 = some x) : Ct l C yX7_rent cX7_rent 2 (some .long) 8 191 [.ref 0, .int a1] mm (some (.long x.1)) x.2 := by
  refine Ct.of (tb := tbX7_rent) hj miX7_rent.2.1 miX7_rent.1 dtX7_rent (Nat.le_of_ble_eq_true rfl) ?_
  intro E B hQ hr X
  unfold f7_rent at hf
  show G E 2 0 [(0, .ref 0), (1, .int a1)] [] mm
  refine z_aload_n B 0 rfl 0 0 rfl rfl ?_
  refine z_iconst 0 B 1 rfl (by decide) ?_
  refine z_puti 7 0 0 B 2 rfl ob_0 rfl (iX7_rent _ (List.mem_of_getElem? (i := 0) rfl)) rfl (ty := .int) (by decide) rfl rfl rfl ?_
  obtain ⟨m1, ex, hf⟩ := nm_x hf
  refine z_mem ex ?_
  refine z_aload_n B 3 rfl 0 0 rfl rfl ?_
  refine z_iload_n B 4 rfl 1 1 rfl rfl ?_
  obtain ⟨r2, ec, hf⟩ := bd_e hf
  refine z_callV 0 7 [.int a1] [] [.int r2] X B 5 rfl ob_0 rfl rfl miX7_isZone ⟨(iX7_rent _ (List.mem_of_getElem? (i := 1) rfl)), (iX7_rent _ (List.mem_of_getElem? (i := 2) rfl)), (iX7_rent _ (List.mem_of_getElem? (i := 3) rfl))⟩ (ctX7_isZone hj ec) ⟨Nat.le_of_ble_eq_true rfl, Nat.le_of_ble_eq_true rfl⟩ rfl rfl (Nat.le_of_ble_eq_true rfl) rfl ?_
  by_cases hc : r2 = 0
  · replace hf := (if_pos hc).symm.trans hf
    refine z_if_ne_f B 6 rfl 17 (by decide) hc ?_
    refine z_ldc2 (-1000000000000000) B 7 rfl (iX7_rent _ (List.mem_of_getElem? (i := 12) rfl)) ?_
    cases hf
    exact z_lret B 8 rfl hQ hr
  · replace hf := (if_neg hc).symm.trans hf
    refine z_if_ne_t B 6 rfl 17 (by decide) hc ?_
    refine z_aload_n B 9 rfl 0 0 rfl rfl ?_
    obtain ⟨r3, ec, hf⟩ := bd_e hf
    refine z_callV 0 7 [] [] [] X B 10 rfl ob_0 rfl rfl miX7_clearsAll ⟨(iX7_rent _ (List.mem_of_getElem? (i := 4) rfl)), (iX7_rent _ (List.mem_of_getElem? (i := 5) rfl)), (iX7_rent _ (List.mem_of_getElem? (i := 6) rfl))⟩ (ctX7_clearsAll hj ec) ⟨Nat.le_of_ble_eq_true rfl, Nat.le_of_ble_eq_true rfl⟩ rfl rfl (Nat.le_of_ble_eq_true rfl) rfl ?_
    refine z_iload_n B 11 rfl 1 1 rfl rfl ?_
    by_cases hc : a1 = 0
    · replace hf := (if_pos hc).symm.trans hf
      refine z_if_ne_f B 12 rfl 29 (by decide) hc ?_
      refine z_lconst 0 B 13 rfl (by decide) ?_
      refine z_goto B 14 rfl 56 (by decide) ?_
      cases hf
      exact z_lret B 34 rfl hQ hr
    · replace hf := (if_neg hc).symm.trans hf
      refine z_if_ne_t B 12 rfl 29 (by decide) hc ?_
      refine z_aload_n B 15 rfl 0 0 rfl rfl ?_
      refine z_getr 7 10 0 B 16 rfl ob_0 rfl (iX7_rent _ (List.mem_of_getElem? (i := 7) rfl)) rfl ?_
      refine z_iload_n B 17 rfl 1 1 rfl rfl ?_
      obtain ⟨hx, hf⟩ := rdc_e hf
      refine z_iald B 18 rfl ob_8 hx ?_
      obtain ⟨v4, ex, hf⟩ := nm_x hf
      refine z_top ex ?_
      refine z_i2l B 19 rfl ?_
      refine z_aload_n B 20 rfl 0 0 rfl rfl ?_
      refine z_getr 7 9 0 B 21 rfl ob_0 rfl (iX7_rent _ (List.mem_of_getElem? (i := 8) rfl)) rfl ?_
      refine z_aload_n B 22 rfl 0 0 rfl rfl ?_
      refine z_iload_n B 23 rfl 1 1 rfl rfl ?_
      refine z_iconst 0 B 24 rfl (by decide) ?_
      obtain ⟨r5, ec, hf⟩ := bd_e hf
      refine z_callV 0 7 [.int a1, .int (0 : Int32)] [.ref 7, .long v4.toInt64] [.int r5, .ref 7, .long v4.toInt64] X B 25 rfl ob_0 rfl rfl miX7_ofZone ⟨(iX7_rent _ (List.mem_of_getElem? (i := 9) rfl)), (iX7_rent _ (List.mem_of_getElem? (i := 10) rfl)), (iX7_rent _ (List.mem_of_getElem? (i := 11) rfl))⟩ (ctX7_ofZone hj ec) ⟨Nat.le_of_ble_eq_true rfl, Nat.le_of_ble_eq_true rfl⟩ rfl rfl (Nat.le_of_ble_eq_true rfl) rfl ?_
      obtain ⟨hx, hf⟩ := rdc_e hf
      refine z_iald B 26 rfl ob_7 hx ?_
      obtain ⟨v6, ex, hf⟩ := nm_x hf
      refine z_top ex ?_
      refine z_aload_n B 27 rfl 0 0 rfl rfl ?_
      refine z_getr 7 9 0 B 28 rfl ob_0 rfl (iX7_rent _ (List.mem_of_getElem? (i := 8) rfl)) rfl ?_
      refine z_iload_n B 29 rfl 1 1 rfl rfl ?_
      obtain ⟨hx, hf⟩ := rdc_e hf
      refine z_iald B 30 rfl ob_7 hx ?_
      obtain ⟨v7, ex, hf⟩ := nm_x hf
      refine z_top ex ?_
      refine z_isub B 31 rfl ?_
      refine z_i2l B 32 rfl ?_
      refine z_lmul B 33 rfl ?_
      cases hf
      exact z_lret B 34 rfl hQ hr
/-! ZoneCapacityModel.paidTo(I)J -/
def tbX7_paidTo : Tb := [(0, .aload_n 0, 1, 1), (1, .getfield 29, 3, 4), (4, .aload_n 0, 1, 5), (5, .iload_n 1, 1, 6), (6, .iconst 0, 1, 7), (7, .invokevirtual 75, 3, 10), (10, .iaload, 1, 11), (11, .i2l, 1, 12), (12, .aload_n 0, 1, 13), (13, .iload_n 1, 1, 14), (14, .invokevirtual 159, 3, 17), (17, .i2l, 1, 18), (18, .lmul, 1, 19), (19, .lreturn, 1, 20)]
theorem dtX7_paidTo : ∀ q ∈ tbX7_paidTo, decode cX7_paidTo q.1 = .ok (q.2.1, q.2.2.1) ∧ q.1 + q.2.2.1 = q.2.2.2 := by decide +kernel
theorem miX7_paidTo : MI yX7_paidTo cX7_paidTo 2 (some .long) 1 := ⟨tw_mem (List.mem_of_getElem? (i := 1228) (by decide +kernel)) rfl, by decide, by decide +kernel, tw_mem (List.mem_of_getElem? (i := 78) (by decide +kernel)) rfl⟩
abbrev rmX7_paidTo : Room := { frames := 1, cells := 0, slots := 0, locals := 22 }
def wX7_paidTo : List Cond := [.fieldLink "ZoneCapacityModel" 29 "ZoneCapacityModel" "prices" "[I", .methodLink "ZoneCapacityModel" 75 yX7_ofResource, .instanceMethod yX7_ofResource, .selects "ZoneCapacityModel" yX7_ofResource yX7_ofResource, .methodLink "ZoneCapacityModel" 159 yX7_takenOf, .instanceMethod yX7_takenOf, .selects "ZoneCapacityModel" yX7_takenOf yX7_takenOf]
theorem iX7_paidTo : ∀ w ∈ wX7_paidTo, w ∈ TW := tw_of (ids := [947, 1067, 1069, 33, 1200, 1202, 51]) (by decide +kernel)
def f7_paidTo (mm : Mem) (a1 : Int32) : Option Int64 := bd (f7_ofResource mm a1 (0 : Int32)) (fun r1 => rdc 7 r1 (nm (mm 7 r1.toNatClampNeg) (fun v2 => bd (f7_takenOf mm a1) (fun r3 => some (v2.toInt64 * r3.toInt64)))))
theorem ctX7_paidTo {l : Launch} {C : Cfg} (hj : Dj C) {mm : Mem} {a1 : Int32} {x : Int64} (hf : f7_paidTo mm a1 = some x) : Ct l C yX7_paidTo cX7_paidTo 2 (some .long) 1 22 [.ref 0, .int a1] mm (some (.long x)) mm := by
  refine Ct.of (tb := tbX7_paidTo) hj miX7_paidTo.2.1 miX7_paidTo.1 dtX7_paidTo (Nat.le_of_ble_eq_true rfl) ?_
  intro E B hQ hr X
  unfold f7_paidTo at hf
  show G E 2 0 [(0, .ref 0), (1, .int a1)] [] mm
  refine z_aload_n B 0 rfl 0 0 rfl rfl ?_
  refine z_getr 7 9 0 B 1 rfl ob_0 rfl (iX7_paidTo _ (List.mem_of_getElem? (i := 0) rfl)) rfl ?_
  refine z_aload_n B 2 rfl 0 0 rfl rfl ?_
  refine z_iload_n B 3 rfl 1 1 rfl rfl ?_
  refine z_iconst 0 B 4 rfl (by decide) ?_
  obtain ⟨r1, ec, hf⟩ := bd_e hf
  refine z_callV 0 7 [.int a1, .int (0 : Int32)] [.ref 7] [.int r1, .ref 7] X B 5 rfl ob_0 rfl rfl miX7_ofResource ⟨(iX7_paidTo _ (List.mem_of_getElem? (i := 1) rfl)), (iX7_paidTo _ (List.mem_of_getElem? (i := 2) rfl)), (iX7_paidTo _ (List.mem_of_getElem? (i := 3) rfl))⟩ (ctX7_ofResource hj ec) ⟨Nat.le_of_ble_eq_true rfl, Nat.le_of_ble_eq_true rfl⟩ rfl rfl (Nat.le_of_ble_eq_true rfl) rfl ?_
  obtain ⟨hx, hf⟩ := rdc_e hf
  refine z_iald B 6 rfl ob_7 hx ?_
  obtain ⟨v2, ex, hf⟩ := nm_x hf
  refine z_top ex ?_
  refine z_i2l B 7 rfl ?_
  refine z_aload_n B 8 rfl 0 0 rfl rfl ?_
  refine z_iload_n B 9 rfl 1 1 rfl rfl ?_
  obtain ⟨r3, ec, hf⟩ := bd_e hf
  refine z_callV 0 7 [.int a1] [.long v2.toInt64] [.int r3, .long v2.toInt64] X B 10 rfl ob_0 rfl rfl miX7_takenOf ⟨(iX7_paidTo _ (List.mem_of_getElem? (i := 4) rfl)), (iX7_paidTo _ (List.mem_of_getElem? (i := 5) rfl)), (iX7_paidTo _ (List.mem_of_getElem? (i := 6) rfl))⟩ (ctX7_takenOf hj ec) ⟨Nat.le_of_ble_eq_true rfl, Nat.le_of_ble_eq_true rfl⟩ rfl rfl (Nat.le_of_ble_eq_true rfl) rfl ?_
  refine z_i2l B 11 rfl ?_
  refine z_lmul B 12 rfl ?_
  cases hf
  exact z_lret B 13 rfl hQ hr
