/-! ZoneCapacityLaw$Market.<init>()V -/
def tbX8_init : Tb := [(0, .aload_n 0, 1, 1), (1, .invokespecial 1, 3, 4), (4, .aload_n 0, 1, 5), (5, .new 7, 3, 8), (8, .dup, 1, 9), (9, .invokespecial 9, 3, 12), (12, .putfield 10, 3, 15), (15, .aload_n 0, 1, 16), (16, .new 7, 3, 19), (19, .dup, 1, 20), (20, .invokespecial 9, 3, 23), (23, .putfield 16, 3, 26), (26, .aload_n 0, 1, 27), (27, .new 7, 3, 30), (30, .dup, 1, 31), (31, .invokespecial 9, 3, 34), (34, .putfield 19, 3, 37), (37, .aload_n 0, 1, 38), (38, .new 7, 3, 41), (41, .dup, 1, 42), (42, .invokespecial 9, 3, 45), (45, .putfield 22, 3, 48), (48, .aload_n 0, 1, 49), (49, .iconst 4, 1, 50), (50, .newarray .int, 2, 52), (52, .putfield 25, 3, 55), (55, .aload_n 0, 1, 56), (56, .sipush 9999, 3, 59), (59, .putfield 29, 3, 62), (62, .aload_n 0, 1, 63), (63, .getfield 10, 3, 66), (66, .iconst 3, 1, 67), (67, .newarray .int, 2, 69), (69, .dup, 1, 70), (70, .iconst 0, 1, 71), (71, .iconst (-1), 1, 72), (72, .iastore, 1, 73), (73, .dup, 1, 74), (74, .iconst 1, 1, 75), (75, .iconst 0, 1, 76), (76, .iastore, 1, 77), (77, .dup, 1, 78), (78, .iconst 2, 1, 79), (79, .iconst 0, 1, 80), (80, .iastore, 1, 81), (81, .invokevirtual 33, 3, 84), (84, .pop, 1, 85), (85, .aload_n 0, 1, 86), (86, .getfield 16, 3, 89), (89, .new 7, 3, 92), (92, .dup, 1, 93), (93, .invokespecial 9, 3, 96), (96, .invokevirtual 33, 3, 99), (99, .pop, 1, 100), (100, .return_, 1, 101)]
theorem dtX8_init : ∀ q ∈ tbX8_init, decode cX8_init q.1 = .ok (q.2.1, q.2.2.1) ∧ q.1 + q.2.2.1 = q.2.2.2 := by decide +kernel
theorem miX8_init : MI yX8_init cX8_init 1 none 0 := ⟨tw_mem (List.mem_of_getElem? (i := 456) (by decide +kernel)) rfl, by decide, by decide +kernel, tw_mem (List.mem_of_getElem? (i := 21) (by decide +kernel)) rfl⟩
abbrev rmFX8_init : Nat := 5
abbrev rmLX8_init : Nat := 108
def wX8_init : List Cond := [.methodLink "ZoneCapacityLaw$Market" 1 Lib.objectInit, .instanceMethod Lib.objectInit, .code Lib.objectInit ⟨#[0xb1]⟩ 1 none, .classLink "ZoneCapacityLaw$Market" 7 "java/util/ArrayList", .instantiable "java/util/ArrayList" 3, .initialized "java/util/ArrayList", .methodLink "ZoneCapacityLaw$Market" 9 yJx4a65c_init_da8c8, .instanceMethod yJx4a65c_init_da8c8, .fieldLink "ZoneCapacityLaw$Market" 10 "ZoneCapacityLaw$Market" "zones" "Ljava/util/ArrayList;", .fieldLink "ZoneCapacityLaw$Market" 16 "ZoneCapacityLaw$Market" "curves" "Ljava/util/ArrayList;", .fieldLink "ZoneCapacityLaw$Market" 19 "ZoneCapacityLaw$Market" "resources" "Ljava/util/ArrayList;", .fieldLink "ZoneCapacityLaw$Market" 22 "ZoneCapacityLaw$Market" "steps" "Ljava/util/ArrayList;", .arrayClass .int, .fieldLink "ZoneCapacityLaw$Market" 25 "ZoneCapacityLaw$Market" "floors" "[I", .fieldLink "ZoneCapacityLaw$Market" 29 "ZoneCapacityLaw$Market" "ceiling" "I", .methodLink "ZoneCapacityLaw$Market" 33 yJx4a65c_add_9ea2d, .instanceMethod yJx4a65c_add_9ea2d, .selects "java/util/ArrayList" yJx4a65c_add_9ea2d yJx4a65c_add_9ea2d]
theorem iX8_init : ∀ w ∈ wX8_init, w ∈ TW := tw_of (ids := [457, 48, 49, 458, 459, 24, 460, 461, 542, 544, 546, 548, 98, 550, 552, 487, 488, 489]) (by decide +kernel)
def bX8_init (A : AS) (dm : DM) (a0 : Nat) : Option (AS × DM) := alc (fun (x : AS × DM) => x.1) A dm 9 0 3 dfl9 (fun q1 A2 m3 => bd (bAL_init A2 m3 q1) (fun r4 => gkd A2 a0 8 (nm (up3 r4 a0 0 (.ref q1)) (fun m5 => alc (fun (x : AS × DM) => x.1) A2 m5 9 0 3 dfl9 (fun q6 A7 m8 => bd (bAL_init A7 m8 q6) (fun r9 => gkd A7 a0 8 (nm (up3 r9 a0 1 (.ref q6)) (fun m10 => alc (fun (x : AS × DM) => x.1) A7 m10 9 0 3 dfl9 (fun q11 A12 m13 => bd (bAL_init A12 m13 q11) (fun r14 => gkd A12 a0 8 (nm (up3 r14 a0 2 (.ref q11)) (fun m15 => alc (fun (x : AS × DM) => x.1) A12 m15 9 0 3 dfl9 (fun q16 A17 m18 => bd (bAL_init A17 m18 q16) (fun r19 => gkd A17 a0 8 (nm (up3 r19 a0 3 (.ref q16)) (fun m20 => gnn (4 : Int32) (alc (fun (x : AS × DM) => x.1) A17 m20 20 (4 : Int32).toNatClampNeg (4 : Int32).toNatClampNeg (fun _ => .int 0) (fun q21 A22 m23 => gkd A22 a0 8 (nm (up3 m23 a0 4 (.ref q21)) (fun m24 => gkd A22 a0 8 (nm (up3 m24 a0 5 (.int (9999 : Int32))) (fun m25 => gkd A22 a0 8 (gtr (m25 a0 0) (fun q26 => gnn (3 : Int32) (alc (fun (x : AS × DM) => x.1) A22 m25 20 (3 : Int32).toNatClampNeg (3 : Int32).toNatClampNeg (fun _ => .int 0) (fun q27 A28 m29 => gkd A28 q27 20 (gix A28 q27 (0 : Int32) (nm (up3 m29 q27 (0 : Int32).toNatClampNeg (.int (-1 : Int32))) (fun m30 => gkd A28 q27 20 (gix A28 q27 (1 : Int32) (nm (up3 m30 q27 (1 : Int32).toNatClampNeg (.int (0 : Int32))) (fun m31 => gkd A28 q27 20 (gix A28 q27 (2 : Int32) (nm (up3 m31 q27 (2 : Int32).toNatClampNeg (.int (0 : Int32))) (fun m32 => gkd A28 q26 9 (bdg (fun (x : AS × DM) => x.1) A28 (bAL_add A28 m32 q26 q27) (fun (x : Int32 × AS × DM) => x.2.1) (fun r33 => gkd r33.2.1 a0 8 (gtr (r33.2.2 a0 1) (fun q34 => alc (fun (x : AS × DM) => x.1) r33.2.1 r33.2.2 9 0 3 dfl9 (fun q35 A36 m37 => bd (bAL_init A36 m37 q35) (fun r38 => gkd A36 q34 9 (bdg (fun (x : AS × DM) => x.1) A36 (bAL_add A36 r38 q34 q35) (fun (x : Int32 × AS × DM) => x.2.1) (fun r39 => some (r39.2.1, r39.2.2))))))))))))))))))))))))))))))))))))))))))))
theorem ctX8_init {l : Launch} {K : KF} {mm : Mem} {A : AS} {dm : DM} {a0 : Nat} {x : AS × DM} (hf : bX8_init A dm a0 = some x) : Ct2 l K yX8_init cX8_init 1 none 5 108 [.ref a0] mm A dm none mm x.1 x.2 := by
  refine Ct2.of (tb := tbX8_init) miX8_init.2.1 miX8_init.1 dtX8_init (Nat.le_of_ble_eq_true rfl) ?_
  intro E B hQ hr X hI hcd
  have hI := hI rfl
  clear hcd
  unfold bX8_init at hf
  show G2 E 1 0 [(0, .ref a0)] [] mm A dm
  refine w_aload_n B 0 rfl 0 0 rfl rfl ?_
  refine w_obj X B 1 rfl ⟨(iX8_init _ (List.mem_of_getElem? (i := 0) rfl)), (iX8_init _ (List.mem_of_getElem? (i := 1) rfl)), (iX8_init _ (List.mem_of_getElem? (i := 2) rfl))⟩ ⟨Nat.le_of_ble_eq_true rfl, Nat.le_of_ble_eq_true rfl⟩ (Nat.le_of_ble_eq_true rfl) ?_
  refine w_aload_n B 2 rfl 0 0 rfl rfl ?_
  obtain ⟨q1, A2, m3, hq, hA, hM, hgd, hf⟩ := alc_e hf
  refine w_new B 3 rfl 9 dfl9 hr hgd hq hA hM (by decide) rfl ⟨(iX8_init _ (List.mem_of_getElem? (i := 3) rfl)), (iX8_init _ (List.mem_of_getElem? (i := 4) rfl)), (iX8_init _ (List.mem_of_getElem? (i := 5) rfl))⟩ dfl9_ok dfl9_cv ?_
  refine w_dup B 4 rfl rfl ?_
  obtain ⟨r4, ec, hf⟩ := bd_e hf
  refine w_callI q1 [] [.ref q1, .ref a0] [.ref q1, .ref a0] X B 5 rfl miAL_init ⟨(iX8_init _ (List.mem_of_getElem? (i := 6) rfl)), (iX8_init _ (List.mem_of_getElem? (i := 7) rfl)), rfl⟩ (ctAL_init ec) (Or.inl ⟨rfl, rfl⟩) ⟨Nat.le_of_ble_eq_true rfl, Nat.le_of_ble_eq_true rfl⟩ rfl rfl (Nat.le_of_ble_eq_true rfl) rfl ?_
  obtain ⟨hk, hf⟩ := gkd_e hf
  refine w_putrF B 6 rfl 8 0 a0 (by decide) hk rfl (iX8_init _ (List.mem_of_getElem? (i := 8) rfl)) (Or.inl rfl) rfl hI rfl (ty := (.object "java/util/ArrayList")) (by decide) (fun _ => ⟨rfl, rfl⟩) ?_
  obtain ⟨m5, ex, hf⟩ := nm_x hf
  refine w_dmm ex ?_
  refine w_aload_n B 7 rfl 0 0 rfl rfl ?_
  obtain ⟨q6, A7, m8, hq, hA, hM, hgd, hf⟩ := alc_e hf
  refine w_new B 8 rfl 9 dfl9 hr hgd hq hA hM (by decide) rfl ⟨(iX8_init _ (List.mem_of_getElem? (i := 3) rfl)), (iX8_init _ (List.mem_of_getElem? (i := 4) rfl)), (iX8_init _ (List.mem_of_getElem? (i := 5) rfl))⟩ dfl9_ok dfl9_cv ?_
  refine w_dup B 9 rfl rfl ?_
  obtain ⟨r9, ec, hf⟩ := bd_e hf
  refine w_callI q6 [] [.ref q6, .ref a0] [.ref q6, .ref a0] X B 10 rfl miAL_init ⟨(iX8_init _ (List.mem_of_getElem? (i := 6) rfl)), (iX8_init _ (List.mem_of_getElem? (i := 7) rfl)), rfl⟩ (ctAL_init ec) (Or.inl ⟨rfl, rfl⟩) ⟨Nat.le_of_ble_eq_true rfl, Nat.le_of_ble_eq_true rfl⟩ rfl rfl (Nat.le_of_ble_eq_true rfl) rfl ?_
  obtain ⟨hk, hf⟩ := gkd_e hf
  refine w_putrF B 11 rfl 8 1 a0 (by decide) hk rfl (iX8_init _ (List.mem_of_getElem? (i := 9) rfl)) (Or.inl rfl) rfl hI rfl (ty := (.object "java/util/ArrayList")) (by decide) (fun _ => ⟨rfl, rfl⟩) ?_
  obtain ⟨m10, ex, hf⟩ := nm_x hf
  refine w_dmm ex ?_
  refine w_aload_n B 12 rfl 0 0 rfl rfl ?_
  obtain ⟨q11, A12, m13, hq, hA, hM, hgd, hf⟩ := alc_e hf
  refine w_new B 13 rfl 9 dfl9 hr hgd hq hA hM (by decide) rfl ⟨(iX8_init _ (List.mem_of_getElem? (i := 3) rfl)), (iX8_init _ (List.mem_of_getElem? (i := 4) rfl)), (iX8_init _ (List.mem_of_getElem? (i := 5) rfl))⟩ dfl9_ok dfl9_cv ?_
  refine w_dup B 14 rfl rfl ?_
  obtain ⟨r14, ec, hf⟩ := bd_e hf
  refine w_callI q11 [] [.ref q11, .ref a0] [.ref q11, .ref a0] X B 15 rfl miAL_init ⟨(iX8_init _ (List.mem_of_getElem? (i := 6) rfl)), (iX8_init _ (List.mem_of_getElem? (i := 7) rfl)), rfl⟩ (ctAL_init ec) (Or.inl ⟨rfl, rfl⟩) ⟨Nat.le_of_ble_eq_true rfl, Nat.le_of_ble_eq_true rfl⟩ rfl rfl (Nat.le_of_ble_eq_true rfl) rfl ?_
  obtain ⟨hk, hf⟩ := gkd_e hf
  refine w_putrF B 16 rfl 8 2 a0 (by decide) hk rfl (iX8_init _ (List.mem_of_getElem? (i := 10) rfl)) (Or.inl rfl) rfl hI rfl (ty := (.object "java/util/ArrayList")) (by decide) (fun _ => ⟨rfl, rfl⟩) ?_
  obtain ⟨m15, ex, hf⟩ := nm_x hf
  refine w_dmm ex ?_
  refine w_aload_n B 17 rfl 0 0 rfl rfl ?_
  obtain ⟨q16, A17, m18, hq, hA, hM, hgd, hf⟩ := alc_e hf
  refine w_new B 18 rfl 9 dfl9 hr hgd hq hA hM (by decide) rfl ⟨(iX8_init _ (List.mem_of_getElem? (i := 3) rfl)), (iX8_init _ (List.mem_of_getElem? (i := 4) rfl)), (iX8_init _ (List.mem_of_getElem? (i := 5) rfl))⟩ dfl9_ok dfl9_cv ?_
  refine w_dup B 19 rfl rfl ?_
  obtain ⟨r19, ec, hf⟩ := bd_e hf
  refine w_callI q16 [] [.ref q16, .ref a0] [.ref q16, .ref a0] X B 20 rfl miAL_init ⟨(iX8_init _ (List.mem_of_getElem? (i := 6) rfl)), (iX8_init _ (List.mem_of_getElem? (i := 7) rfl)), rfl⟩ (ctAL_init ec) (Or.inl ⟨rfl, rfl⟩) ⟨Nat.le_of_ble_eq_true rfl, Nat.le_of_ble_eq_true rfl⟩ rfl rfl (Nat.le_of_ble_eq_true rfl) rfl ?_
  obtain ⟨hk, hf⟩ := gkd_e hf
  refine w_putrF B 21 rfl 8 3 a0 (by decide) hk rfl (iX8_init _ (List.mem_of_getElem? (i := 11) rfl)) (Or.inl rfl) rfl hI rfl (ty := (.object "java/util/ArrayList")) (by decide) (fun _ => ⟨rfl, rfl⟩) ?_
  obtain ⟨m20, ex, hf⟩ := nm_x hf
  refine w_dmm ex ?_
  refine w_aload_n B 22 rfl 0 0 rfl rfl ?_
  refine w_iconst 4 B 23 rfl (by decide) ?_
  obtain ⟨hv, hf⟩ := gnn_e hf
  obtain ⟨q21, A22, m23, hq, hA, hM, hgd, hf⟩ := alc_e hf
  refine w_newI B 24 rfl hr hgd hq hA hM (iX8_init _ (List.mem_of_getElem? (i := 12) rfl)) hv ?_
  obtain ⟨hk, hf⟩ := gkd_e hf
  refine w_putrF B 25 rfl 8 4 a0 (by decide) hk rfl (iX8_init _ (List.mem_of_getElem? (i := 13) rfl)) (Or.inl rfl) rfl hI rfl (ty := (.array .int)) (by decide) (fun _ => ⟨rfl, rfl⟩) ?_
  obtain ⟨m24, ex, hf⟩ := nm_x hf
  refine w_dmm ex ?_
  refine w_aload_n B 26 rfl 0 0 rfl rfl ?_
  refine w_sipush 9999 B 27 rfl (by decide) ?_
  obtain ⟨hk, hf⟩ := gkd_e hf
  refine w_puti B 28 rfl 8 5 a0 (by decide) hk rfl (iX8_init _ (List.mem_of_getElem? (i := 14) rfl)) (Or.inl rfl) rfl (ty := .int) (by decide) ⟨rfl, rfl⟩ ?_
  obtain ⟨m25, ex, hf⟩ := nm_x hf
  refine w_dmm ex ?_
  refine w_aload_n B 29 rfl 0 0 rfl rfl ?_
  obtain ⟨hk, hf⟩ := gkd_e hf
  obtain ⟨q26, ex, hf⟩ := gtr_e hf
  refine w_getr B 30 rfl 8 0 a0 (by decide) hk rfl (iX8_init _ (List.mem_of_getElem? (i := 8) rfl)) (Or.inl rfl) ex ?_
  refine w_iconst 3 B 31 rfl (by decide) ?_
  obtain ⟨hv, hf⟩ := gnn_e hf
  obtain ⟨q27, A28, m29, hq, hA, hM, hgd, hf⟩ := alc_e hf
  refine w_newI B 32 rfl hr hgd hq hA hM (iX8_init _ (List.mem_of_getElem? (i := 12) rfl)) hv ?_
  refine w_dup B 33 rfl rfl ?_
  refine w_iconst 0 B 34 rfl (by decide) ?_
  refine w_iconst (-1) B 35 rfl (by decide) ?_
  obtain ⟨hk, hf⟩ := gkd_e hf
  obtain ⟨hx, hf⟩ := gix_e hf
  refine w_iast B 36 rfl hk hx ?_
  obtain ⟨m30, ex, hf⟩ := nm_x hf
  refine w_dmm ex ?_
  refine w_dup B 37 rfl rfl ?_
  refine w_iconst 1 B 38 rfl (by decide) ?_
  refine w_iconst 0 B 39 rfl (by decide) ?_
  obtain ⟨hk, hf⟩ := gkd_e hf
  obtain ⟨hx, hf⟩ := gix_e hf
  refine w_iast B 40 rfl hk hx ?_
  obtain ⟨m31, ex, hf⟩ := nm_x hf
  refine w_dmm ex ?_
  refine w_dup B 41 rfl rfl ?_
  refine w_iconst 2 B 42 rfl (by decide) ?_
  refine w_iconst 0 B 43 rfl (by decide) ?_
  obtain ⟨hk, hf⟩ := gkd_e hf
  obtain ⟨hx, hf⟩ := gix_e hf
  refine w_iast B 44 rfl hk hx ?_
  obtain ⟨m32, ex, hf⟩ := nm_x hf
  refine w_dmm ex ?_
  obtain ⟨hk, hf⟩ := gkd_e hf
  obtain ⟨r33, ec, hgd, hf⟩ := bdg_e hf
  refine w_callV q26 [.ref q27] [] [.int r33.1] X B 45 rfl miAL_add 9 (by decide) hk rfl rfl ⟨(iX8_init _ (List.mem_of_getElem? (i := 15) rfl)), (iX8_init _ (List.mem_of_getElem? (i := 16) rfl)), (iX8_init _ (List.mem_of_getElem? (i := 17) rfl))⟩ (ctAL_add ec) (Or.inr ⟨_, _, _, _, hr, hgd⟩) ⟨Nat.le_of_ble_eq_true rfl, Nat.le_of_ble_eq_true rfl⟩ rfl rfl (Nat.le_of_ble_eq_true rfl) rfl ?_
  refine w_pop B 46 rfl rfl ?_
  refine w_aload_n B 47 rfl 0 0 rfl rfl ?_
  obtain ⟨hk, hf⟩ := gkd_e hf
  obtain ⟨q34, ex, hf⟩ := gtr_e hf
  refine w_getr B 48 rfl 8 1 a0 (by decide) hk rfl (iX8_init _ (List.mem_of_getElem? (i := 9) rfl)) (Or.inl rfl) ex ?_
  obtain ⟨q35, A36, m37, hq, hA, hM, hgd, hf⟩ := alc_e hf
  refine w_new B 49 rfl 9 dfl9 hr hgd hq hA hM (by decide) rfl ⟨(iX8_init _ (List.mem_of_getElem? (i := 3) rfl)), (iX8_init _ (List.mem_of_getElem? (i := 4) rfl)), (iX8_init _ (List.mem_of_getElem? (i := 5) rfl))⟩ dfl9_ok dfl9_cv ?_
  refine w_dup B 50 rfl rfl ?_
  obtain ⟨r38, ec, hf⟩ := bd_e hf
  refine w_callI q35 [] [.ref q35, .ref q34] [.ref q35, .ref q34] X B 51 rfl miAL_init ⟨(iX8_init _ (List.mem_of_getElem? (i := 6) rfl)), (iX8_init _ (List.mem_of_getElem? (i := 7) rfl)), rfl⟩ (ctAL_init ec) (Or.inl ⟨rfl, rfl⟩) ⟨Nat.le_of_ble_eq_true rfl, Nat.le_of_ble_eq_true rfl⟩ rfl rfl (Nat.le_of_ble_eq_true rfl) rfl ?_
  obtain ⟨hk, hf⟩ := gkd_e hf
  obtain ⟨r39, ec, hgd, hf⟩ := bdg_e hf
  refine w_callV q34 [.ref q35] [] [.int r39.1] X B 52 rfl miAL_add 9 (by decide) hk rfl rfl ⟨(iX8_init _ (List.mem_of_getElem? (i := 15) rfl)), (iX8_init _ (List.mem_of_getElem? (i := 16) rfl)), (iX8_init _ (List.mem_of_getElem? (i := 17) rfl))⟩ (ctAL_add ec) (Or.inr ⟨_, _, _, _, hr, hgd⟩) ⟨Nat.le_of_ble_eq_true rfl, Nat.le_of_ble_eq_true rfl⟩ rfl rfl (Nat.le_of_ble_eq_true rfl) rfl ?_
  refine w_pop B 53 rfl rfl ?_
  cases hf
  exact w_vret B 54 rfl hQ hr
/-! ZoneCapacityLaw$Market.worths(I)[I -/
def tbX8_worths : Tb := [(0, .aload_n 0, 1, 1), (1, .getfield 16, 3, 4), (4, .iload_n 1, 1, 5), (5, .invokevirtual 45, 3, 8), (8, .checkcast 7, 3, 11), (11, .astore_n 2, 1, 12), (12, .aload_n 2, 1, 13), (13, .invokevirtual 73, 3, 16), (16, .ifCond .eq 7, 3, 19), (19, .iconst 0, 1, 20), (20, .goto 18, 3, 23), (23, .aload_n 2, 1, 24), (24, .aload_n 2, 1, 25), (25, .invokevirtual 41, 3, 28), (28, .iconst 1, 1, 29), (29, .isub, 1, 30), (30, .invokevirtual 45, 3, 33), (33, .checkcast 49, 3, 36), (36, .iconst 0, 1, 37), (37, .iaload, 1, 38), (38, .newarray .int, 2, 40), (40, .astore_n 3, 1, 41), (41, .iconst 0, 1, 42), (42, .istore 4, 2, 44), (44, .iconst 0, 1, 45), (45, .istore 5, 2, 47), (47, .iload 5, 2, 49), (49, .aload_n 2, 1, 50), (50, .invokevirtual 41, 3, 53), (53, .if_icmp .ge 113, 3, 56), (56, .iload 4, 2, 58), (58, .aload_n 2, 1, 59), (59, .iload 5, 2, 61), (61, .invokevirtual 45, 3, 64), (64, .checkcast 49, 3, 67), (67, .iconst 0, 1, 68), (68, .iaload, 1, 69), (69, .if_icmp .ge 91, 3, 72), (72, .aload_n 3, 1, 73), (73, .iload 4, 2, 75), (75, .aload_n 2, 1, 76), (76, .iload 5, 2, 78), (78, .invokevirtual 45, 3, 81), (81, .checkcast 49, 3, 84), (84, .iconst 1, 1, 85), (85, .iaload, 1, 86), (86, .iastore, 1, 87), (87, .iload 5, 2, 89), (89, .ifCond .le 65, 3, 92), (92, .aload_n 2, 1, 93), (93, .iload 5, 2, 95), (95, .iconst 1, 1, 96), (96, .isub, 1, 97), (97, .invokevirtual 45, 3, 100), (100, .checkcast 49, 3, 103), (103, .astore 6, 2, 105), (105, .aload_n 2, 1, 106), (106, .iload 5, 2, 108), (108, .invokevirtual 45, 3, 111), (111, .checkcast 49, 3, 114), (114, .astore 7, 2, 116), (116, .aload_n 3, 1, 117), (117, .iload 4, 2, 119), (119, .aload 6, 2, 121), (121, .iconst 1, 1, 122), (122, .iaload, 1, 123), (123, .aload 6, 2, 125), (125, .iconst 1, 1, 126), (126, .iaload, 1, 127), (127, .aload 7, 2, 129), (129, .iconst 1, 1, 130), (130, .iaload, 1, 131), (131, .isub, 1, 132), (132, .iload 4, 2, 134), (134, .iconst 1, 1, 135), (135, .iadd, 1, 136), (136, .aload 6, 2, 138), (138, .iconst 0, 1, 139), (139, .iaload, 1, 140), (140, .isub, 1, 141), (141, .imul, 1, 142), (142, .aload 7, 2, 144), (144, .iconst 0, 1, 145), (145, .iaload, 1, 146), (146, .aload 6, 2, 148), (148, .iconst 0, 1, 149), (149, .iaload, 1, 150), (150, .isub, 1, 151), (151, .idiv, 1, 152), (152, .isub, 1, 153), (153, .iastore, 1, 154), (154, .iinc 4 1, 3, 157), (157, .goto (-101), 3, 160), (160, .iinc 5 1, 3, 163), (163, .goto (-116), 3, 166), (166, .aload_n 3, 1, 167), (167, .areturn, 1, 168)]
theorem dtX8_worths : ∀ q ∈ tbX8_worths, decode cX8_worths q.1 = .ok (q.2.1, q.2.2.1) ∧ q.1 + q.2.2.1 = q.2.2.2 := by decide +kernel
theorem miX8_worths : MI yX8_worths cX8_worths 8 (some (.array .int)) 1 := ⟨tw_mem (List.mem_of_getElem? (i := 813) (by decide +kernel)) rfl, by decide, by decide +kernel, tw_mem (List.mem_of_getElem? (i := 21) (by decide +kernel)) rfl⟩
abbrev rmFX8_worths : Nat := 3
abbrev rmLX8_worths : Nat := 64
def wX8_worths : List Cond := [.fieldLink "ZoneCapacityLaw$Market" 16 "ZoneCapacityLaw$Market" "curves" "Ljava/util/ArrayList;", .methodLink "ZoneCapacityLaw$Market" 45 yJx4a65c_get_915e3, .instanceMethod yJx4a65c_get_915e3, .selects "java/util/ArrayList" yJx4a65c_get_915e3 yJx4a65c_get_915e3, .classLink "ZoneCapacityLaw$Market" 7 "java/util/ArrayList", .methodLink "ZoneCapacityLaw$Market" 73 yJx4a65c_isEmpty_aae02, .instanceMethod yJx4a65c_isEmpty_aae02, .selects "java/util/ArrayList" yJx4a65c_isEmpty_aae02 yJx4a65c_isEmpty_aae02, .methodLink "ZoneCapacityLaw$Market" 41 yJx4a65c_size_8abf5, .instanceMethod yJx4a65c_size_8abf5, .selects "java/util/ArrayList" yJx4a65c_size_8abf5 yJx4a65c_size_8abf5, .classLink "ZoneCapacityLaw$Market" 49 "[I", .arrayClass .int]
theorem iX8_worths : ∀ w ∈ wX8_worths, w ∈ TW := tw_of (ids := [544, 814, 762, 763, 458, 815, 816, 817, 819, 775, 776, 820, 98]) (by decide +kernel)
def bX8_worths_j154 (k47 : Nat → Nat → Int32 → Int32 → AS → DM → Option (Nat × AS × DM)) (k56 : Nat → Nat → Int32 → Int32 → AS → DM → Option (Nat × AS × DM)) (x2 : Nat) (x3 : Nat) (x4 : Int32) (x5 : Int32) (A : AS) (dm : DM) : Option (Nat × AS × DM) := nm (x4 + 1) (fun v17 => k56 x2 x3 v17 x5 A dm)
theorem bX8_worths_j154_ok {E : Ev2} {l : Launch} {K : KF} {mm : Mem} {x : Nat × AS × DM} {k47 : Nat → Nat → Int32 → Int32 → AS → DM → Option (Nat × AS × DM)} {k56 : Nat → Nat → Int32 → Int32 → AS → DM → Option (Nat × AS × DM)} (X : Ec2 E l K rmFX8_worths rmLX8_worths) (B : Bx2 E RX8 tbX8_worths 8 (some (.array .int))) (hQ : Rt2 E) (hr : Rs2 E (some (.ref x.1)) mm x.2.1 x.2.2) (hk47 : ∀ (x2 : Nat) (x3 : Nat) (x4 : Int32) (x5 : Int32) (A : AS) (dm : DM), k47 x2 x3 x4 x5 A dm = some x → G2 E 8 47 [(2, .ref x2), (3, .ref x3), (4, .int x4), (5, .int x5)] [] mm A dm) (hk56 : ∀ (x2 : Nat) (x3 : Nat) (x4 : Int32) (x5 : Int32) (A : AS) (dm : DM), k56 x2 x3 x4 x5 A dm = some x → G2 E 8 56 [(2, .ref x2), (3, .ref x3), (4, .int x4), (5, .int x5)] [] mm A dm) (x2 : Nat) (x3 : Nat) (x4 : Int32) (x5 : Int32) (A : AS) (dm : DM) (hf : bX8_worths_j154 k47 k56 x2 x3 x4 x5 A dm = some x) : G2 E 8 154 [(2, .ref x2), (3, .ref x3), (4, .int x4), (5, .int x5)] [] mm A dm := by
  unfold bX8_worths_j154 at hf
  obtain ⟨v17, ex, hf⟩ := nm_x hf
  refine w_iinc v17 [(4, .int v17), (2, .ref x2), (3, .ref x3), (5, .int x5)] B 91 rfl 2 rfl (ex.symm) (by decide) rfl ?_
  refine w_goto B 92 rfl 56 (by decide) ?_
  refine w_sub [(2, .ref x2), (3, .ref x3), (4, .int v17), (5, .int x5)] [1, 2, 0, 3] rfl ?_
  exact hk56 _ _ _ _ _ _ hf
def bX8_worths_l56 (k47 : Nat → Nat → Int32 → Int32 → AS → DM → Option (Nat × AS × DM)) : Nat → Nat → Nat → Int32 → Int32 → AS → DM → Option (Nat × AS × DM)
  | 0, _, _, _, _, _, _ => none
  | n + 1, x2, x3, x4, x5, A, dm => gkd A x2 9 (bd (bAL_get A dm x2 x5) (fun r11 => gkd A r11 20 (gkd A r11 20 (gix A r11 (0 : Int32) (gti (dm r11 (0 : Int32).toNatClampNeg) (fun v12 => if x4 < v12 then gkd A x2 9 (bd (bAL_get A dm x2 x5) (fun r14 => gkd A r14 20 (gkd A r14 20 (gix A r14 (1 : Int32) (gti (dm r14 (1 : Int32).toNatClampNeg) (fun v15 => gkd A x3 20 (gix A x3 x4 (nm (up3 dm x3 x4.toNatClampNeg (.int v15)) (fun m16 => if 0 < x5 then gkd A x2 9 (bd (bAL_get A m16 x2 (x5 - (1 : Int32))) (fun r18 => gkd A r18 20 (gkd A x2 9 (bd (bAL_get A m16 x2 x5) (fun r19 => gkd A r19 20 (gkd A r18 20 (gix A r18 (1 : Int32) (gti (m16 r18 (1 : Int32).toNatClampNeg) (fun v20 => gkd A r18 20 (gix A r18 (1 : Int32) (gti (m16 r18 (1 : Int32).toNatClampNeg) (fun v21 => gkd A r19 20 (gix A r19 (1 : Int32) (gti (m16 r19 (1 : Int32).toNatClampNeg) (fun v22 => gkd A r18 20 (gix A r18 (0 : Int32) (gti (m16 r18 (0 : Int32).toNatClampNeg) (fun v23 => gkd A r19 20 (gix A r19 (0 : Int32) (gti (m16 r19 (0 : Int32).toNatClampNeg) (fun v24 => gkd A r18 20 (gix A r18 (0 : Int32) (gti (m16 r18 (0 : Int32).toNatClampNeg) (fun v25 => dvz (v24 - v25) (gkd A x3 20 (gix A x3 x4 (nm (up3 m16 x3 x4.toNatClampNeg (.int (v20 - (((v21 - v22) * ((x4 + (1 : Int32)) - v23)) / (v24 - v25))))) (fun m26 => bX8_worths_j154 k47 (fun x2 x3 x4 x5 A9 dm9 => bX8_worths_l56 k47 n x2 x3 x4 x5 A9 dm9) x2 x3 x4 x5 A m26)))))))))))))))))))))))))))) else bX8_worths_j154 k47 (fun x2 x3 x4 x5 A9 dm9 => bX8_worths_l56 k47 n x2 x3 x4 x5 A9 dm9) x2 x3 x4 x5 A m16))))))))) else nm (x5 + 1) (fun v13 => k47 x2 x3 x4 v13 A dm)))))))
theorem bX8_worths_l56_ok {E : Ev2} {l : Launch} {K : KF} {mm : Mem} {x : Nat × AS × DM} {k47 : Nat → Nat → Int32 → Int32 → AS → DM → Option (Nat × AS × DM)} (X : Ec2 E l K rmFX8_worths rmLX8_worths) (B : Bx2 E RX8 tbX8_worths 8 (some (.array .int))) (hQ : Rt2 E) (hr : Rs2 E (some (.ref x.1)) mm x.2.1 x.2.2) (hk47 : ∀ (x2 : Nat) (x3 : Nat) (x4 : Int32) (x5 : Int32) (A : AS) (dm : DM), k47 x2 x3 x4 x5 A dm = some x → G2 E 8 47 [(2, .ref x2), (3, .ref x3), (4, .int x4), (5, .int x5)] [] mm A dm) (n : Nat) : ∀ (x2 : Nat) (x3 : Nat) (x4 : Int32) (x5 : Int32) (A : AS) (dm : DM), bX8_worths_l56 k47 n x2 x3 x4 x5 A dm = some x → G2 E 8 56 [(2, .ref x2), (3, .ref x3), (4, .int x4), (5, .int x5)] [] mm A dm := by
  induction n with
  | zero =>
    intro x2 x3 x4 x5 A dm hf
    rw [bX8_worths_l56] at hf
    cases hf
  | succ n ih =>
    intro x2 x3 x4 x5 A dm hf
    rw [bX8_worths_l56] at hf
    refine w_iload B 30 rfl 2 rfl ?_
    refine w_aload_n B 31 rfl 2 0 rfl rfl ?_
    refine w_iload B 32 rfl 3 rfl ?_
    obtain ⟨hk, hf⟩ := gkd_e hf
    obtain ⟨r11, ec, hf⟩ := bd_e hf
    refine w_callV x2 [.int x5] [.int x4] [.ref r11, .int x4] X B 33 rfl miAL_get 9 (by decide) hk rfl rfl ⟨(iX8_worths _ (List.mem_of_getElem? (i := 1) rfl)), (iX8_worths _ (List.mem_of_getElem? (i := 2) rfl)), (iX8_worths _ (List.mem_of_getElem? (i := 3) rfl))⟩ (ctAL_get ec) (Or.inl ⟨rfl, rfl⟩) ⟨Nat.le_of_ble_eq_true rfl, Nat.le_of_ble_eq_true rfl⟩ rfl rfl (Nat.le_of_ble_eq_true rfl) rfl ?_
    obtain ⟨hk, hf⟩ := gkd_e hf
    refine w_castI B 34 rfl hk (iX8_worths _ (List.mem_of_getElem? (i := 11) rfl)) ?_
    refine w_iconst 0 B 35 rfl (by decide) ?_
    obtain ⟨hk, hf⟩ := gkd_e hf
    obtain ⟨hx, hf⟩ := gix_e hf
    obtain ⟨v12, ex, hf⟩ := gti_e hf
    refine w_iald B 36 rfl hk hx ex ?_
    by_cases hc : x4 < v12
    · replace hf := (if_pos hc).symm.trans hf
      refine w_icmp_ge_f B 37 rfl 160 (by decide) hc ?_
      refine w_aload_n B 38 rfl 3 1 rfl rfl ?_
      refine w_iload B 39 rfl 2 rfl ?_
      refine w_aload_n B 40 rfl 2 0 rfl rfl ?_
      refine w_iload B 41 rfl 3 rfl ?_
      obtain ⟨hk, hf⟩ := gkd_e hf
      obtain ⟨r14, ec, hf⟩ := bd_e hf
      refine w_callV x2 [.int x5] [.int x4, .ref x3] [.ref r14, .int x4, .ref x3] X B 42 rfl miAL_get 9 (by decide) hk rfl rfl ⟨(iX8_worths _ (List.mem_of_getElem? (i := 1) rfl)), (iX8_worths _ (List.mem_of_getElem? (i := 2) rfl)), (iX8_worths _ (List.mem_of_getElem? (i := 3) rfl))⟩ (ctAL_get ec) (Or.inl ⟨rfl, rfl⟩) ⟨Nat.le_of_ble_eq_true rfl, Nat.le_of_ble_eq_true rfl⟩ rfl rfl (Nat.le_of_ble_eq_true rfl) rfl ?_
      obtain ⟨hk, hf⟩ := gkd_e hf
      refine w_castI B 43 rfl hk (iX8_worths _ (List.mem_of_getElem? (i := 11) rfl)) ?_
      refine w_iconst 1 B 44 rfl (by decide) ?_
      obtain ⟨hk, hf⟩ := gkd_e hf
      obtain ⟨hx, hf⟩ := gix_e hf
      obtain ⟨v15, ex, hf⟩ := gti_e hf
      refine w_iald B 45 rfl hk hx ex ?_
      obtain ⟨hk, hf⟩ := gkd_e hf
      obtain ⟨hx, hf⟩ := gix_e hf
      refine w_iast B 46 rfl hk hx ?_
      obtain ⟨m16, ex, hf⟩ := nm_x hf
      refine w_dmm ex ?_
      refine w_iload B 47 rfl 3 rfl ?_
      by_cases hc : 0 < x5
      · replace hf := (if_pos hc).symm.trans hf
        refine w_if_le_f B 48 rfl 154 (by decide) hc ?_
        refine w_aload_n B 49 rfl 2 0 rfl rfl ?_
        refine w_iload B 50 rfl 3 rfl ?_
        refine w_iconst 1 B 51 rfl (by decide) ?_
        refine w_isub B 52 rfl ?_
        obtain ⟨hk, hf⟩ := gkd_e hf
        obtain ⟨r18, ec, hf⟩ := bd_e hf
        refine w_callV x2 [.int (x5 - (1 : Int32))] [] [.ref r18] X B 53 rfl miAL_get 9 (by decide) hk rfl rfl ⟨(iX8_worths _ (List.mem_of_getElem? (i := 1) rfl)), (iX8_worths _ (List.mem_of_getElem? (i := 2) rfl)), (iX8_worths _ (List.mem_of_getElem? (i := 3) rfl))⟩ (ctAL_get ec) (Or.inl ⟨rfl, rfl⟩) ⟨Nat.le_of_ble_eq_true rfl, Nat.le_of_ble_eq_true rfl⟩ rfl rfl (Nat.le_of_ble_eq_true rfl) rfl ?_
        obtain ⟨hk, hf⟩ := gkd_e hf
        refine w_castI B 54 rfl hk (iX8_worths _ (List.mem_of_getElem? (i := 11) rfl)) ?_
        refine w_astore [(6, .ref r18), (2, .ref x2), (3, .ref x3), (4, .int x4), (5, .int x5)] B 55 rfl (by decide) rfl ?_
        refine w_aload_n B 56 rfl 2 1 rfl rfl ?_
        refine w_iload B 57 rfl 4 rfl ?_
        obtain ⟨hk, hf⟩ := gkd_e hf
        obtain ⟨r19, ec, hf⟩ := bd_e hf
        refine w_callV x2 [.int x5] [] [.ref r19] X B 58 rfl miAL_get 9 (by decide) hk rfl rfl ⟨(iX8_worths _ (List.mem_of_getElem? (i := 1) rfl)), (iX8_worths _ (List.mem_of_getElem? (i := 2) rfl)), (iX8_worths _ (List.mem_of_getElem? (i := 3) rfl))⟩ (ctAL_get ec) (Or.inl ⟨rfl, rfl⟩) ⟨Nat.le_of_ble_eq_true rfl, Nat.le_of_ble_eq_true rfl⟩ rfl rfl (Nat.le_of_ble_eq_true rfl) rfl ?_
        obtain ⟨hk, hf⟩ := gkd_e hf
        refine w_castI B 59 rfl hk (iX8_worths _ (List.mem_of_getElem? (i := 11) rfl)) ?_
        refine w_astore [(7, .ref r19), (6, .ref r18), (2, .ref x2), (3, .ref x3), (4, .int x4), (5, .int x5)] B 60 rfl (by decide) rfl ?_
        refine w_aload_n B 61 rfl 3 3 rfl rfl ?_
        refine w_iload B 62 rfl 4 rfl ?_
        refine w_aload B 63 rfl 1 rfl ?_
        refine w_iconst 1 B 64 rfl (by decide) ?_
        obtain ⟨hk, hf⟩ := gkd_e hf
        obtain ⟨hx, hf⟩ := gix_e hf
        obtain ⟨v20, ex, hf⟩ := gti_e hf
        refine w_iald B 65 rfl hk hx ex ?_
        refine w_aload B 66 rfl 1 rfl ?_
        refine w_iconst 1 B 67 rfl (by decide) ?_
        obtain ⟨hk, hf⟩ := gkd_e hf
        obtain ⟨hx, hf⟩ := gix_e hf
        obtain ⟨v21, ex, hf⟩ := gti_e hf
        refine w_iald B 68 rfl hk hx ex ?_
        refine w_aload B 69 rfl 0 rfl ?_
        refine w_iconst 1 B 70 rfl (by decide) ?_
        obtain ⟨hk, hf⟩ := gkd_e hf
        obtain ⟨hx, hf⟩ := gix_e hf
        obtain ⟨v22, ex, hf⟩ := gti_e hf
        refine w_iald B 71 rfl hk hx ex ?_
        refine w_isub B 72 rfl ?_
        refine w_iload B 73 rfl 4 rfl ?_
        refine w_iconst 1 B 74 rfl (by decide) ?_
        refine w_iadd B 75 rfl ?_
        refine w_aload B 76 rfl 1 rfl ?_
        refine w_iconst 0 B 77 rfl (by decide) ?_
        obtain ⟨hk, hf⟩ := gkd_e hf
        obtain ⟨hx, hf⟩ := gix_e hf
        obtain ⟨v23, ex, hf⟩ := gti_e hf
        refine w_iald B 78 rfl hk hx ex ?_
        refine w_isub B 79 rfl ?_
        refine w_imul B 80 rfl ?_
        refine w_aload B 81 rfl 0 rfl ?_
        refine w_iconst 0 B 82 rfl (by decide) ?_
        obtain ⟨hk, hf⟩ := gkd_e hf
        obtain ⟨hx, hf⟩ := gix_e hf
        obtain ⟨v24, ex, hf⟩ := gti_e hf
        refine w_iald B 83 rfl hk hx ex ?_
        refine w_aload B 84 rfl 1 rfl ?_
        refine w_iconst 0 B 85 rfl (by decide) ?_
        obtain ⟨hk, hf⟩ := gkd_e hf
        obtain ⟨hx, hf⟩ := gix_e hf
        obtain ⟨v25, ex, hf⟩ := gti_e hf
        refine w_iald B 86 rfl hk hx ex ?_
        refine w_isub B 87 rfl ?_
        obtain ⟨hz, hf⟩ := dvz_e hf
        refine w_idiv B 88 rfl hz ?_
        refine w_isub B 89 rfl ?_
        obtain ⟨hk, hf⟩ := gkd_e hf
        obtain ⟨hx, hf⟩ := gix_e hf
        refine w_iast B 90 rfl hk hx ?_
        obtain ⟨m26, ex, hf⟩ := nm_x hf
        refine w_dmm ex ?_
        refine w_sub [(2, .ref x2), (3, .ref x3), (4, .int x4), (5, .int x5)] [2, 3, 4, 5] rfl ?_
        exact bX8_worths_j154_ok X B hQ hr hk47 ih _ _ _ _ _ _ hf
      · replace hf := (if_neg hc).symm.trans hf
        refine w_if_le_t B 48 rfl 154 (by decide) hc ?_
        exact bX8_worths_j154_ok X B hQ hr hk47 ih _ _ _ _ _ _ hf
    · replace hf := (if_neg hc).symm.trans hf
      refine w_icmp_ge_t B 37 rfl 160 (by decide) hc ?_
      obtain ⟨v13, ex, hf⟩ := nm_x hf
      refine w_iinc v13 [(5, .int v13), (2, .ref x2), (3, .ref x3), (4, .int x4)] B 93 rfl 3 rfl (ex.symm) (by decide) rfl ?_
      refine w_goto B 94 rfl 47 (by decide) ?_
      refine w_sub [(2, .ref x2), (3, .ref x3), (4, .int x4), (5, .int v13)] [1, 2, 3, 0] rfl ?_
      exact hk47 _ _ _ _ _ _ hf
def bX8_worths_l47 : Nat → Nat → Nat → Int32 → Int32 → AS → DM → Option (Nat × AS × DM)
  | 0, _, _, _, _, _, _ => none
  | n + 1, x2, x3, x4, x5, A, dm => gkd A x2 9 (bd (bAL_size A dm x2) (fun r10 => if x5 < r10 then bX8_worths_l56 (fun x2 x3 x4 x5 A9 dm9 => bX8_worths_l47 n x2 x3 x4 x5 A9 dm9) FU x2 x3 x4 x5 A dm else some (x3, A, dm)))
theorem bX8_worths_l47_ok {E : Ev2} {l : Launch} {K : KF} {mm : Mem} {x : Nat × AS × DM} (X : Ec2 E l K rmFX8_worths rmLX8_worths) (B : Bx2 E RX8 tbX8_worths 8 (some (.array .int))) (hQ : Rt2 E) (hr : Rs2 E (some (.ref x.1)) mm x.2.1 x.2.2) (n : Nat) : ∀ (x2 : Nat) (x3 : Nat) (x4 : Int32) (x5 : Int32) (A : AS) (dm : DM), bX8_worths_l47 n x2 x3 x4 x5 A dm = some x → G2 E 8 47 [(2, .ref x2), (3, .ref x3), (4, .int x4), (5, .int x5)] [] mm A dm := by
  induction n with
  | zero =>
    intro x2 x3 x4 x5 A dm hf
    rw [bX8_worths_l47] at hf
    cases hf
  | succ n ih =>
    intro x2 x3 x4 x5 A dm hf
    rw [bX8_worths_l47] at hf
    refine w_iload B 26 rfl 3 rfl ?_
    refine w_aload_n B 27 rfl 2 0 rfl rfl ?_
    obtain ⟨hk, hf⟩ := gkd_e hf
    obtain ⟨r10, ec, hf⟩ := bd_e hf
    refine w_callV x2 [] [.int x5] [.int r10, .int x5] X B 28 rfl miAL_size 9 (by decide) hk rfl rfl ⟨(iX8_worths _ (List.mem_of_getElem? (i := 8) rfl)), (iX8_worths _ (List.mem_of_getElem? (i := 9) rfl)), (iX8_worths _ (List.mem_of_getElem? (i := 10) rfl))⟩ (ctAL_size ec) (Or.inl ⟨rfl, rfl⟩) ⟨Nat.le_of_ble_eq_true rfl, Nat.le_of_ble_eq_true rfl⟩ rfl rfl (Nat.le_of_ble_eq_true rfl) rfl ?_
    by_cases hc : x5 < r10
    · replace hf := (if_pos hc).symm.trans hf
      refine w_icmp_ge_f B 29 rfl 166 (by decide) hc ?_
      exact bX8_worths_l56_ok X B hQ hr ih FU _ _ _ _ _ _ hf
    · replace hf := (if_neg hc).symm.trans hf
      refine w_icmp_ge_t B 29 rfl 166 (by decide) hc ?_
      refine w_aload_n B 95 rfl 3 1 rfl rfl ?_
      cases hf
      exact w_aret B 96 rfl (Or.inr ⟨_, rfl⟩) hQ hr
def bX8_worths_j38 (x2 : Nat) (s0 : Int32) (A : AS) (dm : DM) : Option (Nat × AS × DM) := gnn s0 (alc (fun (x : Nat × AS × DM) => x.2.1) A dm 20 s0.toNatClampNeg s0.toNatClampNeg (fun _ => .int 0) (fun q7 A8 m9 => bX8_worths_l47 FU x2 q7 (0 : Int32) (0 : Int32) A8 m9))
theorem bX8_worths_j38_ok {E : Ev2} {l : Launch} {K : KF} {mm : Mem} {x : Nat × AS × DM} (X : Ec2 E l K rmFX8_worths rmLX8_worths) (B : Bx2 E RX8 tbX8_worths 8 (some (.array .int))) (hQ : Rt2 E) (hr : Rs2 E (some (.ref x.1)) mm x.2.1 x.2.2) (x2 : Nat) (s0 : Int32) (A : AS) (dm : DM) (hf : bX8_worths_j38 x2 s0 A dm = some x) : G2 E 8 38 [(2, .ref x2)] [.int s0] mm A dm := by
  unfold bX8_worths_j38 at hf
  obtain ⟨hv, hf⟩ := gnn_e hf
  obtain ⟨q7, A8, m9, hq, hA, hM, hgd, hf⟩ := alc_e hf
  refine w_newI B 20 rfl hr hgd hq hA hM (iX8_worths _ (List.mem_of_getElem? (i := 12) rfl)) hv ?_
  refine w_astore_n [(3, .ref q7), (2, .ref x2)] B 21 rfl 3 rfl (by decide) rfl ?_
  refine w_iconst 0 B 22 rfl (by decide) ?_
  refine w_istore [(4, .int (0 : Int32)), (3, .ref q7), (2, .ref x2)] B 23 rfl (by decide) rfl ?_
  refine w_iconst 0 B 24 rfl (by decide) ?_
  refine w_istore [(5, .int (0 : Int32)), (4, .int (0 : Int32)), (3, .ref q7), (2, .ref x2)] B 25 rfl (by decide) rfl ?_
  refine w_sub [(2, .ref x2), (3, .ref q7), (4, .int (0 : Int32)), (5, .int (0 : Int32))] [3, 2, 1, 0] rfl ?_
  exact bX8_worths_l47_ok X B hQ hr FU _ _ _ _ _ _ hf
def bX8_worths (A : AS) (dm : DM) (a0 : Nat) (a1 : Int32) : Option (Nat × AS × DM) := gkd A a0 8 (gtr (dm a0 1) (fun q1 => gkd A q1 9 (bd (bAL_get A dm q1 a1) (fun r2 => gkd A r2 9 (gkd A r2 9 (bd (bAL_isEmpty A dm r2) (fun r3 => if r3 = 0 then gkd A r2 9 (bd (bAL_size A dm r2) (fun r4 => gkd A r2 9 (bd (bAL_get A dm r2 (r4 - (1 : Int32))) (fun r5 => gkd A r5 20 (gkd A r5 20 (gix A r5 (0 : Int32) (gti (dm r5 (0 : Int32).toNatClampNeg) (fun v6 => bX8_worths_j38 r2 v6 A dm)))))))) else bX8_worths_j38 r2 (0 : Int32) A dm)))))))
theorem ctX8_worths {l : Launch} {K : KF} {mm : Mem} {A : AS} {dm : DM} {a0 : Nat} {a1 : Int32} {x : Nat × AS × DM} (hf : bX8_worths A dm a0 a1 = some x) : Ct2 l K yX8_worths cX8_worths 8 (some (.array .int)) 3 64 [.ref a0, .int a1] mm A dm (some (.ref x.1)) mm x.2.1 x.2.2 := by
  refine Ct2.of (tb := tbX8_worths) miX8_worths.2.1 miX8_worths.1 dtX8_worths (Nat.le_of_ble_eq_true rfl) ?_
  intro E B hQ hr X hI hcd
  clear hI
  clear hcd
  unfold bX8_worths at hf
  show G2 E 8 0 [(0, .ref a0), (1, .int a1)] [] mm A dm
  refine w_aload_n B 0 rfl 0 0 rfl rfl ?_
  obtain ⟨hk, hf⟩ := gkd_e hf
  obtain ⟨q1, ex, hf⟩ := gtr_e hf
  refine w_getr B 1 rfl 8 1 a0 (by decide) hk rfl (iX8_worths _ (List.mem_of_getElem? (i := 0) rfl)) (Or.inl rfl) ex ?_
  refine w_iload_n B 2 rfl 1 1 rfl rfl ?_
  obtain ⟨hk, hf⟩ := gkd_e hf
  obtain ⟨r2, ec, hf⟩ := bd_e hf
  refine w_callV q1 [.int a1] [] [.ref r2] X B 3 rfl miAL_get 9 (by decide) hk rfl rfl ⟨(iX8_worths _ (List.mem_of_getElem? (i := 1) rfl)), (iX8_worths _ (List.mem_of_getElem? (i := 2) rfl)), (iX8_worths _ (List.mem_of_getElem? (i := 3) rfl))⟩ (ctAL_get ec) (Or.inl ⟨rfl, rfl⟩) ⟨Nat.le_of_ble_eq_true rfl, Nat.le_of_ble_eq_true rfl⟩ rfl rfl (Nat.le_of_ble_eq_true rfl) rfl ?_
  obtain ⟨hk, hf⟩ := gkd_e hf
  refine w_castL B 4 rfl hk (iX8_worths _ (List.mem_of_getElem? (i := 4) rfl)) ?_
  refine w_astore_n [(2, .ref r2), (0, .ref a0), (1, .int a1)] B 5 rfl 2 rfl (by decide) rfl ?_
  refine w_aload_n B 6 rfl 2 0 rfl rfl ?_
  obtain ⟨hk, hf⟩ := gkd_e hf
  obtain ⟨r3, ec, hf⟩ := bd_e hf
  refine w_callV r2 [] [] [.int r3] X B 7 rfl miAL_isEmpty 9 (by decide) hk rfl rfl ⟨(iX8_worths _ (List.mem_of_getElem? (i := 5) rfl)), (iX8_worths _ (List.mem_of_getElem? (i := 6) rfl)), (iX8_worths _ (List.mem_of_getElem? (i := 7) rfl))⟩ (ctAL_isEmpty ec) (Or.inl ⟨rfl, rfl⟩) ⟨Nat.le_of_ble_eq_true rfl, Nat.le_of_ble_eq_true rfl⟩ rfl rfl (Nat.le_of_ble_eq_true rfl) rfl ?_
  by_cases hc : r3 = 0
  · replace hf := (if_pos hc).symm.trans hf
    refine w_if_eq_t B 8 rfl 23 (by decide) hc ?_
    refine w_aload_n B 11 rfl 2 0 rfl rfl ?_
    refine w_aload_n B 12 rfl 2 0 rfl rfl ?_
    obtain ⟨hk, hf⟩ := gkd_e hf
    obtain ⟨r4, ec, hf⟩ := bd_e hf
    refine w_callV r2 [] [.ref r2] [.int r4, .ref r2] X B 13 rfl miAL_size 9 (by decide) hk rfl rfl ⟨(iX8_worths _ (List.mem_of_getElem? (i := 8) rfl)), (iX8_worths _ (List.mem_of_getElem? (i := 9) rfl)), (iX8_worths _ (List.mem_of_getElem? (i := 10) rfl))⟩ (ctAL_size ec) (Or.inl ⟨rfl, rfl⟩) ⟨Nat.le_of_ble_eq_true rfl, Nat.le_of_ble_eq_true rfl⟩ rfl rfl (Nat.le_of_ble_eq_true rfl) rfl ?_
    refine w_iconst 1 B 14 rfl (by decide) ?_
    refine w_isub B 15 rfl ?_
    obtain ⟨hk, hf⟩ := gkd_e hf
    obtain ⟨r5, ec, hf⟩ := bd_e hf
    refine w_callV r2 [.int (r4 - (1 : Int32))] [] [.ref r5] X B 16 rfl miAL_get 9 (by decide) hk rfl rfl ⟨(iX8_worths _ (List.mem_of_getElem? (i := 1) rfl)), (iX8_worths _ (List.mem_of_getElem? (i := 2) rfl)), (iX8_worths _ (List.mem_of_getElem? (i := 3) rfl))⟩ (ctAL_get ec) (Or.inl ⟨rfl, rfl⟩) ⟨Nat.le_of_ble_eq_true rfl, Nat.le_of_ble_eq_true rfl⟩ rfl rfl (Nat.le_of_ble_eq_true rfl) rfl ?_
    obtain ⟨hk, hf⟩ := gkd_e hf
    refine w_castI B 17 rfl hk (iX8_worths _ (List.mem_of_getElem? (i := 11) rfl)) ?_
    refine w_iconst 0 B 18 rfl (by decide) ?_
    obtain ⟨hk, hf⟩ := gkd_e hf
    obtain ⟨hx, hf⟩ := gix_e hf
    obtain ⟨v6, ex, hf⟩ := gti_e hf
    refine w_iald B 19 rfl hk hx ex ?_
    refine w_sub [(2, .ref r2)] [0] rfl ?_
    exact bX8_worths_j38_ok X B hQ hr _ _ _ _ hf
  · replace hf := (if_neg hc).symm.trans hf
    refine w_if_eq_f B 8 rfl 23 (by decide) hc ?_
    refine w_iconst 0 B 9 rfl (by decide) ?_
    refine w_goto B 10 rfl 38 (by decide) ?_
    refine w_sub [(2, .ref r2)] [0] rfl ?_
    exact bX8_worths_j38_ok X B hQ hr _ _ _ _ hf
/-! ZoneCapacityLaw$Market.wants(II)I -/
def tbX8_wants : Tb := [(0, .iconst 0, 1, 1), (1, .istore_n 3, 1, 2), (2, .aload_n 0, 1, 3), (3, .iload_n 1, 1, 4), (4, .invokevirtual 76, 3, 7), (7, .astore 4, 2, 9), (9, .aload 4, 2, 11), (11, .arraylength, 1, 12), (12, .istore 5, 2, 14), (14, .iconst 0, 1, 15), (15, .istore 6, 2, 17), (17, .iload 6, 2, 19), (19, .iload 5, 2, 21), (21, .if_icmp .ge 30, 3, 24), (24, .aload 4, 2, 26), (26, .iload 6, 2, 28), (28, .iaload, 1, 29), (29, .istore 7, 2, 31), (31, .iload_n 3, 1, 32), (32, .iload 7, 2, 34), (34, .iload_n 2, 1, 35), (35, .if_icmp .lt 7, 3, 38), (38, .iconst 1, 1, 39), (39, .goto 4, 3, 42), (42, .iconst 0, 1, 43), (43, .iadd, 1, 44), (44, .istore_n 3, 1, 45), (45, .iinc 6 1, 3, 48), (48, .goto (-31), 3, 51), (51, .iload_n 3, 1, 52), (52, .ireturn, 1, 53)]
theorem dtX8_wants : ∀ q ∈ tbX8_wants, decode cX8_wants q.1 = .ok (q.2.1, q.2.2.1) ∧ q.1 + q.2.2.1 = q.2.2.2 := by decide +kernel
theorem miX8_wants : MI yX8_wants cX8_wants 8 (some .int) 2 := ⟨tw_mem (List.mem_of_getElem? (i := 837) (by decide +kernel)) rfl, by decide, by decide +kernel, tw_mem (List.mem_of_getElem? (i := 21) (by decide +kernel)) rfl⟩
abbrev rmFX8_wants : Nat := 4
abbrev rmLX8_wants : Nat := 91
def wX8_wants : List Cond := [.methodLink "ZoneCapacityLaw$Market" 76 yX8_worths, .instanceMethod yX8_worths, .selects "ZoneCapacityLaw$Market" yX8_worths yX8_worths]
theorem iX8_wants : ∀ w ∈ wX8_wants, w ∈ TW := tw_of (ids := [838, 811, 812]) (by decide +kernel)
def bX8_wants_j43 (k17 : Int32 → Int32 → Nat → Int32 → Int32 → AS → DM → Option (Int32 × AS × DM)) (x2 : Int32) (x4 : Nat) (x5 : Int32) (x6 : Int32) (s0 : Int32) (s1 : Int32) (A : AS) (dm : DM) : Option (Int32 × AS × DM) := nm (s1 + s0) (fun v4 => nm (x6 + 1) (fun v5 => k17 x2 v4 x4 x5 v5 A dm))
theorem bX8_wants_j43_ok {E : Ev2} {l : Launch} {K : KF} {mm : Mem} {x : Int32 × AS × DM} {k17 : Int32 → Int32 → Nat → Int32 → Int32 → AS → DM → Option (Int32 × AS × DM)} (X : Ec2 E l K rmFX8_wants rmLX8_wants) (B : Bx2 E RX8 tbX8_wants 8 (some .int)) (hQ : Rt2 E) (hr : Rs2 E (some (.int x.1)) mm x.2.1 x.2.2) (hk17 : ∀ (x2 : Int32) (x3 : Int32) (x4 : Nat) (x5 : Int32) (x6 : Int32) (A : AS) (dm : DM), k17 x2 x3 x4 x5 x6 A dm = some x → G2 E 8 17 [(2, .int x2), (3, .int x3), (4, .ref x4), (5, .int x5), (6, .int x6)] [] mm A dm) (x2 : Int32) (x4 : Nat) (x5 : Int32) (x6 : Int32) (s0 : Int32) (s1 : Int32) (A : AS) (dm : DM) (hf : bX8_wants_j43 k17 x2 x4 x5 x6 s0 s1 A dm = some x) : G2 E 8 43 [(2, .int x2), (4, .ref x4), (5, .int x5), (6, .int x6)] [.int s0, .int s1] mm A dm := by
  unfold bX8_wants_j43 at hf
  refine w_iadd B 25 rfl ?_
  obtain ⟨v4, ex, hf⟩ := nm_x hf
  refine w_top ex ?_
  refine w_istore_n [(3, .int v4), (2, .int x2), (4, .ref x4), (5, .int x5), (6, .int x6)] B 26 rfl 3 rfl (by decide) rfl ?_
  obtain ⟨v5, ex, hf⟩ := nm_x hf
  refine w_iinc v5 [(6, .int v5), (3, .int v4), (2, .int x2), (4, .ref x4), (5, .int x5)] B 27 rfl 4 rfl (ex.symm) (by decide) rfl ?_
  refine w_goto B 28 rfl 17 (by decide) ?_
  refine w_sub [(2, .int x2), (3, .int v4), (4, .ref x4), (5, .int x5), (6, .int v5)] [2, 1, 3, 4, 0] rfl ?_
  exact hk17 _ _ _ _ _ _ _ hf
def bX8_wants_l17 : Nat → Int32 → Int32 → Nat → Int32 → Int32 → AS → DM → Option (Int32 × AS × DM)
  | 0, _, _, _, _, _, _, _ => none
  | n + 1, x2, x3, x4, x5, x6, A, dm => if x6 < x5 then gkd A x4 20 (gix A x4 x6 (gti (dm x4 x6.toNatClampNeg) (fun v3 => if v3 < x2 then bX8_wants_j43 (fun x2 x3 x4 x5 x6 A9 dm9 => bX8_wants_l17 n x2 x3 x4 x5 x6 A9 dm9) x2 x4 x5 x6 (0 : Int32) x3 A dm else bX8_wants_j43 (fun x2 x3 x4 x5 x6 A9 dm9 => bX8_wants_l17 n x2 x3 x4 x5 x6 A9 dm9) x2 x4 x5 x6 (1 : Int32) x3 A dm))) else some (x3, A, dm)
theorem bX8_wants_l17_ok {E : Ev2} {l : Launch} {K : KF} {mm : Mem} {x : Int32 × AS × DM} (X : Ec2 E l K rmFX8_wants rmLX8_wants) (B : Bx2 E RX8 tbX8_wants 8 (some .int)) (hQ : Rt2 E) (hr : Rs2 E (some (.int x.1)) mm x.2.1 x.2.2) (n : Nat) : ∀ (x2 : Int32) (x3 : Int32) (x4 : Nat) (x5 : Int32) (x6 : Int32) (A : AS) (dm : DM), bX8_wants_l17 n x2 x3 x4 x5 x6 A dm = some x → G2 E 8 17 [(2, .int x2), (3, .int x3), (4, .ref x4), (5, .int x5), (6, .int x6)] [] mm A dm := by
  induction n with
  | zero =>
    intro x2 x3 x4 x5 x6 A dm hf
    rw [bX8_wants_l17] at hf
    cases hf
  | succ n ih =>
    intro x2 x3 x4 x5 x6 A dm hf
    rw [bX8_wants_l17] at hf
    refine w_iload B 11 rfl 4 rfl ?_
    refine w_iload B 12 rfl 3 rfl ?_
    by_cases hc : x6 < x5
    · replace hf := (if_pos hc).symm.trans hf
      refine w_icmp_ge_f B 13 rfl 51 (by decide) hc ?_
      refine w_aload B 14 rfl 2 rfl ?_
      refine w_iload B 15 rfl 4 rfl ?_
      obtain ⟨hk, hf⟩ := gkd_e hf
      obtain ⟨hx, hf⟩ := gix_e hf
      obtain ⟨v3, ex, hf⟩ := gti_e hf
      refine w_iald B 16 rfl hk hx ex ?_
      refine w_istore [(7, .int v3), (2, .int x2), (3, .int x3), (4, .ref x4), (5, .int x5), (6, .int x6)] B 17 rfl (by decide) rfl ?_
      refine w_iload_n B 18 rfl 3 2 rfl rfl ?_
      refine w_iload B 19 rfl 0 rfl ?_
      refine w_iload_n B 20 rfl 2 1 rfl rfl ?_
      by_cases hc : v3 < x2
      · replace hf := (if_pos hc).symm.trans hf
        refine w_icmp_lt_t B 21 rfl 42 (by decide) hc ?_
        refine w_iconst 0 B 24 rfl (by decide) ?_
        refine w_sub [(2, .int x2), (4, .ref x4), (5, .int x5), (6, .int x6)] [1, 3, 4, 5] rfl ?_
        exact bX8_wants_j43_ok X B hQ hr ih _ _ _ _ _ _ _ _ hf
      · replace hf := (if_neg hc).symm.trans hf
        refine w_icmp_lt_f B 21 rfl 42 (by decide) hc ?_
        refine w_iconst 1 B 22 rfl (by decide) ?_
        refine w_goto B 23 rfl 43 (by decide) ?_
        refine w_sub [(2, .int x2), (4, .ref x4), (5, .int x5), (6, .int x6)] [1, 3, 4, 5] rfl ?_
        exact bX8_wants_j43_ok X B hQ hr ih _ _ _ _ _ _ _ _ hf
    · replace hf := (if_neg hc).symm.trans hf
      refine w_icmp_ge_t B 13 rfl 51 (by decide) hc ?_
      refine w_iload_n B 29 rfl 3 1 rfl rfl ?_
      cases hf
      exact w_iret B 30 rfl rfl hQ hr
def bX8_wants (A : AS) (dm : DM) (a0 : Nat) (a1 : Int32) (a2 : Int32) : Option (Int32 × AS × DM) := gkd A a0 8 (bdg (fun (x : Int32 × AS × DM) => x.2.1) A (bX8_worths A dm a0 a1) (fun (x : Nat × AS × DM) => x.2.1) (fun r1 => gal r1.2.1 r1.1 (nm (nI (lenA r1.2.1 r1.1)) (fun v2 => bX8_wants_l17 FU a2 (0 : Int32) r1.1 v2 (0 : Int32) r1.2.1 r1.2.2))))
theorem ctX8_wants {l : Launch} {K : KF} {mm : Mem} {A : AS} {dm : DM} {a0 : Nat} {a1 : Int32} {a2 : Int32} {x : Int32 × AS × DM} (hf : bX8_wants A dm a0 a1 a2 = some x) : Ct2 l K yX8_wants cX8_wants 8 (some .int) 4 91 [.ref a0, .int a1, .int a2] mm A dm (some (.int x.1)) mm x.2.1 x.2.2 := by
  refine Ct2.of (tb := tbX8_wants) miX8_wants.2.1 miX8_wants.1 dtX8_wants (Nat.le_of_ble_eq_true rfl) ?_
  intro E B hQ hr X hI hcd
  clear hI
  clear hcd
  unfold bX8_wants at hf
  show G2 E 8 0 [(0, .ref a0), (1, .int a1), (2, .int a2)] [] mm A dm
  refine w_iconst 0 B 0 rfl (by decide) ?_
  refine w_istore_n [(3, .int (0 : Int32)), (0, .ref a0), (1, .int a1), (2, .int a2)] B 1 rfl 3 rfl (by decide) rfl ?_
  refine w_aload_n B 2 rfl 0 1 rfl rfl ?_
  refine w_iload_n B 3 rfl 1 2 rfl rfl ?_
  obtain ⟨hk, hf⟩ := gkd_e hf
  obtain ⟨r1, ec, hgd, hf⟩ := bdg_e hf
  refine w_callV a0 [.int a1] [] [.ref r1.1] X B 4 rfl miX8_worths 8 (by decide) hk rfl rfl ⟨(iX8_wants _ (List.mem_of_getElem? (i := 0) rfl)), (iX8_wants _ (List.mem_of_getElem? (i := 1) rfl)), (iX8_wants _ (List.mem_of_getElem? (i := 2) rfl))⟩ (ctX8_worths ec) (Or.inr ⟨_, _, _, _, hr, hgd⟩) ⟨Nat.le_of_ble_eq_true rfl, Nat.le_of_ble_eq_true rfl⟩ rfl rfl (Nat.le_of_ble_eq_true rfl) rfl ?_
  refine w_astore [(4, .ref r1.1), (3, .int (0 : Int32)), (0, .ref a0), (1, .int a1), (2, .int a2)] B 5 rfl (by decide) rfl ?_
  refine w_aload B 6 rfl 0 rfl ?_
  obtain ⟨hk, hf⟩ := gal_e hf
  refine w_alen B 7 rfl hk ?_
  obtain ⟨v2, ex, hf⟩ := nm_x hf
  refine w_top ex ?_
  refine w_istore [(5, .int v2), (4, .ref r1.1), (3, .int (0 : Int32)), (0, .ref a0), (1, .int a1), (2, .int a2)] B 8 rfl (by decide) rfl ?_
  refine w_iconst 0 B 9 rfl (by decide) ?_
  refine w_istore [(6, .int (0 : Int32)), (5, .int v2), (4, .ref r1.1), (3, .int (0 : Int32)), (0, .ref a0), (1, .int a1), (2, .int a2)] B 10 rfl (by decide) rfl ?_
  refine w_sub [(2, .int a2), (3, .int (0 : Int32)), (4, .ref r1.1), (5, .int v2), (6, .int (0 : Int32))] [6, 3, 2, 1, 0] rfl ?_
  exact bX8_wants_l17_ok X B hQ hr FU _ _ _ _ _ _ _ hf
/-! ZoneCapacityLaw$Market.line(II)[I -/
def tbX8_line : Tb := [(0, .aload_n 0, 1, 1), (1, .getfield 19, 3, 4), (4, .iload_n 1, 1, 5), (5, .invokevirtual 45, 3, 8), (8, .checkcast 49, 3, 11), (11, .astore_n 3, 1, 12), (12, .aload_n 0, 1, 13), (13, .getfield 22, 3, 16), (16, .iload_n 1, 1, 17), (17, .invokevirtual 45, 3, 20), (20, .checkcast 7, 3, 23), (23, .astore 4, 2, 25), (25, .iload_n 2, 1, 26), (26, .aload 4, 2, 28), (28, .invokevirtual 41, 3, 31), (31, .if_icmp .ge 84, 3, 34), (34, .aload 4, 2, 36), (36, .iload_n 2, 1, 37), (37, .invokevirtual 45, 3, 40), (40, .checkcast 49, 3, 43), (43, .iconst 1, 1, 44), (44, .iaload, 1, 45), (45, .istore 5, 2, 47), (47, .aload_n 3, 1, 48), (48, .iconst 5, 1, 49), (49, .iaload, 1, 50), (50, .ifCond .ne 19, 3, 53), (53, .iload 5, 2, 55), (55, .aload_n 0, 1, 56), (56, .getfield 25, 3, 59), (59, .aload_n 3, 1, 60), (60, .iconst 2, 1, 61), (61, .iaload, 1, 62), (62, .iaload, 1, 63), (63, .invokestatic 80, 3, 66), (66, .goto 5, 3, 69), (69, .iload 5, 2, 71), (71, .istore 5, 2, 73), (73, .iconst 2, 1, 74), (74, .newarray .int, 2, 76), (76, .dup, 1, 77), (77, .iconst 0, 1, 78), (78, .aload 4, 2, 80), (80, .iload_n 2, 1, 81), (81, .invokevirtual 45, 3, 84), (84, .checkcast 49, 3, 87), (87, .iconst 0, 1, 88), (88, .iaload, 1, 89), (89, .iastore, 1, 90), (90, .dup, 1, 91), (91, .iconst 1, 1, 92), (92, .aload_n 3, 1, 93), (93, .iconst 4, 1, 94), (94, .iaload, 1, 95), (95, .iconst 1, 1, 96), (96, .if_icmp .ne 15, 3, 99), (99, .iload 5, 2, 101), (101, .aload_n 0, 1, 102), (102, .getfield 29, 3, 105), (105, .invokestatic 86, 3, 108), (108, .goto 5, 3, 111), (111, .iload 5, 2, 113), (113, .iastore, 1, 114), (114, .areturn, 1, 115), (115, .aload_n 3, 1, 116), (116, .iconst 1, 1, 117), (117, .iaload, 1, 118), (118, .istore 5, 2, 120), (120, .aload 4, 2, 122), (122, .invokevirtual 54, 3, 125), (125, .astore 6, 2, 127), (127, .aload 6, 2, 129), (129, .invokeinterface 58 1, 5, 134), (134, .ifCond .eq 27, 3, 137), (137, .aload 6, 2, 139), (139, .invokeinterface 64 1, 5, 144), (144, .checkcast 49, 3, 147), (147, .astore 7, 2, 149), (149, .iload 5, 2, 151), (151, .aload 7, 2, 153), (153, .iconst 0, 1, 154), (154, .iaload, 1, 155), (155, .isub, 1, 156), (156, .istore 5, 2, 158), (158, .goto (-31), 3, 161), (161, .iconst 2, 1, 162), (162, .newarray .int, 2, 164), (164, .dup, 1, 165), (165, .iconst 0, 1, 166), (166, .iload_n 2, 1, 167), (167, .iconst 3, 1, 168), (168, .if_icmp .ne 15, 3, 171), (171, .aload_n 3, 1, 172), (172, .iconst 4, 1, 173), (173, .iaload, 1, 174), (174, .iconst 1, 1, 175), (175, .if_icmp .ne 8, 3, 178), (178, .iload 5, 2, 180), (180, .goto 4, 3, 183), (183, .iconst 0, 1, 184), (184, .iastore, 1, 185), (185, .dup, 1, 186), (186, .iconst 1, 1, 187), (187, .iconst 0, 1, 188), (188, .iastore, 1, 189), (189, .areturn, 1, 190)]
theorem dtX8_line : ∀ q ∈ tbX8_line, decode cX8_line q.1 = .ok (q.2.1, q.2.2.1) ∧ q.1 + q.2.2.1 = q.2.2.2 := by decide +kernel
theorem miX8_line : MI yX8_line cX8_line 8 (some (.array .int)) 2 := ⟨tw_mem (List.mem_of_getElem? (i := 856) (by decide +kernel)) rfl, by decide, by decide +kernel, tw_mem (List.mem_of_getElem? (i := 21) (by decide +kernel)) rfl⟩
abbrev rmFX8_line : Nat := 3
abbrev rmLX8_line : Nat := 73
def wX8_line : List Cond := [.fieldLink "ZoneCapacityLaw$Market" 19 "ZoneCapacityLaw$Market" "resources" "Ljava/util/ArrayList;", .methodLink "ZoneCapacityLaw$Market" 45 yJx4a65c_get_915e3, .instanceMethod yJx4a65c_get_915e3, .selects "java/util/ArrayList" yJx4a65c_get_915e3 yJx4a65c_get_915e3, .classLink "ZoneCapacityLaw$Market" 49 "[I", .fieldLink "ZoneCapacityLaw$Market" 22 "ZoneCapacityLaw$Market" "steps" "Ljava/util/ArrayList;", .classLink "ZoneCapacityLaw$Market" 7 "java/util/ArrayList", .methodLink "ZoneCapacityLaw$Market" 41 yJx4a65c_size_8abf5, .instanceMethod yJx4a65c_size_8abf5, .selects "java/util/ArrayList" yJx4a65c_size_8abf5 yJx4a65c_size_8abf5, .methodLink "ZoneCapacityLaw$Market" 54 yJx4a65c_iterator_32c93, .instanceMethod yJx4a65c_iterator_32c93, .selects "java/util/ArrayList" yJx4a65c_iterator_32c93 yJx4a65c_iterator_32c93, .methodLink "ZoneCapacityLaw$Market" 58 ⟨"java/util/Iterator", "hasNext", "()Z"⟩, .instanceMethod yJx35411_hasNext_aae02, .selects "java/util/ArrayList$Itr" ⟨"java/util/Iterator", "hasNext", "()Z"⟩ yJx35411_hasNext_aae02, .arrayClass .int, .methodLink "ZoneCapacityLaw$Market" 64 ⟨"java/util/Iterator", "next", "()Ljava/lang/Object;"⟩, .instanceMethod yJx35411_next_0502b, .selects "java/util/ArrayList$Itr" ⟨"java/util/Iterator", "next", "()Ljava/lang/Object;"⟩ yJx35411_next_0502b, .fieldLink "ZoneCapacityLaw$Market" 29 "ZoneCapacityLaw$Market" "ceiling" "I", .methodLink "ZoneCapacityLaw$Market" 86 Lib.Math.min.name, .static Lib.Math.min.name, .initialized "java/lang/Math", .code Lib.Math.min.name Lib.Math.min.code 2 (some .int), .fieldLink "ZoneCapacityLaw$Market" 25 "ZoneCapacityLaw$Market" "floors" "[I", .methodLink "ZoneCapacityLaw$Market" 80 Lib.Math.max.name, .static Lib.Math.max.name, .code Lib.Math.max.name Lib.Math.max.code 2 (some .int)]
theorem iX8_line : ∀ w ∈ wX8_line, w ∈ TW := tw_of (ids := [546, 814, 762, 763, 820, 548, 458, 819, 775, 776, 859, 860, 861, 883, 889, 887, 98, 893, 898, 896, 552, 858, 357, 26, 358, 550, 857, 354, 355]) (by decide +kernel)
def bX8_line_j184 (s0 : Int32) (s1 : Int32) (s2 : Nat) (s3 : Nat) (A : AS) (dm : DM) : Option (Nat × AS × DM) := gkd A s2 20 (gix A s2 s1 (nm (up3 dm s2 s1.toNatClampNeg (.int s0)) (fun m12 => gkd A s3 20 (gix A s3 (1 : Int32) (nm (up3 m12 s3 (1 : Int32).toNatClampNeg (.int (0 : Int32))) (fun m13 => some (s3, A, m13)))))))
theorem bX8_line_j184_ok {E : Ev2} {l : Launch} {K : KF} {mm : Mem} {x : Nat × AS × DM} (X : Ec2 E l K rmFX8_line rmLX8_line) (B : Bx2 E RX8 tbX8_line 8 (some (.array .int))) (hQ : Rt2 E) (hr : Rs2 E (some (.ref x.1)) mm x.2.1 x.2.2) (s0 : Int32) (s1 : Int32) (s2 : Nat) (s3 : Nat) (A : AS) (dm : DM) (hf : bX8_line_j184 s0 s1 s2 s3 A dm = some x) : G2 E 8 184 [] [.int s0, .int s1, .ref s2, .ref s3] mm A dm := by
  unfold bX8_line_j184 at hf
  obtain ⟨hk, hf⟩ := gkd_e hf
  obtain ⟨hx, hf⟩ := gix_e hf
  refine w_iast B 100 rfl hk hx ?_
  obtain ⟨m12, ex, hf⟩ := nm_x hf
  refine w_dmm ex ?_
  refine w_dup B 101 rfl rfl ?_
  refine w_iconst 1 B 102 rfl (by decide) ?_
  refine w_iconst 0 B 103 rfl (by decide) ?_
  obtain ⟨hk, hf⟩ := gkd_e hf
  obtain ⟨hx, hf⟩ := gix_e hf
  refine w_iast B 104 rfl hk hx ?_
  obtain ⟨m13, ex, hf⟩ := nm_x hf
  refine w_dmm ex ?_
  cases hf
  exact w_aret B 105 rfl (Or.inr ⟨_, rfl⟩) hQ hr
def bX8_line_j183 (s0 : Int32) (s1 : Nat) (s2 : Nat) (A : AS) (dm : DM) : Option (Nat × AS × DM) := bX8_line_j184 (0 : Int32) s0 s1 s2 A dm
theorem bX8_line_j183_ok {E : Ev2} {l : Launch} {K : KF} {mm : Mem} {x : Nat × AS × DM} (X : Ec2 E l K rmFX8_line rmLX8_line) (B : Bx2 E RX8 tbX8_line 8 (some (.array .int))) (hQ : Rt2 E) (hr : Rs2 E (some (.ref x.1)) mm x.2.1 x.2.2) (s0 : Int32) (s1 : Nat) (s2 : Nat) (A : AS) (dm : DM) (hf : bX8_line_j183 s0 s1 s2 A dm = some x) : G2 E 8 183 [] [.int s0, .ref s1, .ref s2] mm A dm := by
  unfold bX8_line_j183 at hf
  refine w_iconst 0 B 99 rfl (by decide) ?_
  exact bX8_line_j184_ok X B hQ hr _ _ _ _ _ _ hf
def bX8_line_l127 : Nat → Int32 → Nat → Int32 → Nat → AS → DM → Option (Nat × AS × DM)
  | 0, _, _, _, _, _, _ => none
  | n + 1, x2, x3, x5, x6, A, dm => gkd A x6 10 (bd (bIT_hasNext A dm x6) (fun r8 => if r8 = 0 then gnn (2 : Int32) (alc (fun (x : Nat × AS × DM) => x.2.1) A dm 20 (2 : Int32).toNatClampNeg (2 : Int32).toNatClampNeg (fun _ => .int 0) (fun q9 A10 m11 => if x2 = (3 : Int32) then gkd A10 x3 20 (gix A10 x3 (4 : Int32) (gti (m11 x3 (4 : Int32).toNatClampNeg) (fun v14 => if v14 = (1 : Int32) then bX8_line_j184 x5 (0 : Int32) q9 q9 A10 m11 else bX8_line_j183 (0 : Int32) q9 q9 A10 m11))) else bX8_line_j183 (0 : Int32) q9 q9 A10 m11)) else gkd A x6 10 (bd (bIT_next A dm x6) (fun r15 => gkd A r15.1 20 (gkd A r15.1 20 (gix A r15.1 (0 : Int32) (gti (r15.2 r15.1 (0 : Int32).toNatClampNeg) (fun v16 => nm (x5 - v16) (fun v17 => bX8_line_l127 n x2 x3 v17 x6 A r15.2)))))))))
theorem bX8_line_l127_ok {E : Ev2} {l : Launch} {K : KF} {mm : Mem} {x : Nat × AS × DM} (X : Ec2 E l K rmFX8_line rmLX8_line) (B : Bx2 E RX8 tbX8_line 8 (some (.array .int))) (hQ : Rt2 E) (hr : Rs2 E (some (.ref x.1)) mm x.2.1 x.2.2) (n : Nat) : ∀ (x2 : Int32) (x3 : Nat) (x5 : Int32) (x6 : Nat) (A : AS) (dm : DM), bX8_line_l127 n x2 x3 x5 x6 A dm = some x → G2 E 8 127 [(2, .int x2), (3, .ref x3), (5, .int x5), (6, .ref x6)] [] mm A dm := by
  induction n with
  | zero =>
    intro x2 x3 x5 x6 A dm hf
    rw [bX8_line_l127] at hf
    cases hf
  | succ n ih =>
    intro x2 x3 x5 x6 A dm hf
    rw [bX8_line_l127] at hf
    refine w_aload B 71 rfl 3 rfl ?_
    obtain ⟨hk, hf⟩ := gkd_e hf
    obtain ⟨r8, ec, hf⟩ := bd_e hf
    refine w_callF x6 [] [] [.int r8] X B 72 rfl miIT_hasNext 10 (by decide) hk rfl rfl (z := ⟨"java/util/Iterator", "hasNext", "()Z"⟩) ⟨(iX8_line _ (List.mem_of_getElem? (i := 13) rfl)), (iX8_line _ (List.mem_of_getElem? (i := 14) rfl)), (iX8_line _ (List.mem_of_getElem? (i := 15) rfl))⟩ ⟨tf_of (i := 885) (by decide +kernel), tf_of (i := 884) (by decide +kernel), tf_of (i := 890) (by decide +kernel), tf_of (i := 888) (by decide +kernel), tf_of (i := 886) (by decide +kernel)⟩ (by decide +kernel) (ctIT_hasNext ec) (Or.inl ⟨rfl, rfl⟩) ⟨Nat.le_of_ble_eq_true rfl, Nat.le_of_ble_eq_true rfl⟩ rfl rfl (Nat.le_of_ble_eq_true rfl) rfl ?_
    by_cases hc : r8 = 0
    · replace hf := (if_pos hc).symm.trans hf
      refine w_if_eq_t B 73 rfl 161 (by decide) hc ?_
      refine w_iconst 2 B 85 rfl (by decide) ?_
      obtain ⟨hv, hf⟩ := gnn_e hf
      obtain ⟨q9, A10, m11, hq, hA, hM, hgd, hf⟩ := alc_e hf
      refine w_newI B 86 rfl hr hgd hq hA hM (iX8_line _ (List.mem_of_getElem? (i := 16) rfl)) hv ?_
      refine w_dup B 87 rfl rfl ?_
      refine w_iconst 0 B 88 rfl (by decide) ?_
      refine w_iload_n B 89 rfl 2 0 rfl rfl ?_
      refine w_iconst 3 B 90 rfl (by decide) ?_
      by_cases hc : x2 = (3 : Int32)
      · replace hf := (if_pos hc).symm.trans hf
        refine w_icmp_ne_f B 91 rfl 183 (by decide) hc ?_
        refine w_aload_n B 92 rfl 3 1 rfl rfl ?_
        refine w_iconst 4 B 93 rfl (by decide) ?_
        obtain ⟨hk, hf⟩ := gkd_e hf
        obtain ⟨hx, hf⟩ := gix_e hf
        obtain ⟨v14, ex, hf⟩ := gti_e hf
        refine w_iald B 94 rfl hk hx ex ?_
        refine w_iconst 1 B 95 rfl (by decide) ?_
        by_cases hc : v14 = (1 : Int32)
        · replace hf := (if_pos hc).symm.trans hf
          refine w_icmp_ne_f B 96 rfl 183 (by decide) hc ?_
          refine w_iload B 97 rfl 2 rfl ?_
          refine w_goto B 98 rfl 184 (by decide) ?_
          refine w_sub [] [] rfl ?_
          exact bX8_line_j184_ok X B hQ hr _ _ _ _ _ _ hf
        · replace hf := (if_neg hc).symm.trans hf
          refine w_icmp_ne_t B 96 rfl 183 (by decide) hc ?_
          refine w_sub [] [] rfl ?_
          exact bX8_line_j183_ok X B hQ hr _ _ _ _ _ hf
      · replace hf := (if_neg hc).symm.trans hf
        refine w_icmp_ne_t B 91 rfl 183 (by decide) hc ?_
        refine w_sub [] [] rfl ?_
        exact bX8_line_j183_ok X B hQ hr _ _ _ _ _ hf
    · replace hf := (if_neg hc).symm.trans hf
      refine w_if_eq_f B 73 rfl 161 (by decide) hc ?_
      refine w_aload B 74 rfl 3 rfl ?_
      obtain ⟨hk, hf⟩ := gkd_e hf
      obtain ⟨r15, ec, hf⟩ := bd_e hf
      refine w_callF x6 [] [] [.ref r15.1] X B 75 rfl miIT_next 10 (by decide) hk rfl rfl (z := ⟨"java/util/Iterator", "next", "()Ljava/lang/Object;"⟩) ⟨(iX8_line _ (List.mem_of_getElem? (i := 17) rfl)), (iX8_line _ (List.mem_of_getElem? (i := 18) rfl)), (iX8_line _ (List.mem_of_getElem? (i := 19) rfl))⟩ ⟨tf_of (i := 895) (by decide +kernel), tf_of (i := 894) (by decide +kernel), tf_of (i := 899) (by decide +kernel), tf_of (i := 897) (by decide +kernel), tf_of (i := 886) (by decide +kernel)⟩ (by decide +kernel) (ctIT_next ec) (Or.inl ⟨rfl, rfl⟩) ⟨Nat.le_of_ble_eq_true rfl, Nat.le_of_ble_eq_true rfl⟩ rfl rfl (Nat.le_of_ble_eq_true rfl) rfl ?_
      obtain ⟨hk, hf⟩ := gkd_e hf
      refine w_castI B 76 rfl hk (iX8_line _ (List.mem_of_getElem? (i := 4) rfl)) ?_
      refine w_astore [(7, .ref r15.1), (2, .int x2), (3, .ref x3), (5, .int x5), (6, .ref x6)] B 77 rfl (by decide) rfl ?_
      refine w_iload B 78 rfl 3 rfl ?_
      refine w_aload B 79 rfl 0 rfl ?_
      refine w_iconst 0 B 80 rfl (by decide) ?_
      obtain ⟨hk, hf⟩ := gkd_e hf
      obtain ⟨hx, hf⟩ := gix_e hf
      obtain ⟨v16, ex, hf⟩ := gti_e hf
      refine w_iald B 81 rfl hk hx ex ?_
      refine w_isub B 82 rfl ?_
      obtain ⟨v17, ex, hf⟩ := nm_x hf
      refine w_top ex ?_
      refine w_istore [(5, .int v17), (7, .ref r15.1), (2, .int x2), (3, .ref x3), (6, .ref x6)] B 83 rfl (by decide) rfl ?_
      refine w_goto B 84 rfl 127 (by decide) ?_
      refine w_sub [(2, .int x2), (3, .ref x3), (5, .int v17), (6, .ref x6)] [2, 3, 0, 4] rfl ?_
      exact ih _ _ _ _ _ _ hf
def bX8_line_j113 (s0 : Int32) (s1 : Int32) (s2 : Nat) (s3 : Nat) (A : AS) (dm : DM) : Option (Nat × AS × DM) := gkd A s2 20 (gix A s2 s1 (nm (up3 dm s2 s1.toNatClampNeg (.int s0)) (fun m28 => some (s3, A, m28))))
theorem bX8_line_j113_ok {E : Ev2} {l : Launch} {K : KF} {mm : Mem} {x : Nat × AS × DM} (X : Ec2 E l K rmFX8_line rmLX8_line) (B : Bx2 E RX8 tbX8_line 8 (some (.array .int))) (hQ : Rt2 E) (hr : Rs2 E (some (.ref x.1)) mm x.2.1 x.2.2) (s0 : Int32) (s1 : Int32) (s2 : Nat) (s3 : Nat) (A : AS) (dm : DM) (hf : bX8_line_j113 s0 s1 s2 s3 A dm = some x) : G2 E 8 113 [] [.int s0, .int s1, .ref s2, .ref s3] mm A dm := by
  unfold bX8_line_j113 at hf
  obtain ⟨hk, hf⟩ := gkd_e hf
  obtain ⟨hx, hf⟩ := gix_e hf
  refine w_iast B 62 rfl hk hx ?_
  obtain ⟨m28, ex, hf⟩ := nm_x hf
  refine w_dmm ex ?_
  cases hf
  exact w_aret B 63 rfl (Or.inr ⟨_, rfl⟩) hQ hr
def bX8_line_j71 (x0 : Nat) (x2 : Int32) (x3 : Nat) (x4 : Nat) (s0 : Int32) (A : AS) (dm : DM) : Option (Nat × AS × DM) := gnn (2 : Int32) (alc (fun (x : Nat × AS × DM) => x.2.1) A dm 20 (2 : Int32).toNatClampNeg (2 : Int32).toNatClampNeg (fun _ => .int 0) (fun q21 A22 m23 => gkd A22 x4 9 (bd (bAL_get A22 m23 x4 x2) (fun r24 => gkd A22 r24 20 (gkd A22 r24 20 (gix A22 r24 (0 : Int32) (gti (m23 r24 (0 : Int32).toNatClampNeg) (fun v25 => gkd A22 q21 20 (gix A22 q21 (0 : Int32) (nm (up3 m23 q21 (0 : Int32).toNatClampNeg (.int v25)) (fun m26 => gkd A22 x3 20 (gix A22 x3 (4 : Int32) (gti (m26 x3 (4 : Int32).toNatClampNeg) (fun v27 => if v27 = (1 : Int32) then gkd A22 x0 8 (gti (m26 x0 5) (fun v29 => nm (mni s0 v29) (fun v30 => bX8_line_j113 v30 (1 : Int32) q21 q21 A22 m26))) else bX8_line_j113 s0 (1 : Int32) q21 q21 A22 m26))))))))))))))
theorem bX8_line_j71_ok {E : Ev2} {l : Launch} {K : KF} {mm : Mem} {x : Nat × AS × DM} (X : Ec2 E l K rmFX8_line rmLX8_line) (B : Bx2 E RX8 tbX8_line 8 (some (.array .int))) (hQ : Rt2 E) (hr : Rs2 E (some (.ref x.1)) mm x.2.1 x.2.2) (x0 : Nat) (x2 : Int32) (x3 : Nat) (x4 : Nat) (s0 : Int32) (A : AS) (dm : DM) (hf : bX8_line_j71 x0 x2 x3 x4 s0 A dm = some x) : G2 E 8 71 [(0, .ref x0), (2, .int x2), (3, .ref x3), (4, .ref x4)] [.int s0] mm A dm := by
  unfold bX8_line_j71 at hf
  refine w_istore [(5, .int s0), (0, .ref x0), (2, .int x2), (3, .ref x3), (4, .ref x4)] B 37 rfl (by decide) rfl ?_
  refine w_iconst 2 B 38 rfl (by decide) ?_
  obtain ⟨hv, hf⟩ := gnn_e hf
  obtain ⟨q21, A22, m23, hq, hA, hM, hgd, hf⟩ := alc_e hf
  refine w_newI B 39 rfl hr hgd hq hA hM (iX8_line _ (List.mem_of_getElem? (i := 16) rfl)) hv ?_
  refine w_dup B 40 rfl rfl ?_
  refine w_iconst 0 B 41 rfl (by decide) ?_
  refine w_aload B 42 rfl 4 rfl ?_
  refine w_iload_n B 43 rfl 2 2 rfl rfl ?_
  obtain ⟨hk, hf⟩ := gkd_e hf
  obtain ⟨r24, ec, hf⟩ := bd_e hf
  refine w_callV x4 [.int x2] [.int (0 : Int32), .ref q21, .ref q21] [.ref r24, .int (0 : Int32), .ref q21, .ref q21] X B 44 rfl miAL_get 9 (by decide) hk rfl rfl ⟨(iX8_line _ (List.mem_of_getElem? (i := 1) rfl)), (iX8_line _ (List.mem_of_getElem? (i := 2) rfl)), (iX8_line _ (List.mem_of_getElem? (i := 3) rfl))⟩ (ctAL_get ec) (Or.inl ⟨rfl, rfl⟩) ⟨Nat.le_of_ble_eq_true rfl, Nat.le_of_ble_eq_true rfl⟩ rfl rfl (Nat.le_of_ble_eq_true rfl) rfl ?_
  obtain ⟨hk, hf⟩ := gkd_e hf
  refine w_castI B 45 rfl hk (iX8_line _ (List.mem_of_getElem? (i := 4) rfl)) ?_
  refine w_iconst 0 B 46 rfl (by decide) ?_
  obtain ⟨hk, hf⟩ := gkd_e hf
  obtain ⟨hx, hf⟩ := gix_e hf
  obtain ⟨v25, ex, hf⟩ := gti_e hf
  refine w_iald B 47 rfl hk hx ex ?_
  obtain ⟨hk, hf⟩ := gkd_e hf
  obtain ⟨hx, hf⟩ := gix_e hf
  refine w_iast B 48 rfl hk hx ?_
  obtain ⟨m26, ex, hf⟩ := nm_x hf
  refine w_dmm ex ?_
  refine w_dup B 49 rfl rfl ?_
  refine w_iconst 1 B 50 rfl (by decide) ?_
  refine w_aload_n B 51 rfl 3 3 rfl rfl ?_
  refine w_iconst 4 B 52 rfl (by decide) ?_
  obtain ⟨hk, hf⟩ := gkd_e hf
  obtain ⟨hx, hf⟩ := gix_e hf
  obtain ⟨v27, ex, hf⟩ := gti_e hf
  refine w_iald B 53 rfl hk hx ex ?_
  refine w_iconst 1 B 54 rfl (by decide) ?_
  by_cases hc : v27 = (1 : Int32)
  · replace hf := (if_pos hc).symm.trans hf
    refine w_icmp_ne_f B 55 rfl 111 (by decide) hc ?_
    refine w_iload B 56 rfl 0 rfl ?_
    refine w_aload_n B 57 rfl 0 1 rfl rfl ?_
    obtain ⟨hk, hf⟩ := gkd_e hf
    obtain ⟨v29, ex, hf⟩ := gti_e hf
    refine w_geti B 58 rfl 8 5 x0 (by decide) hk rfl (iX8_line _ (List.mem_of_getElem? (i := 20) rfl)) (Or.inl rfl) ex ?_
    refine w_mmin X B 59 rfl ⟨(iX8_line _ (List.mem_of_getElem? (i := 21) rfl)), (iX8_line _ (List.mem_of_getElem? (i := 22) rfl)), (iX8_line _ (List.mem_of_getElem? (i := 23) rfl)), (iX8_line _ (List.mem_of_getElem? (i := 24) rfl))⟩ ⟨Nat.le_of_ble_eq_true rfl, Nat.le_of_ble_eq_true rfl⟩ (Nat.le_of_ble_eq_true rfl) ?_
    obtain ⟨v30, ex, hf⟩ := nm_x hf
    refine w_top ex ?_
    refine w_goto B 60 rfl 113 (by decide) ?_
    refine w_sub [] [] rfl ?_
    exact bX8_line_j113_ok X B hQ hr _ _ _ _ _ _ hf
  · replace hf := (if_neg hc).symm.trans hf
    refine w_icmp_ne_t B 55 rfl 111 (by decide) hc ?_
    refine w_iload B 61 rfl 0 rfl ?_
    refine w_sub [] [] rfl ?_
    exact bX8_line_j113_ok X B hQ hr _ _ _ _ _ _ hf
def bX8_line (A : AS) (dm : DM) (a0 : Nat) (a1 : Int32) (a2 : Int32) : Option (Nat × AS × DM) := gkd A a0 8 (gtr (dm a0 2) (fun q1 => gkd A q1 9 (bd (bAL_get A dm q1 a1) (fun r2 => gkd A r2 20 (gkd A a0 8 (gtr (dm a0 3) (fun q3 => gkd A q3 9 (bd (bAL_get A dm q3 a1) (fun r4 => gkd A r4 9 (gkd A r4 9 (bd (bAL_size A dm r4) (fun r5 => if a2 < r5 then gkd A r4 9 (bd (bAL_get A dm r4 a2) (fun r18 => gkd A r18 20 (gkd A r18 20 (gix A r18 (1 : Int32) (gti (dm r18 (1 : Int32).toNatClampNeg) (fun v19 => gkd A r2 20 (gix A r2 (5 : Int32) (gti (dm r2 (5 : Int32).toNatClampNeg) (fun v20 => if v20 = 0 then gkd A a0 8 (gtr (dm a0 4) (fun q31 => gkd A r2 20 (gix A r2 (2 : Int32) (gti (dm r2 (2 : Int32).toNatClampNeg) (fun v32 => gkd A q31 20 (gix A q31 v32 (gti (dm q31 v32.toNatClampNeg) (fun v33 => nm (mxi v19 v33) (fun v34 => bX8_line_j71 a0 a2 r2 r4 v34 A dm))))))))) else bX8_line_j71 a0 a2 r2 r4 v19 A dm))))))))) else gkd A r2 20 (gix A r2 (1 : Int32) (gti (dm r2 (1 : Int32).toNatClampNeg) (fun v6 => gkd A r4 9 (bdg (fun (x : Nat × AS × DM) => x.2.1) A (bAL_iterator A dm r4) (fun (x : Nat × AS × DM) => x.2.1) (fun r7 => bX8_line_l127 FU a2 r2 v6 r7.1 r7.2.1 r7.2.2)))))))))))))))))
theorem ctX8_line {l : Launch} {K : KF} {mm : Mem} {A : AS} {dm : DM} {a0 : Nat} {a1 : Int32} {a2 : Int32} {x : Nat × AS × DM} (hf : bX8_line A dm a0 a1 a2 = some x) : Ct2 l K yX8_line cX8_line 8 (some (.array .int)) 3 73 [.ref a0, .int a1, .int a2] mm A dm (some (.ref x.1)) mm x.2.1 x.2.2 := by
  refine Ct2.of (tb := tbX8_line) miX8_line.2.1 miX8_line.1 dtX8_line (Nat.le_of_ble_eq_true rfl) ?_
  intro E B hQ hr X hI hcd
  clear hI
  clear hcd
  unfold bX8_line at hf
  show G2 E 8 0 [(0, .ref a0), (1, .int a1), (2, .int a2)] [] mm A dm
  refine w_aload_n B 0 rfl 0 0 rfl rfl ?_
  obtain ⟨hk, hf⟩ := gkd_e hf
  obtain ⟨q1, ex, hf⟩ := gtr_e hf
  refine w_getr B 1 rfl 8 2 a0 (by decide) hk rfl (iX8_line _ (List.mem_of_getElem? (i := 0) rfl)) (Or.inl rfl) ex ?_
  refine w_iload_n B 2 rfl 1 1 rfl rfl ?_
  obtain ⟨hk, hf⟩ := gkd_e hf
  obtain ⟨r2, ec, hf⟩ := bd_e hf
  refine w_callV q1 [.int a1] [] [.ref r2] X B 3 rfl miAL_get 9 (by decide) hk rfl rfl ⟨(iX8_line _ (List.mem_of_getElem? (i := 1) rfl)), (iX8_line _ (List.mem_of_getElem? (i := 2) rfl)), (iX8_line _ (List.mem_of_getElem? (i := 3) rfl))⟩ (ctAL_get ec) (Or.inl ⟨rfl, rfl⟩) ⟨Nat.le_of_ble_eq_true rfl, Nat.le_of_ble_eq_true rfl⟩ rfl rfl (Nat.le_of_ble_eq_true rfl) rfl ?_
  obtain ⟨hk, hf⟩ := gkd_e hf
  refine w_castI B 4 rfl hk (iX8_line _ (List.mem_of_getElem? (i := 4) rfl)) ?_
  refine w_astore_n [(3, .ref r2), (0, .ref a0), (1, .int a1), (2, .int a2)] B 5 rfl 3 rfl (by decide) rfl ?_
  refine w_aload_n B 6 rfl 0 1 rfl rfl ?_
  obtain ⟨hk, hf⟩ := gkd_e hf
  obtain ⟨q3, ex, hf⟩ := gtr_e hf
  refine w_getr B 7 rfl 8 3 a0 (by decide) hk rfl (iX8_line _ (List.mem_of_getElem? (i := 5) rfl)) (Or.inl rfl) ex ?_
  refine w_iload_n B 8 rfl 1 2 rfl rfl ?_
  obtain ⟨hk, hf⟩ := gkd_e hf
  obtain ⟨r4, ec, hf⟩ := bd_e hf
  refine w_callV q3 [.int a1] [] [.ref r4] X B 9 rfl miAL_get 9 (by decide) hk rfl rfl ⟨(iX8_line _ (List.mem_of_getElem? (i := 1) rfl)), (iX8_line _ (List.mem_of_getElem? (i := 2) rfl)), (iX8_line _ (List.mem_of_getElem? (i := 3) rfl))⟩ (ctAL_get ec) (Or.inl ⟨rfl, rfl⟩) ⟨Nat.le_of_ble_eq_true rfl, Nat.le_of_ble_eq_true rfl⟩ rfl rfl (Nat.le_of_ble_eq_true rfl) rfl ?_
  obtain ⟨hk, hf⟩ := gkd_e hf
  refine w_castL B 10 rfl hk (iX8_line _ (List.mem_of_getElem? (i := 6) rfl)) ?_
  refine w_astore [(4, .ref r4), (3, .ref r2), (0, .ref a0), (1, .int a1), (2, .int a2)] B 11 rfl (by decide) rfl ?_
  refine w_iload_n B 12 rfl 2 4 rfl rfl ?_
  refine w_aload B 13 rfl 0 rfl ?_
  obtain ⟨hk, hf⟩ := gkd_e hf
  obtain ⟨r5, ec, hf⟩ := bd_e hf
  refine w_callV r4 [] [.int a2] [.int r5, .int a2] X B 14 rfl miAL_size 9 (by decide) hk rfl rfl ⟨(iX8_line _ (List.mem_of_getElem? (i := 7) rfl)), (iX8_line _ (List.mem_of_getElem? (i := 8) rfl)), (iX8_line _ (List.mem_of_getElem? (i := 9) rfl))⟩ (ctAL_size ec) (Or.inl ⟨rfl, rfl⟩) ⟨Nat.le_of_ble_eq_true rfl, Nat.le_of_ble_eq_true rfl⟩ rfl rfl (Nat.le_of_ble_eq_true rfl) rfl ?_
  by_cases hc : a2 < r5
  · replace hf := (if_pos hc).symm.trans hf
    refine w_icmp_ge_f B 15 rfl 115 (by decide) hc ?_
    refine w_aload B 16 rfl 0 rfl ?_
    refine w_iload_n B 17 rfl 2 4 rfl rfl ?_
    obtain ⟨hk, hf⟩ := gkd_e hf
    obtain ⟨r18, ec, hf⟩ := bd_e hf
    refine w_callV r4 [.int a2] [] [.ref r18] X B 18 rfl miAL_get 9 (by decide) hk rfl rfl ⟨(iX8_line _ (List.mem_of_getElem? (i := 1) rfl)), (iX8_line _ (List.mem_of_getElem? (i := 2) rfl)), (iX8_line _ (List.mem_of_getElem? (i := 3) rfl))⟩ (ctAL_get ec) (Or.inl ⟨rfl, rfl⟩) ⟨Nat.le_of_ble_eq_true rfl, Nat.le_of_ble_eq_true rfl⟩ rfl rfl (Nat.le_of_ble_eq_true rfl) rfl ?_
    obtain ⟨hk, hf⟩ := gkd_e hf
    refine w_castI B 19 rfl hk (iX8_line _ (List.mem_of_getElem? (i := 4) rfl)) ?_
    refine w_iconst 1 B 20 rfl (by decide) ?_
    obtain ⟨hk, hf⟩ := gkd_e hf
    obtain ⟨hx, hf⟩ := gix_e hf
    obtain ⟨v19, ex, hf⟩ := gti_e hf
    refine w_iald B 21 rfl hk hx ex ?_
    refine w_istore [(5, .int v19), (4, .ref r4), (3, .ref r2), (0, .ref a0), (1, .int a1), (2, .int a2)] B 22 rfl (by decide) rfl ?_
    refine w_aload_n B 23 rfl 3 2 rfl rfl ?_
    refine w_iconst 5 B 24 rfl (by decide) ?_
    obtain ⟨hk, hf⟩ := gkd_e hf
    obtain ⟨hx, hf⟩ := gix_e hf
    obtain ⟨v20, ex, hf⟩ := gti_e hf
    refine w_iald B 25 rfl hk hx ex ?_
    by_cases hc : v20 = 0
    · replace hf := (if_pos hc).symm.trans hf
      refine w_if_ne_f B 26 rfl 69 (by decide) hc ?_
      refine w_iload B 27 rfl 0 rfl ?_
      refine w_aload_n B 28 rfl 0 3 rfl rfl ?_
      obtain ⟨hk, hf⟩ := gkd_e hf
      obtain ⟨q31, ex, hf⟩ := gtr_e hf
      refine w_getr B 29 rfl 8 4 a0 (by decide) hk rfl (iX8_line _ (List.mem_of_getElem? (i := 25) rfl)) (Or.inl rfl) ex ?_
      refine w_aload_n B 30 rfl 3 2 rfl rfl ?_
      refine w_iconst 2 B 31 rfl (by decide) ?_
      obtain ⟨hk, hf⟩ := gkd_e hf
      obtain ⟨hx, hf⟩ := gix_e hf
      obtain ⟨v32, ex, hf⟩ := gti_e hf
      refine w_iald B 32 rfl hk hx ex ?_
      obtain ⟨hk, hf⟩ := gkd_e hf
      obtain ⟨hx, hf⟩ := gix_e hf
      obtain ⟨v33, ex, hf⟩ := gti_e hf
      refine w_iald B 33 rfl hk hx ex ?_
      refine w_mmax X B 34 rfl ⟨(iX8_line _ (List.mem_of_getElem? (i := 26) rfl)), (iX8_line _ (List.mem_of_getElem? (i := 27) rfl)), (iX8_line _ (List.mem_of_getElem? (i := 23) rfl)), (iX8_line _ (List.mem_of_getElem? (i := 28) rfl))⟩ ⟨Nat.le_of_ble_eq_true rfl, Nat.le_of_ble_eq_true rfl⟩ (Nat.le_of_ble_eq_true rfl) ?_
      obtain ⟨v34, ex, hf⟩ := nm_x hf
      refine w_top ex ?_
      refine w_goto B 35 rfl 71 (by decide) ?_
      refine w_sub [(0, .ref a0), (2, .int a2), (3, .ref r2), (4, .ref r4)] [3, 5, 2, 1] rfl ?_
      exact bX8_line_j71_ok X B hQ hr _ _ _ _ _ _ _ hf
    · replace hf := (if_neg hc).symm.trans hf
      refine w_if_ne_t B 26 rfl 69 (by decide) hc ?_
      refine w_iload B 36 rfl 0 rfl ?_
      refine w_sub [(0, .ref a0), (2, .int a2), (3, .ref r2), (4, .ref r4)] [3, 5, 2, 1] rfl ?_
      exact bX8_line_j71_ok X B hQ hr _ _ _ _ _ _ _ hf
  · replace hf := (if_neg hc).symm.trans hf
    refine w_icmp_ge_t B 15 rfl 115 (by decide) hc ?_
    refine w_aload_n B 64 rfl 3 1 rfl rfl ?_
    refine w_iconst 1 B 65 rfl (by decide) ?_
    obtain ⟨hk, hf⟩ := gkd_e hf
    obtain ⟨hx, hf⟩ := gix_e hf
    obtain ⟨v6, ex, hf⟩ := gti_e hf
    refine w_iald B 66 rfl hk hx ex ?_
    refine w_istore [(5, .int v6), (4, .ref r4), (3, .ref r2), (0, .ref a0), (1, .int a1), (2, .int a2)] B 67 rfl (by decide) rfl ?_
    refine w_aload B 68 rfl 1 rfl ?_
    obtain ⟨hk, hf⟩ := gkd_e hf
    obtain ⟨r7, ec, hgd, hf⟩ := bdg_e hf
    refine w_callV r4 [] [] [.ref r7.1] X B 69 rfl miAL_iterator 9 (by decide) hk rfl rfl ⟨(iX8_line _ (List.mem_of_getElem? (i := 10) rfl)), (iX8_line _ (List.mem_of_getElem? (i := 11) rfl)), (iX8_line _ (List.mem_of_getElem? (i := 12) rfl))⟩ (ctAL_iterator ec) (Or.inr ⟨_, _, _, _, hr, hgd⟩) ⟨Nat.le_of_ble_eq_true rfl, Nat.le_of_ble_eq_true rfl⟩ rfl rfl (Nat.le_of_ble_eq_true rfl) rfl ?_
    refine w_astore [(6, .ref r7.1), (5, .int v6), (4, .ref r4), (3, .ref r2), (0, .ref a0), (1, .int a1), (2, .int a2)] B 70 rfl (by decide) rfl ?_
    refine w_sub [(2, .int a2), (3, .ref r2), (5, .int v6), (6, .ref r7.1)] [6, 3, 1, 0] rfl ?_
    exact bX8_line_l127_ok X B hQ hr FU _ _ _ _ _ _ hf
/-! ZoneCapacityLaw$Market.cut(II)I -/
def tbX8_cut : Tb := [(0, .aload_n 0, 1, 1), (1, .getfield 10, 3, 4), (4, .iload_n 1, 1, 5), (5, .invokevirtual 45, 3, 8), (8, .checkcast 49, 3, 11), (11, .iconst 1, 1, 12), (12, .iaload, 1, 13), (13, .ineg, 1, 14), (14, .aload_n 0, 1, 15), (15, .getfield 10, 3, 18), (18, .iload_n 1, 1, 19), (19, .invokevirtual 45, 3, 22), (22, .checkcast 49, 3, 25), (25, .iconst 2, 1, 26), (26, .iaload, 1, 27), (27, .iload_n 2, 1, 28), (28, .invokestatic 86, 3, 31), (31, .invokestatic 80, 3, 34), (34, .ireturn, 1, 35)]
theorem dtX8_cut : ∀ q ∈ tbX8_cut, decode cX8_cut q.1 = .ok (q.2.1, q.2.2.1) ∧ q.1 + q.2.2.1 = q.2.2.2 := by decide +kernel
theorem miX8_cut : MI yX8_cut cX8_cut 3 (some .int) 2 := ⟨tw_mem (List.mem_of_getElem? (i := 970) (by decide +kernel)) rfl, by decide, by decide +kernel, tw_mem (List.mem_of_getElem? (i := 21) (by decide +kernel)) rfl⟩
abbrev rmFX8_cut : Nat := 3
abbrev rmLX8_cut : Nat := 64
def wX8_cut : List Cond := [.fieldLink "ZoneCapacityLaw$Market" 10 "ZoneCapacityLaw$Market" "zones" "Ljava/util/ArrayList;", .methodLink "ZoneCapacityLaw$Market" 45 yJx4a65c_get_915e3, .instanceMethod yJx4a65c_get_915e3, .selects "java/util/ArrayList" yJx4a65c_get_915e3 yJx4a65c_get_915e3, .classLink "ZoneCapacityLaw$Market" 49 "[I", .methodLink "ZoneCapacityLaw$Market" 86 Lib.Math.min.name, .static Lib.Math.min.name, .initialized "java/lang/Math", .code Lib.Math.min.name Lib.Math.min.code 2 (some .int), .methodLink "ZoneCapacityLaw$Market" 80 Lib.Math.max.name, .static Lib.Math.max.name, .code Lib.Math.max.name Lib.Math.max.code 2 (some .int)]
theorem iX8_cut : ∀ w ∈ wX8_cut, w ∈ TW := tw_of (ids := [542, 814, 762, 763, 820, 858, 357, 26, 358, 857, 354, 355]) (by decide +kernel)
def bX8_cut (A : AS) (dm : DM) (a0 : Nat) (a1 : Int32) (a2 : Int32) : Option (Int32) := gkd A a0 8 (gtr (dm a0 0) (fun q1 => gkd A q1 9 (bd (bAL_get A dm q1 a1) (fun r2 => gkd A r2 20 (gkd A r2 20 (gix A r2 (1 : Int32) (gti (dm r2 (1 : Int32).toNatClampNeg) (fun v3 => gkd A a0 8 (gtr (dm a0 0) (fun q4 => gkd A q4 9 (bd (bAL_get A dm q4 a1) (fun r5 => gkd A r5 20 (gkd A r5 20 (gix A r5 (2 : Int32) (gti (dm r5 (2 : Int32).toNatClampNeg) (fun v6 => nm (mni v6 a2) (fun v7 => nm (mxi (-v3) v7) (fun v8 => some (v8)))))))))))))))))))
theorem ctX8_cut {l : Launch} {K : KF} {mm : Mem} {A : AS} {dm : DM} {a0 : Nat} {a1 : Int32} {a2 : Int32} {x : Int32} (hf : bX8_cut A dm a0 a1 a2 = some x) : Ct2 l K yX8_cut cX8_cut 3 (some .int) 3 64 [.ref a0, .int a1, .int a2] mm A dm (some (.int x)) mm A dm := by
  refine Ct2.of (tb := tbX8_cut) miX8_cut.2.1 miX8_cut.1 dtX8_cut (Nat.le_of_ble_eq_true rfl) ?_
  intro E B hQ hr X hI hcd
  clear hI
  clear hcd
  unfold bX8_cut at hf
  show G2 E 3 0 [(0, .ref a0), (1, .int a1), (2, .int a2)] [] mm A dm
  refine w_aload_n B 0 rfl 0 0 rfl rfl ?_
  obtain ⟨hk, hf⟩ := gkd_e hf
  obtain ⟨q1, ex, hf⟩ := gtr_e hf
  refine w_getr B 1 rfl 8 0 a0 (by decide) hk rfl (iX8_cut _ (List.mem_of_getElem? (i := 0) rfl)) (Or.inl rfl) ex ?_
  refine w_iload_n B 2 rfl 1 1 rfl rfl ?_
  obtain ⟨hk, hf⟩ := gkd_e hf
  obtain ⟨r2, ec, hf⟩ := bd_e hf
  refine w_callV q1 [.int a1] [] [.ref r2] X B 3 rfl miAL_get 9 (by decide) hk rfl rfl ⟨(iX8_cut _ (List.mem_of_getElem? (i := 1) rfl)), (iX8_cut _ (List.mem_of_getElem? (i := 2) rfl)), (iX8_cut _ (List.mem_of_getElem? (i := 3) rfl))⟩ (ctAL_get ec) (Or.inl ⟨rfl, rfl⟩) ⟨Nat.le_of_ble_eq_true rfl, Nat.le_of_ble_eq_true rfl⟩ rfl rfl (Nat.le_of_ble_eq_true rfl) rfl ?_
  obtain ⟨hk, hf⟩ := gkd_e hf
  refine w_castI B 4 rfl hk (iX8_cut _ (List.mem_of_getElem? (i := 4) rfl)) ?_
  refine w_iconst 1 B 5 rfl (by decide) ?_
  obtain ⟨hk, hf⟩ := gkd_e hf
  obtain ⟨hx, hf⟩ := gix_e hf
  obtain ⟨v3, ex, hf⟩ := gti_e hf
  refine w_iald B 6 rfl hk hx ex ?_
  refine w_ineg B 7 rfl ?_
  refine w_aload_n B 8 rfl 0 0 rfl rfl ?_
  obtain ⟨hk, hf⟩ := gkd_e hf
  obtain ⟨q4, ex, hf⟩ := gtr_e hf
  refine w_getr B 9 rfl 8 0 a0 (by decide) hk rfl (iX8_cut _ (List.mem_of_getElem? (i := 0) rfl)) (Or.inl rfl) ex ?_
  refine w_iload_n B 10 rfl 1 1 rfl rfl ?_
  obtain ⟨hk, hf⟩ := gkd_e hf
  obtain ⟨r5, ec, hf⟩ := bd_e hf
  refine w_callV q4 [.int a1] [.int (-v3)] [.ref r5, .int (-v3)] X B 11 rfl miAL_get 9 (by decide) hk rfl rfl ⟨(iX8_cut _ (List.mem_of_getElem? (i := 1) rfl)), (iX8_cut _ (List.mem_of_getElem? (i := 2) rfl)), (iX8_cut _ (List.mem_of_getElem? (i := 3) rfl))⟩ (ctAL_get ec) (Or.inl ⟨rfl, rfl⟩) ⟨Nat.le_of_ble_eq_true rfl, Nat.le_of_ble_eq_true rfl⟩ rfl rfl (Nat.le_of_ble_eq_true rfl) rfl ?_
  obtain ⟨hk, hf⟩ := gkd_e hf
  refine w_castI B 12 rfl hk (iX8_cut _ (List.mem_of_getElem? (i := 4) rfl)) ?_
  refine w_iconst 2 B 13 rfl (by decide) ?_
  obtain ⟨hk, hf⟩ := gkd_e hf
  obtain ⟨hx, hf⟩ := gix_e hf
  obtain ⟨v6, ex, hf⟩ := gti_e hf
  refine w_iald B 14 rfl hk hx ex ?_
  refine w_iload_n B 15 rfl 2 2 rfl rfl ?_
  refine w_mmin X B 16 rfl ⟨(iX8_cut _ (List.mem_of_getElem? (i := 5) rfl)), (iX8_cut _ (List.mem_of_getElem? (i := 6) rfl)), (iX8_cut _ (List.mem_of_getElem? (i := 7) rfl)), (iX8_cut _ (List.mem_of_getElem? (i := 8) rfl))⟩ ⟨Nat.le_of_ble_eq_true rfl, Nat.le_of_ble_eq_true rfl⟩ (Nat.le_of_ble_eq_true rfl) ?_
  obtain ⟨v7, ex, hf⟩ := nm_x hf
  refine w_top ex ?_
  refine w_mmax X B 17 rfl ⟨(iX8_cut _ (List.mem_of_getElem? (i := 9) rfl)), (iX8_cut _ (List.mem_of_getElem? (i := 10) rfl)), (iX8_cut _ (List.mem_of_getElem? (i := 7) rfl)), (iX8_cut _ (List.mem_of_getElem? (i := 11) rfl))⟩ ⟨Nat.le_of_ble_eq_true rfl, Nat.le_of_ble_eq_true rfl⟩ (Nat.le_of_ble_eq_true rfl) ?_
  obtain ⟨v8, ex, hf⟩ := nm_x hf
  refine w_top ex ?_
  cases hf
  exact w_iret B 18 rfl rfl hQ hr
/-! ZoneCapacityLaw$Market.level(IIZ)I -/
def tbX8_level : Tb := [(0, .aload_n 0, 1, 1), (1, .iload_n 1, 1, 2), (2, .iload_n 3, 1, 3), (3, .ifCond .eq 9, 3, 6), (6, .iload_n 2, 1, 7), (7, .iconst 1, 1, 8), (8, .iadd, 1, 9), (9, .goto 4, 3, 12), (12, .iload_n 2, 1, 13), (13, .invokevirtual 89, 3, 16), (16, .ineg, 1, 17), (17, .istore 4, 2, 19), (19, .iconst 0, 1, 20), (20, .istore 5, 2, 22), (22, .iload 5, 2, 24), (24, .aload_n 0, 1, 25), (25, .getfield 19, 3, 28), (28, .invokevirtual 41, 3, 31), (31, .if_icmp .ge 85, 3, 34), (34, .iconst 0, 1, 35), (35, .istore 6, 2, 37), (37, .iload 6, 2, 39), (39, .iconst 4, 1, 40), (40, .if_icmp .ge 70, 3, 43), (43, .aload_n 0, 1, 44), (44, .getfield 19, 3, 47), (47, .iload 5, 2, 49), (49, .invokevirtual 45, 3, 52), (52, .checkcast 49, 3, 55), (55, .iconst 0, 1, 56), (56, .iaload, 1, 57), (57, .iload_n 1, 1, 58), (58, .if_icmp .ne 52, 3, 61), (61, .aload_n 0, 1, 62), (62, .iload 5, 2, 64), (64, .iload 6, 2, 66), (66, .invokevirtual 92, 3, 69), (69, .astore 7, 2, 71), (71, .iload 4, 2, 73), (73, .aload 7, 2, 75), (75, .iconst 1, 1, 76), (76, .iaload, 1, 77), (77, .iload_n 2, 1, 78), (78, .if_icmp .lt 15, 3, 81), (81, .iload_n 3, 1, 82), (82, .ifCond .eq 18, 3, 85), (85, .aload 7, 2, 87), (87, .iconst 1, 1, 88), (88, .iaload, 1, 89), (89, .iload_n 2, 1, 90), (90, .if_icmp .ne 10, 3, 93), (93, .aload 7, 2, 95), (95, .iconst 0, 1, 96), (96, .iaload, 1, 97), (97, .goto 4, 3, 100), (100, .iconst 0, 1, 101), (101, .iadd, 1, 102), (102, .istore 4, 2, 104), (104, .iinc 6 1, 3, 107), (107, .goto (-70), 3, 110), (110, .iinc 5 1, 3, 113), (113, .goto (-91), 3, 116), (116, .iload_n 1, 1, 117), (117, .iconst 1, 1, 118), (118, .iadd, 1, 119), (119, .istore 5, 2, 121), (121, .iload 5, 2, 123), (123, .aload_n 0, 1, 124), (124, .getfield 10, 3, 127), (127, .invokevirtual 41, 3, 130), (130, .if_icmp .ge 50, 3, 133), (133, .iload 4, 2, 135), (135, .aload_n 0, 1, 136), (136, .getfield 10, 3, 139), (139, .iload 5, 2, 141), (141, .invokevirtual 45, 3, 144), (144, .checkcast 49, 3, 147), (147, .iconst 0, 1, 148), (148, .iaload, 1, 149), (149, .iload_n 1, 1, 150), (150, .if_icmp .ne 20, 3, 153), (153, .aload_n 0, 1, 154), (154, .iload 5, 2, 156), (156, .aload_n 0, 1, 157), (157, .iload 5, 2, 159), (159, .iload_n 2, 1, 160), (160, .iload_n 3, 1, 161), (161, .invokevirtual 96, 3, 164), (164, .invokevirtual 100, 3, 167), (167, .goto 4, 3, 170), (170, .iconst 0, 1, 171), (171, .iadd, 1, 172), (172, .istore 4, 2, 174), (174, .iinc 5 1, 3, 177), (177, .goto (-56), 3, 180), (180, .iload 4, 2, 182), (182, .ireturn, 1, 183)]
theorem dtX8_level : ∀ q ∈ tbX8_level, decode cX8_level q.1 = .ok (q.2.1, q.2.2.1) ∧ q.1 + q.2.2.1 = q.2.2.2 := by decide +kernel
theorem miX8_level : MI yX8_level cX8_level 8 (some .int) 3 := ⟨tw_mem (List.mem_of_getElem? (i := 851) (by decide +kernel)) rfl, by decide, by decide +kernel, tw_mem (List.mem_of_getElem? (i := 21) (by decide +kernel)) rfl⟩
abbrev rmFX8_level : Nat := 11
abbrev rmLX8_level : Nat := 280
def wX8_level : List Cond := [.methodLink "ZoneCapacityLaw$Market" 89 yX8_wants, .instanceMethod yX8_wants, .selects "ZoneCapacityLaw$Market" yX8_wants yX8_wants, .fieldLink "ZoneCapacityLaw$Market" 19 "ZoneCapacityLaw$Market" "resources" "Ljava/util/ArrayList;", .methodLink "ZoneCapacityLaw$Market" 41 yJx4a65c_size_8abf5, .instanceMethod yJx4a65c_size_8abf5, .selects "java/util/ArrayList" yJx4a65c_size_8abf5 yJx4a65c_size_8abf5, .fieldLink "ZoneCapacityLaw$Market" 10 "ZoneCapacityLaw$Market" "zones" "Ljava/util/ArrayList;", .methodLink "ZoneCapacityLaw$Market" 45 yJx4a65c_get_915e3, .instanceMethod yJx4a65c_get_915e3, .selects "java/util/ArrayList" yJx4a65c_get_915e3 yJx4a65c_get_915e3, .classLink "ZoneCapacityLaw$Market" 49 "[I", .methodLink "ZoneCapacityLaw$Market" 96 yX8_level, .instanceMethod yX8_level, .selects "ZoneCapacityLaw$Market" yX8_level yX8_level, .methodLink "ZoneCapacityLaw$Market" 100 yX8_cut, .instanceMethod yX8_cut, .selects "ZoneCapacityLaw$Market" yX8_cut yX8_cut, .methodLink "ZoneCapacityLaw$Market" 92 yX8_line, .instanceMethod yX8_line, .selects "ZoneCapacityLaw$Market" yX8_line yX8_line]
theorem iX8_level : ∀ w ∈ wX8_level, w ∈ TW := tw_of (ids := [852, 835, 836, 546, 819, 775, 776, 542, 814, 762, 763, 820, 966, 849, 850, 967, 968, 969, 853, 854, 855]) (by decide +kernel)
def bX8_level_j171 (lev : AS → DM → Nat → Int32 → Int32 → Int32 → Option (Int32 × AS × DM)) (k121 : Nat → Int32 → Int32 → Int32 → Int32 → Int32 → AS → DM → Option (Int32 × AS × DM)) (x0 : Nat) (x1 : Int32) (x2 : Int32) (x3 : Int32) (x5 : Int32) (s0 : Int32) (s1 : Int32) (A : AS) (dm : DM) : Option (Int32 × AS × DM) := nm (s1 + s0) (fun v11 => nm (x5 + 1) (fun v12 => k121 x0 x1 x2 x3 v11 v12 A dm))
theorem bX8_level_j171_ok {E : Ev2} {l : Launch} {K : KF} {mm : Mem} {x : Int32 × AS × DM} {lev : AS → DM → Nat → Int32 → Int32 → Int32 → Option (Int32 × AS × DM)} {d : Nat} {k121 : Nat → Int32 → Int32 → Int32 → Int32 → Int32 → AS → DM → Option (Int32 × AS × DM)} (X : Ec2 E l K (5 + (d + 1)) (118 + 27 * (d + 1))) (B : Bx2 E RX8 tbX8_level 8 (some .int)) (hQ : Rt2 E) (hr : Rs2 E (some (.int x.1)) mm x.2.1 x.2.2) (hlev : ∀ (A : AS) (dm : DM) (a0 : Nat) (a1 a2 a3 : Int32) (mm : Mem) (x : Int32 × AS × DM), lev A dm a0 a1 a2 a3 = some x → Ct2 l K yX8_level cX8_level 8 (some .int) (5 + d) (118 + 27 * d) [.ref a0, .int a1, .int a2, .int a3] mm A dm (some (.int x.1)) mm x.2.1 x.2.2) (hk121 : ∀ (x0 : Nat) (x1 : Int32) (x2 : Int32) (x3 : Int32) (x4 : Int32) (x5 : Int32) (A : AS) (dm : DM), k121 x0 x1 x2 x3 x4 x5 A dm = some x → G2 E 8 121 [(0, .ref x0), (1, .int x1), (2, .int x2), (3, .int x3), (4, .int x4), (5, .int x5)] [] mm A dm) (x0 : Nat) (x1 : Int32) (x2 : Int32) (x3 : Int32) (x5 : Int32) (s0 : Int32) (s1 : Int32) (A : AS) (dm : DM) (hf : bX8_level_j171 lev k121 x0 x1 x2 x3 x5 s0 s1 A dm = some x) : G2 E 8 171 [(0, .ref x0), (1, .int x1), (2, .int x2), (3, .int x3), (5, .int x5)] [.int s0, .int s1] mm A dm := by
  unfold bX8_level_j171 at hf
  refine w_iadd B 91 rfl ?_
  obtain ⟨v11, ex, hf⟩ := nm_x hf
  refine w_top ex ?_
  refine w_istore [(4, .int v11), (0, .ref x0), (1, .int x1), (2, .int x2), (3, .int x3), (5, .int x5)] B 92 rfl (by decide) rfl ?_
  obtain ⟨v12, ex, hf⟩ := nm_x hf
  refine w_iinc v12 [(5, .int v12), (4, .int v11), (0, .ref x0), (1, .int x1), (2, .int x2), (3, .int x3)] B 93 rfl 5 rfl (ex.symm) (by decide) rfl ?_
  refine w_goto B 94 rfl 121 (by decide) ?_
  refine w_sub [(0, .ref x0), (1, .int x1), (2, .int x2), (3, .int x3), (4, .int v11), (5, .int v12)] [2, 3, 4, 5, 1, 0] rfl ?_
  exact hk121 _ _ _ _ _ _ _ _ hf
def bX8_level_l121 (lev : AS → DM → Nat → Int32 → Int32 → Int32 → Option (Int32 × AS × DM)) : Nat → Nat → Int32 → Int32 → Int32 → Int32 → Int32 → AS → DM → Option (Int32 × AS × DM)
  | 0, _, _, _, _, _, _, _, _ => none
  | n + 1, x0, x1, x2, x3, x4, x5, A, dm => gkd A x0 8 (gtr (dm x0 0) (fun q6 => gkd A q6 9 (bd (bAL_size A dm q6) (fun r7 => if x5 < r7 then gkd A x0 8 (gtr (dm x0 0) (fun q8 => gkd A q8 9 (bd (bAL_get A dm q8 x5) (fun r9 => gkd A r9 20 (gkd A r9 20 (gix A r9 (0 : Int32) (gti (dm r9 (0 : Int32).toNatClampNeg) (fun v10 => if v10 = x1 then gkd A x0 8 (bdg (fun (x : Int32 × AS × DM) => x.2.1) A (lev A dm x0 x5 x2 x3) (fun (x : Int32 × AS × DM) => x.2.1) (fun r13 => gkd r13.2.1 x0 8 (bd (bX8_cut r13.2.1 r13.2.2 x0 x5 r13.1) (fun r14 => bX8_level_j171 lev (fun x0 x1 x2 x3 x4 x5 A9 dm9 => bX8_level_l121 lev n x0 x1 x2 x3 x4 x5 A9 dm9) x0 x1 x2 x3 x5 r14 x4 r13.2.1 r13.2.2)))) else bX8_level_j171 lev (fun x0 x1 x2 x3 x4 x5 A9 dm9 => bX8_level_l121 lev n x0 x1 x2 x3 x4 x5 A9 dm9) x0 x1 x2 x3 x5 (0 : Int32) x4 A dm)))))))) else some (x4, A, dm)))))
theorem bX8_level_l121_ok {E : Ev2} {l : Launch} {K : KF} {mm : Mem} {x : Int32 × AS × DM} {lev : AS → DM → Nat → Int32 → Int32 → Int32 → Option (Int32 × AS × DM)} {d : Nat} (X : Ec2 E l K (5 + (d + 1)) (118 + 27 * (d + 1))) (B : Bx2 E RX8 tbX8_level 8 (some .int)) (hQ : Rt2 E) (hr : Rs2 E (some (.int x.1)) mm x.2.1 x.2.2) (hlev : ∀ (A : AS) (dm : DM) (a0 : Nat) (a1 a2 a3 : Int32) (mm : Mem) (x : Int32 × AS × DM), lev A dm a0 a1 a2 a3 = some x → Ct2 l K yX8_level cX8_level 8 (some .int) (5 + d) (118 + 27 * d) [.ref a0, .int a1, .int a2, .int a3] mm A dm (some (.int x.1)) mm x.2.1 x.2.2) (n : Nat) : ∀ (x0 : Nat) (x1 : Int32) (x2 : Int32) (x3 : Int32) (x4 : Int32) (x5 : Int32) (A : AS) (dm : DM), bX8_level_l121 lev n x0 x1 x2 x3 x4 x5 A dm = some x → G2 E 8 121 [(0, .ref x0), (1, .int x1), (2, .int x2), (3, .int x3), (4, .int x4), (5, .int x5)] [] mm A dm := by
  induction n with
  | zero =>
    intro x0 x1 x2 x3 x4 x5 A dm hf
    rw [bX8_level_l121] at hf
    cases hf
  | succ n ih =>
    intro x0 x1 x2 x3 x4 x5 A dm hf
    rw [bX8_level_l121] at hf
    refine w_iload B 66 rfl 5 rfl ?_
    refine w_aload_n B 67 rfl 0 0 rfl rfl ?_
    obtain ⟨hk, hf⟩ := gkd_e hf
    obtain ⟨q6, ex, hf⟩ := gtr_e hf
    refine w_getr B 68 rfl 8 0 x0 (by decide) hk rfl (iX8_level _ (List.mem_of_getElem? (i := 7) rfl)) (Or.inl rfl) ex ?_
    obtain ⟨hk, hf⟩ := gkd_e hf
    obtain ⟨r7, ec, hf⟩ := bd_e hf
    refine w_callV q6 [] [.int x5] [.int r7, .int x5] X B 69 rfl miAL_size 9 (by decide) hk rfl rfl ⟨(iX8_level _ (List.mem_of_getElem? (i := 4) rfl)), (iX8_level _ (List.mem_of_getElem? (i := 5) rfl)), (iX8_level _ (List.mem_of_getElem? (i := 6) rfl))⟩ (ctAL_size ec) (Or.inl ⟨rfl, rfl⟩) ⟨by omega, by omega⟩ rfl rfl (Nat.le_of_ble_eq_true rfl) rfl ?_
    by_cases hc : x5 < r7
    · replace hf := (if_pos hc).symm.trans hf
      refine w_icmp_ge_f B 70 rfl 180 (by decide) hc ?_
      refine w_iload B 71 rfl 4 rfl ?_
      refine w_aload_n B 72 rfl 0 0 rfl rfl ?_
      obtain ⟨hk, hf⟩ := gkd_e hf
      obtain ⟨q8, ex, hf⟩ := gtr_e hf
      refine w_getr B 73 rfl 8 0 x0 (by decide) hk rfl (iX8_level _ (List.mem_of_getElem? (i := 7) rfl)) (Or.inl rfl) ex ?_
      refine w_iload B 74 rfl 5 rfl ?_
      obtain ⟨hk, hf⟩ := gkd_e hf
      obtain ⟨r9, ec, hf⟩ := bd_e hf
      refine w_callV q8 [.int x5] [.int x4] [.ref r9, .int x4] X B 75 rfl miAL_get 9 (by decide) hk rfl rfl ⟨(iX8_level _ (List.mem_of_getElem? (i := 8) rfl)), (iX8_level _ (List.mem_of_getElem? (i := 9) rfl)), (iX8_level _ (List.mem_of_getElem? (i := 10) rfl))⟩ (ctAL_get ec) (Or.inl ⟨rfl, rfl⟩) ⟨by omega, by omega⟩ rfl rfl (Nat.le_of_ble_eq_true rfl) rfl ?_
      obtain ⟨hk, hf⟩ := gkd_e hf
      refine w_castI B 76 rfl hk (iX8_level _ (List.mem_of_getElem? (i := 11) rfl)) ?_
      refine w_iconst 0 B 77 rfl (by decide) ?_
      obtain ⟨hk, hf⟩ := gkd_e hf
      obtain ⟨hx, hf⟩ := gix_e hf
      obtain ⟨v10, ex, hf⟩ := gti_e hf
      refine w_iald B 78 rfl hk hx ex ?_
      refine w_iload_n B 79 rfl 1 1 rfl rfl ?_
      by_cases hc : v10 = x1
      · replace hf := (if_pos hc).symm.trans hf
        refine w_icmp_ne_f B 80 rfl 170 (by decide) hc ?_
        refine w_aload_n B 81 rfl 0 0 rfl rfl ?_
        refine w_iload B 82 rfl 5 rfl ?_
        refine w_aload_n B 83 rfl 0 0 rfl rfl ?_
        refine w_iload B 84 rfl 5 rfl ?_
        refine w_iload_n B 85 rfl 2 2 rfl rfl ?_
        refine w_iload_n B 86 rfl 3 3 rfl rfl ?_
        obtain ⟨hk, hf⟩ := gkd_e hf
        obtain ⟨r13, ec, hgd, hf⟩ := bdg_e hf
        refine w_callV x0 [.int x5, .int x2, .int x3] [.int x5, .ref x0, .int x4] [.int r13.1, .int x5, .ref x0, .int x4] X B 87 rfl miX8_level 8 (by decide) hk rfl rfl ⟨(iX8_level _ (List.mem_of_getElem? (i := 12) rfl)), (iX8_level _ (List.mem_of_getElem? (i := 13) rfl)), (iX8_level _ (List.mem_of_getElem? (i := 14) rfl))⟩ (hlev _ _ _ _ _ _ _ _ ec) (Or.inr ⟨_, _, _, _, hr, hgd⟩) ⟨by omega, by omega⟩ rfl rfl (Nat.le_of_ble_eq_true rfl) rfl ?_
        obtain ⟨hk, hf⟩ := gkd_e hf
        obtain ⟨r14, ec, hf⟩ := bd_e hf
        refine w_callV x0 [.int x5, .int r13.1] [.int x4] [.int r14, .int x4] X B 88 rfl miX8_cut 8 (by decide) hk rfl rfl ⟨(iX8_level _ (List.mem_of_getElem? (i := 15) rfl)), (iX8_level _ (List.mem_of_getElem? (i := 16) rfl)), (iX8_level _ (List.mem_of_getElem? (i := 17) rfl))⟩ (ctX8_cut ec) (Or.inl ⟨rfl, rfl⟩) ⟨by omega, by omega⟩ rfl rfl (Nat.le_of_ble_eq_true rfl) rfl ?_
        refine w_goto B 89 rfl 171 (by decide) ?_
        refine w_sub [(0, .ref x0), (1, .int x1), (2, .int x2), (3, .int x3), (5, .int x5)] [0, 1, 2, 3, 5] rfl ?_
        exact bX8_level_j171_ok X B hQ hr hlev ih _ _ _ _ _ _ _ _ _ hf
      · replace hf := (if_neg hc).symm.trans hf
        refine w_icmp_ne_t B 80 rfl 170 (by decide) hc ?_
        refine w_iconst 0 B 90 rfl (by decide) ?_
        refine w_sub [(0, .ref x0), (1, .int x1), (2, .int x2), (3, .int x3), (5, .int x5)] [0, 1, 2, 3, 5] rfl ?_
        exact bX8_level_j171_ok X B hQ hr hlev ih _ _ _ _ _ _ _ _ _ hf
    · replace hf := (if_neg hc).symm.trans hf
      refine w_icmp_ge_t B 70 rfl 180 (by decide) hc ?_
      refine w_iload B 95 rfl 4 rfl ?_
      cases hf
      exact w_iret B 96 rfl rfl hQ hr
def bX8_level_j110 (lev : AS → DM → Nat → Int32 → Int32 → Int32 → Option (Int32 × AS × DM)) (k22 : Nat → Int32 → Int32 → Int32 → Int32 → Int32 → AS → DM → Option (Int32 × AS × DM)) (x0 : Nat) (x1 : Int32) (x2 : Int32) (x3 : Int32) (x4 : Int32) (x5 : Int32) (A : AS) (dm : DM) : Option (Int32 × AS × DM) := nm (x5 + 1) (fun v15 => k22 x0 x1 x2 x3 x4 v15 A dm)
theorem bX8_level_j110_ok {E : Ev2} {l : Launch} {K : KF} {mm : Mem} {x : Int32 × AS × DM} {lev : AS → DM → Nat → Int32 → Int32 → Int32 → Option (Int32 × AS × DM)} {d : Nat} {k22 : Nat → Int32 → Int32 → Int32 → Int32 → Int32 → AS → DM → Option (Int32 × AS × DM)} (X : Ec2 E l K (5 + (d + 1)) (118 + 27 * (d + 1))) (B : Bx2 E RX8 tbX8_level 8 (some .int)) (hQ : Rt2 E) (hr : Rs2 E (some (.int x.1)) mm x.2.1 x.2.2) (hlev : ∀ (A : AS) (dm : DM) (a0 : Nat) (a1 a2 a3 : Int32) (mm : Mem) (x : Int32 × AS × DM), lev A dm a0 a1 a2 a3 = some x → Ct2 l K yX8_level cX8_level 8 (some .int) (5 + d) (118 + 27 * d) [.ref a0, .int a1, .int a2, .int a3] mm A dm (some (.int x.1)) mm x.2.1 x.2.2) (hk22 : ∀ (x0 : Nat) (x1 : Int32) (x2 : Int32) (x3 : Int32) (x4 : Int32) (x5 : Int32) (A : AS) (dm : DM), k22 x0 x1 x2 x3 x4 x5 A dm = some x → G2 E 8 22 [(0, .ref x0), (1, .int x1), (2, .int x2), (3, .int x3), (4, .int x4), (5, .int x5)] [] mm A dm) (x0 : Nat) (x1 : Int32) (x2 : Int32) (x3 : Int32) (x4 : Int32) (x5 : Int32) (A : AS) (dm : DM) (hf : bX8_level_j110 lev k22 x0 x1 x2 x3 x4 x5 A dm = some x) : G2 E 8 110 [(0, .ref x0), (1, .int x1), (2, .int x2), (3, .int x3), (4, .int x4), (5, .int x5)] [] mm A dm := by
  unfold bX8_level_j110 at hf
  obtain ⟨v15, ex, hf⟩ := nm_x hf
  refine w_iinc v15 [(5, .int v15), (0, .ref x0), (1, .int x1), (2, .int x2), (3, .int x3), (4, .int x4)] B 60 rfl 5 rfl (ex.symm) (by decide) rfl ?_
  refine w_goto B 61 rfl 22 (by decide) ?_
  refine w_sub [(0, .ref x0), (1, .int x1), (2, .int x2), (3, .int x3), (4, .int x4), (5, .int v15)] [1, 2, 3, 4, 5, 0] rfl ?_
  exact hk22 _ _ _ _ _ _ _ _ hf
def bX8_level_j101 (lev : AS → DM → Nat → Int32 → Int32 → Int32 → Option (Int32 × AS × DM)) (k22 : Nat → Int32 → Int32 → Int32 → Int32 → Int32 → AS → DM → Option (Int32 × AS × DM)) (k37 : Nat → Int32 → Int32 → Int32 → Int32 → Int32 → Int32 → AS → DM → Option (Int32 × AS × DM)) (x0 : Nat) (x1 : Int32) (x2 : Int32) (x3 : Int32) (x5 : Int32) (x6 : Int32) (s0 : Int32) (s1 : Int32) (A : AS) (dm : DM) : Option (Int32 × AS × DM) := nm (s1 + s0) (fun v22 => nm (x6 + 1) (fun v23 => k37 x0 x1 x2 x3 v22 x5 v23 A dm))
theorem bX8_level_j101_ok {E : Ev2} {l : Launch} {K : KF} {mm : Mem} {x : Int32 × AS × DM} {lev : AS → DM → Nat → Int32 → Int32 → Int32 → Option (Int32 × AS × DM)} {d : Nat} {k22 : Nat → Int32 → Int32 → Int32 → Int32 → Int32 → AS → DM → Option (Int32 × AS × DM)} {k37 : Nat → Int32 → Int32 → Int32 → Int32 → Int32 → Int32 → AS → DM → Option (Int32 × AS × DM)} (X : Ec2 E l K (5 + (d + 1)) (118 + 27 * (d + 1))) (B : Bx2 E RX8 tbX8_level 8 (some .int)) (hQ : Rt2 E) (hr : Rs2 E (some (.int x.1)) mm x.2.1 x.2.2) (hlev : ∀ (A : AS) (dm : DM) (a0 : Nat) (a1 a2 a3 : Int32) (mm : Mem) (x : Int32 × AS × DM), lev A dm a0 a1 a2 a3 = some x → Ct2 l K yX8_level cX8_level 8 (some .int) (5 + d) (118 + 27 * d) [.ref a0, .int a1, .int a2, .int a3] mm A dm (some (.int x.1)) mm x.2.1 x.2.2) (hk22 : ∀ (x0 : Nat) (x1 : Int32) (x2 : Int32) (x3 : Int32) (x4 : Int32) (x5 : Int32) (A : AS) (dm : DM), k22 x0 x1 x2 x3 x4 x5 A dm = some x → G2 E 8 22 [(0, .ref x0), (1, .int x1), (2, .int x2), (3, .int x3), (4, .int x4), (5, .int x5)] [] mm A dm) (hk37 : ∀ (x0 : Nat) (x1 : Int32) (x2 : Int32) (x3 : Int32) (x4 : Int32) (x5 : Int32) (x6 : Int32) (A : AS) (dm : DM), k37 x0 x1 x2 x3 x4 x5 x6 A dm = some x → G2 E 8 37 [(0, .ref x0), (1, .int x1), (2, .int x2), (3, .int x3), (4, .int x4), (5, .int x5), (6, .int x6)] [] mm A dm) (x0 : Nat) (x1 : Int32) (x2 : Int32) (x3 : Int32) (x5 : Int32) (x6 : Int32) (s0 : Int32) (s1 : Int32) (A : AS) (dm : DM) (hf : bX8_level_j101 lev k22 k37 x0 x1 x2 x3 x5 x6 s0 s1 A dm = some x) : G2 E 8 101 [(0, .ref x0), (1, .int x1), (2, .int x2), (3, .int x3), (5, .int x5), (6, .int x6)] [.int s0, .int s1] mm A dm := by
  unfold bX8_level_j101 at hf
  refine w_iadd B 56 rfl ?_
  obtain ⟨v22, ex, hf⟩ := nm_x hf
  refine w_top ex ?_
  refine w_istore [(4, .int v22), (0, .ref x0), (1, .int x1), (2, .int x2), (3, .int x3), (5, .int x5), (6, .int x6)] B 57 rfl (by decide) rfl ?_
  obtain ⟨v23, ex, hf⟩ := nm_x hf
  refine w_iinc v23 [(6, .int v23), (4, .int v22), (0, .ref x0), (1, .int x1), (2, .int x2), (3, .int x3), (5, .int x5)] B 58 rfl 6 rfl (ex.symm) (by decide) rfl ?_
  refine w_goto B 59 rfl 37 (by decide) ?_
  refine w_sub [(0, .ref x0), (1, .int x1), (2, .int x2), (3, .int x3), (4, .int v22), (5, .int x5), (6, .int v23)] [2, 3, 4, 5, 1, 6, 0] rfl ?_
  exact hk37 _ _ _ _ _ _ _ _ _ hf
def bX8_level_j93 (lev : AS → DM → Nat → Int32 → Int32 → Int32 → Option (Int32 × AS × DM)) (k22 : Nat → Int32 → Int32 → Int32 → Int32 → Int32 → AS → DM → Option (Int32 × AS × DM)) (k37 : Nat → Int32 → Int32 → Int32 → Int32 → Int32 → Int32 → AS → DM → Option (Int32 × AS × DM)) (x0 : Nat) (x1 : Int32) (x2 : Int32) (x3 : Int32) (x5 : Int32) (x6 : Int32) (x7 : Nat) (s0 : Int32) (A : AS) (dm : DM) : Option (Int32 × AS × DM) := gkd A x7 20 (gix A x7 (0 : Int32) (gti (dm x7 (0 : Int32).toNatClampNeg) (fun v21 => bX8_level_j101 lev k22 k37 x0 x1 x2 x3 x5 x6 v21 s0 A dm)))
theorem bX8_level_j93_ok {E : Ev2} {l : Launch} {K : KF} {mm : Mem} {x : Int32 × AS × DM} {lev : AS → DM → Nat → Int32 → Int32 → Int32 → Option (Int32 × AS × DM)} {d : Nat} {k22 : Nat → Int32 → Int32 → Int32 → Int32 → Int32 → AS → DM → Option (Int32 × AS × DM)} {k37 : Nat → Int32 → Int32 → Int32 → Int32 → Int32 → Int32 → AS → DM → Option (Int32 × AS × DM)} (X : Ec2 E l K (5 + (d + 1)) (118 + 27 * (d + 1))) (B : Bx2 E RX8 tbX8_level 8 (some .int)) (hQ : Rt2 E) (hr : Rs2 E (some (.int x.1)) mm x.2.1 x.2.2) (hlev : ∀ (A : AS) (dm : DM) (a0 : Nat) (a1 a2 a3 : Int32) (mm : Mem) (x : Int32 × AS × DM), lev A dm a0 a1 a2 a3 = some x → Ct2 l K yX8_level cX8_level 8 (some .int) (5 + d) (118 + 27 * d) [.ref a0, .int a1, .int a2, .int a3] mm A dm (some (.int x.1)) mm x.2.1 x.2.2) (hk22 : ∀ (x0 : Nat) (x1 : Int32) (x2 : Int32) (x3 : Int32) (x4 : Int32) (x5 : Int32) (A : AS) (dm : DM), k22 x0 x1 x2 x3 x4 x5 A dm = some x → G2 E 8 22 [(0, .ref x0), (1, .int x1), (2, .int x2), (3, .int x3), (4, .int x4), (5, .int x5)] [] mm A dm) (hk37 : ∀ (x0 : Nat) (x1 : Int32) (x2 : Int32) (x3 : Int32) (x4 : Int32) (x5 : Int32) (x6 : Int32) (A : AS) (dm : DM), k37 x0 x1 x2 x3 x4 x5 x6 A dm = some x → G2 E 8 37 [(0, .ref x0), (1, .int x1), (2, .int x2), (3, .int x3), (4, .int x4), (5, .int x5), (6, .int x6)] [] mm A dm) (x0 : Nat) (x1 : Int32) (x2 : Int32) (x3 : Int32) (x5 : Int32) (x6 : Int32) (x7 : Nat) (s0 : Int32) (A : AS) (dm : DM) (hf : bX8_level_j93 lev k22 k37 x0 x1 x2 x3 x5 x6 x7 s0 A dm = some x) : G2 E 8 93 [(0, .ref x0), (1, .int x1), (2, .int x2), (3, .int x3), (5, .int x5), (6, .int x6), (7, .ref x7)] [.int s0] mm A dm := by
  unfold bX8_level_j93 at hf
  refine w_aload B 51 rfl 6 rfl ?_
  refine w_iconst 0 B 52 rfl (by decide) ?_
  obtain ⟨hk, hf⟩ := gkd_e hf
  obtain ⟨hx, hf⟩ := gix_e hf
  obtain ⟨v21, ex, hf⟩ := gti_e hf
  refine w_iald B 53 rfl hk hx ex ?_
  refine w_goto B 54 rfl 101 (by decide) ?_
  refine w_sub [(0, .ref x0), (1, .int x1), (2, .int x2), (3, .int x3), (5, .int x5), (6, .int x6)] [0, 1, 2, 3, 4, 5] rfl ?_
  exact bX8_level_j101_ok X B hQ hr hlev hk22 hk37 _ _ _ _ _ _ _ _ _ _ hf
def bX8_level_j100 (lev : AS → DM → Nat → Int32 → Int32 → Int32 → Option (Int32 × AS × DM)) (k22 : Nat → Int32 → Int32 → Int32 → Int32 → Int32 → AS → DM → Option (Int32 × AS × DM)) (k37 : Nat → Int32 → Int32 → Int32 → Int32 → Int32 → Int32 → AS → DM → Option (Int32 × AS × DM)) (x0 : Nat) (x1 : Int32) (x2 : Int32) (x3 : Int32) (x5 : Int32) (x6 : Int32) (s0 : Int32) (A : AS) (dm : DM) : Option (Int32 × AS × DM) := bX8_level_j101 lev k22 k37 x0 x1 x2 x3 x5 x6 (0 : Int32) s0 A dm
theorem bX8_level_j100_ok {E : Ev2} {l : Launch} {K : KF} {mm : Mem} {x : Int32 × AS × DM} {lev : AS → DM → Nat → Int32 → Int32 → Int32 → Option (Int32 × AS × DM)} {d : Nat} {k22 : Nat → Int32 → Int32 → Int32 → Int32 → Int32 → AS → DM → Option (Int32 × AS × DM)} {k37 : Nat → Int32 → Int32 → Int32 → Int32 → Int32 → Int32 → AS → DM → Option (Int32 × AS × DM)} (X : Ec2 E l K (5 + (d + 1)) (118 + 27 * (d + 1))) (B : Bx2 E RX8 tbX8_level 8 (some .int)) (hQ : Rt2 E) (hr : Rs2 E (some (.int x.1)) mm x.2.1 x.2.2) (hlev : ∀ (A : AS) (dm : DM) (a0 : Nat) (a1 a2 a3 : Int32) (mm : Mem) (x : Int32 × AS × DM), lev A dm a0 a1 a2 a3 = some x → Ct2 l K yX8_level cX8_level 8 (some .int) (5 + d) (118 + 27 * d) [.ref a0, .int a1, .int a2, .int a3] mm A dm (some (.int x.1)) mm x.2.1 x.2.2) (hk22 : ∀ (x0 : Nat) (x1 : Int32) (x2 : Int32) (x3 : Int32) (x4 : Int32) (x5 : Int32) (A : AS) (dm : DM), k22 x0 x1 x2 x3 x4 x5 A dm = some x → G2 E 8 22 [(0, .ref x0), (1, .int x1), (2, .int x2), (3, .int x3), (4, .int x4), (5, .int x5)] [] mm A dm) (hk37 : ∀ (x0 : Nat) (x1 : Int32) (x2 : Int32) (x3 : Int32) (x4 : Int32) (x5 : Int32) (x6 : Int32) (A : AS) (dm : DM), k37 x0 x1 x2 x3 x4 x5 x6 A dm = some x → G2 E 8 37 [(0, .ref x0), (1, .int x1), (2, .int x2), (3, .int x3), (4, .int x4), (5, .int x5), (6, .int x6)] [] mm A dm) (x0 : Nat) (x1 : Int32) (x2 : Int32) (x3 : Int32) (x5 : Int32) (x6 : Int32) (s0 : Int32) (A : AS) (dm : DM) (hf : bX8_level_j100 lev k22 k37 x0 x1 x2 x3 x5 x6 s0 A dm = some x) : G2 E 8 100 [(0, .ref x0), (1, .int x1), (2, .int x2), (3, .int x3), (5, .int x5), (6, .int x6)] [.int s0] mm A dm := by
  unfold bX8_level_j100 at hf
  refine w_iconst 0 B 55 rfl (by decide) ?_
  exact bX8_level_j101_ok X B hQ hr hlev hk22 hk37 _ _ _ _ _ _ _ _ _ _ hf
def bX8_level_l37 (lev : AS → DM → Nat → Int32 → Int32 → Int32 → Option (Int32 × AS × DM)) (k22 : Nat → Int32 → Int32 → Int32 → Int32 → Int32 → AS → DM → Option (Int32 × AS × DM)) : Nat → Nat → Int32 → Int32 → Int32 → Int32 → Int32 → Int32 → AS → DM → Option (Int32 × AS × DM)
  | 0, _, _, _, _, _, _, _, _, _ => none
  | n + 1, x0, x1, x2, x3, x4, x5, x6, A, dm => if x6 < (4 : Int32) then gkd A x0 8 (gtr (dm x0 2) (fun q16 => gkd A q16 9 (bd (bAL_get A dm q16 x5) (fun r17 => gkd A r17 20 (gkd A r17 20 (gix A r17 (0 : Int32) (gti (dm r17 (0 : Int32).toNatClampNeg) (fun v18 => if v18 = x1 then gkd A x0 8 (bdg (fun (x : Int32 × AS × DM) => x.2.1) A (bX8_line A dm x0 x5 x6) (fun (x : Nat × AS × DM) => x.2.1) (fun r19 => gkd r19.2.1 r19.1 20 (gix r19.2.1 r19.1 (1 : Int32) (gti (r19.2.2 r19.1 (1 : Int32).toNatClampNeg) (fun v20 => if v20 < x2 then bX8_level_j93 lev k22 (fun x0 x1 x2 x3 x4 x5 x6 A9 dm9 => bX8_level_l37 lev k22 n x0 x1 x2 x3 x4 x5 x6 A9 dm9) x0 x1 x2 x3 x5 x6 r19.1 x4 r19.2.1 r19.2.2 else if x3 = 0 then bX8_level_j100 lev k22 (fun x0 x1 x2 x3 x4 x5 x6 A9 dm9 => bX8_level_l37 lev k22 n x0 x1 x2 x3 x4 x5 x6 A9 dm9) x0 x1 x2 x3 x5 x6 x4 r19.2.1 r19.2.2 else gkd r19.2.1 r19.1 20 (gix r19.2.1 r19.1 (1 : Int32) (gti (r19.2.2 r19.1 (1 : Int32).toNatClampNeg) (fun v24 => if v24 = x2 then bX8_level_j93 lev k22 (fun x0 x1 x2 x3 x4 x5 x6 A9 dm9 => bX8_level_l37 lev k22 n x0 x1 x2 x3 x4 x5 x6 A9 dm9) x0 x1 x2 x3 x5 x6 r19.1 x4 r19.2.1 r19.2.2 else bX8_level_j100 lev k22 (fun x0 x1 x2 x3 x4 x5 x6 A9 dm9 => bX8_level_l37 lev k22 n x0 x1 x2 x3 x4 x5 x6 A9 dm9) x0 x1 x2 x3 x5 x6 x4 r19.2.1 r19.2.2)))))))) else bX8_level_j110 lev k22 x0 x1 x2 x3 x4 x5 A dm)))))))) else bX8_level_j110 lev k22 x0 x1 x2 x3 x4 x5 A dm
theorem bX8_level_l37_ok {E : Ev2} {l : Launch} {K : KF} {mm : Mem} {x : Int32 × AS × DM} {lev : AS → DM → Nat → Int32 → Int32 → Int32 → Option (Int32 × AS × DM)} {d : Nat} {k22 : Nat → Int32 → Int32 → Int32 → Int32 → Int32 → AS → DM → Option (Int32 × AS × DM)} (X : Ec2 E l K (5 + (d + 1)) (118 + 27 * (d + 1))) (B : Bx2 E RX8 tbX8_level 8 (some .int)) (hQ : Rt2 E) (hr : Rs2 E (some (.int x.1)) mm x.2.1 x.2.2) (hlev : ∀ (A : AS) (dm : DM) (a0 : Nat) (a1 a2 a3 : Int32) (mm : Mem) (x : Int32 × AS × DM), lev A dm a0 a1 a2 a3 = some x → Ct2 l K yX8_level cX8_level 8 (some .int) (5 + d) (118 + 27 * d) [.ref a0, .int a1, .int a2, .int a3] mm A dm (some (.int x.1)) mm x.2.1 x.2.2) (hk22 : ∀ (x0 : Nat) (x1 : Int32) (x2 : Int32) (x3 : Int32) (x4 : Int32) (x5 : Int32) (A : AS) (dm : DM), k22 x0 x1 x2 x3 x4 x5 A dm = some x → G2 E 8 22 [(0, .ref x0), (1, .int x1), (2, .int x2), (3, .int x3), (4, .int x4), (5, .int x5)] [] mm A dm) (n : Nat) : ∀ (x0 : Nat) (x1 : Int32) (x2 : Int32) (x3 : Int32) (x4 : Int32) (x5 : Int32) (x6 : Int32) (A : AS) (dm : DM), bX8_level_l37 lev k22 n x0 x1 x2 x3 x4 x5 x6 A dm = some x → G2 E 8 37 [(0, .ref x0), (1, .int x1), (2, .int x2), (3, .int x3), (4, .int x4), (5, .int x5), (6, .int x6)] [] mm A dm := by
  induction n with
  | zero =>
    intro x0 x1 x2 x3 x4 x5 x6 A dm hf
    rw [bX8_level_l37] at hf
    cases hf
  | succ n ih =>
    intro x0 x1 x2 x3 x4 x5 x6 A dm hf
    rw [bX8_level_l37] at hf
    refine w_iload B 21 rfl 6 rfl ?_
    refine w_iconst 4 B 22 rfl (by decide) ?_
    by_cases hc : x6 < (4 : Int32)
    · replace hf := (if_pos hc).symm.trans hf
      refine w_icmp_ge_f B 23 rfl 110 (by decide) hc ?_
      refine w_aload_n B 24 rfl 0 0 rfl rfl ?_
      obtain ⟨hk, hf⟩ := gkd_e hf
      obtain ⟨q16, ex, hf⟩ := gtr_e hf
      refine w_getr B 25 rfl 8 2 x0 (by decide) hk rfl (iX8_level _ (List.mem_of_getElem? (i := 3) rfl)) (Or.inl rfl) ex ?_
      refine w_iload B 26 rfl 5 rfl ?_
      obtain ⟨hk, hf⟩ := gkd_e hf
      obtain ⟨r17, ec, hf⟩ := bd_e hf
      refine w_callV q16 [.int x5] [] [.ref r17] X B 27 rfl miAL_get 9 (by decide) hk rfl rfl ⟨(iX8_level _ (List.mem_of_getElem? (i := 8) rfl)), (iX8_level _ (List.mem_of_getElem? (i := 9) rfl)), (iX8_level _ (List.mem_of_getElem? (i := 10) rfl))⟩ (ctAL_get ec) (Or.inl ⟨rfl, rfl⟩) ⟨by omega, by omega⟩ rfl rfl (Nat.le_of_ble_eq_true rfl) rfl ?_
      obtain ⟨hk, hf⟩ := gkd_e hf
      refine w_castI B 28 rfl hk (iX8_level _ (List.mem_of_getElem? (i := 11) rfl)) ?_
      refine w_iconst 0 B 29 rfl (by decide) ?_
      obtain ⟨hk, hf⟩ := gkd_e hf
      obtain ⟨hx, hf⟩ := gix_e hf
      obtain ⟨v18, ex, hf⟩ := gti_e hf
      refine w_iald B 30 rfl hk hx ex ?_
      refine w_iload_n B 31 rfl 1 1 rfl rfl ?_
      by_cases hc : v18 = x1
      · replace hf := (if_pos hc).symm.trans hf
        refine w_icmp_ne_f B 32 rfl 110 (by decide) hc ?_
        refine w_aload_n B 33 rfl 0 0 rfl rfl ?_
        refine w_iload B 34 rfl 5 rfl ?_
        refine w_iload B 35 rfl 6 rfl ?_
        obtain ⟨hk, hf⟩ := gkd_e hf
        obtain ⟨r19, ec, hgd, hf⟩ := bdg_e hf
        refine w_callV x0 [.int x5, .int x6] [] [.ref r19.1] X B 36 rfl miX8_line 8 (by decide) hk rfl rfl ⟨(iX8_level _ (List.mem_of_getElem? (i := 18) rfl)), (iX8_level _ (List.mem_of_getElem? (i := 19) rfl)), (iX8_level _ (List.mem_of_getElem? (i := 20) rfl))⟩ (ctX8_line ec) (Or.inr ⟨_, _, _, _, hr, hgd⟩) ⟨by omega, by omega⟩ rfl rfl (Nat.le_of_ble_eq_true rfl) rfl ?_
        refine w_astore [(7, .ref r19.1), (0, .ref x0), (1, .int x1), (2, .int x2), (3, .int x3), (4, .int x4), (5, .int x5), (6, .int x6)] B 37 rfl (by decide) rfl ?_
        refine w_iload B 38 rfl 5 rfl ?_
        refine w_aload B 39 rfl 0 rfl ?_
        refine w_iconst 1 B 40 rfl (by decide) ?_
        obtain ⟨hk, hf⟩ := gkd_e hf
        obtain ⟨hx, hf⟩ := gix_e hf
        obtain ⟨v20, ex, hf⟩ := gti_e hf
        refine w_iald B 41 rfl hk hx ex ?_
        refine w_iload_n B 42 rfl 2 3 rfl rfl ?_
        by_cases hc : v20 < x2
        · replace hf := (if_pos hc).symm.trans hf
          refine w_icmp_lt_t B 43 rfl 93 (by decide) hc ?_
          refine w_sub [(0, .ref x0), (1, .int x1), (2, .int x2), (3, .int x3), (5, .int x5), (6, .int x6), (7, .ref r19.1)] [1, 2, 3, 4, 6, 7, 0] rfl ?_
          exact bX8_level_j93_ok X B hQ hr hlev hk22 ih _ _ _ _ _ _ _ _ _ _ hf
        · replace hf := (if_neg hc).symm.trans hf
          refine w_icmp_lt_f B 43 rfl 93 (by decide) hc ?_
          refine w_iload_n B 44 rfl 3 4 rfl rfl ?_
          by_cases hc : x3 = 0
          · replace hf := (if_pos hc).symm.trans hf
            refine w_if_eq_t B 45 rfl 100 (by decide) hc ?_
            refine w_sub [(0, .ref x0), (1, .int x1), (2, .int x2), (3, .int x3), (5, .int x5), (6, .int x6)] [1, 2, 3, 4, 6, 7] rfl ?_
            exact bX8_level_j100_ok X B hQ hr hlev hk22 ih _ _ _ _ _ _ _ _ _ hf
          · replace hf := (if_neg hc).symm.trans hf
            refine w_if_eq_f B 45 rfl 100 (by decide) hc ?_
            refine w_aload B 46 rfl 0 rfl ?_
            refine w_iconst 1 B 47 rfl (by decide) ?_
            obtain ⟨hk, hf⟩ := gkd_e hf
            obtain ⟨hx, hf⟩ := gix_e hf
            obtain ⟨v24, ex, hf⟩ := gti_e hf
            refine w_iald B 48 rfl hk hx ex ?_
            refine w_iload_n B 49 rfl 2 3 rfl rfl ?_
            by_cases hc : v24 = x2
            · replace hf := (if_pos hc).symm.trans hf
              refine w_icmp_ne_f B 50 rfl 100 (by decide) hc ?_
              refine w_sub [(0, .ref x0), (1, .int x1), (2, .int x2), (3, .int x3), (5, .int x5), (6, .int x6), (7, .ref r19.1)] [1, 2, 3, 4, 6, 7, 0] rfl ?_
              exact bX8_level_j93_ok X B hQ hr hlev hk22 ih _ _ _ _ _ _ _ _ _ _ hf
            · replace hf := (if_neg hc).symm.trans hf
              refine w_icmp_ne_t B 50 rfl 100 (by decide) hc ?_
              refine w_sub [(0, .ref x0), (1, .int x1), (2, .int x2), (3, .int x3), (5, .int x5), (6, .int x6)] [1, 2, 3, 4, 6, 7] rfl ?_
              exact bX8_level_j100_ok X B hQ hr hlev hk22 ih _ _ _ _ _ _ _ _ _ hf
      · replace hf := (if_neg hc).symm.trans hf
        refine w_icmp_ne_t B 32 rfl 110 (by decide) hc ?_
        refine w_sub [(0, .ref x0), (1, .int x1), (2, .int x2), (3, .int x3), (4, .int x4), (5, .int x5)] [0, 1, 2, 3, 4, 5] rfl ?_
        exact bX8_level_j110_ok X B hQ hr hlev hk22 _ _ _ _ _ _ _ _ hf
    · replace hf := (if_neg hc).symm.trans hf
      refine w_icmp_ge_t B 23 rfl 110 (by decide) hc ?_
      refine w_sub [(0, .ref x0), (1, .int x1), (2, .int x2), (3, .int x3), (4, .int x4), (5, .int x5)] [0, 1, 2, 3, 4, 5] rfl ?_
      exact bX8_level_j110_ok X B hQ hr hlev hk22 _ _ _ _ _ _ _ _ hf
def bX8_level_l22 (lev : AS → DM → Nat → Int32 → Int32 → Int32 → Option (Int32 × AS × DM)) : Nat → Nat → Int32 → Int32 → Int32 → Int32 → Int32 → AS → DM → Option (Int32 × AS × DM)
  | 0, _, _, _, _, _, _, _, _ => none
  | n + 1, x0, x1, x2, x3, x4, x5, A, dm => gkd A x0 8 (gtr (dm x0 2) (fun q3 => gkd A q3 9 (bd (bAL_size A dm q3) (fun r4 => if x5 < r4 then bX8_level_l37 lev (fun x0 x1 x2 x3 x4 x5 A9 dm9 => bX8_level_l22 lev n x0 x1 x2 x3 x4 x5 A9 dm9) FU x0 x1 x2 x3 x4 x5 (0 : Int32) A dm else nm (x1 + (1 : Int32)) (fun v5 => bX8_level_l121 lev FU x0 x1 x2 x3 x4 v5 A dm)))))
theorem bX8_level_l22_ok {E : Ev2} {l : Launch} {K : KF} {mm : Mem} {x : Int32 × AS × DM} {lev : AS → DM → Nat → Int32 → Int32 → Int32 → Option (Int32 × AS × DM)} {d : Nat} (X : Ec2 E l K (5 + (d + 1)) (118 + 27 * (d + 1))) (B : Bx2 E RX8 tbX8_level 8 (some .int)) (hQ : Rt2 E) (hr : Rs2 E (some (.int x.1)) mm x.2.1 x.2.2) (hlev : ∀ (A : AS) (dm : DM) (a0 : Nat) (a1 a2 a3 : Int32) (mm : Mem) (x : Int32 × AS × DM), lev A dm a0 a1 a2 a3 = some x → Ct2 l K yX8_level cX8_level 8 (some .int) (5 + d) (118 + 27 * d) [.ref a0, .int a1, .int a2, .int a3] mm A dm (some (.int x.1)) mm x.2.1 x.2.2) (n : Nat) : ∀ (x0 : Nat) (x1 : Int32) (x2 : Int32) (x3 : Int32) (x4 : Int32) (x5 : Int32) (A : AS) (dm : DM), bX8_level_l22 lev n x0 x1 x2 x3 x4 x5 A dm = some x → G2 E 8 22 [(0, .ref x0), (1, .int x1), (2, .int x2), (3, .int x3), (4, .int x4), (5, .int x5)] [] mm A dm := by
  induction n with
  | zero =>
    intro x0 x1 x2 x3 x4 x5 A dm hf
    rw [bX8_level_l22] at hf
    cases hf
  | succ n ih =>
    intro x0 x1 x2 x3 x4 x5 A dm hf
    rw [bX8_level_l22] at hf
    refine w_iload B 14 rfl 5 rfl ?_
    refine w_aload_n B 15 rfl 0 0 rfl rfl ?_
    obtain ⟨hk, hf⟩ := gkd_e hf
    obtain ⟨q3, ex, hf⟩ := gtr_e hf
    refine w_getr B 16 rfl 8 2 x0 (by decide) hk rfl (iX8_level _ (List.mem_of_getElem? (i := 3) rfl)) (Or.inl rfl) ex ?_
    obtain ⟨hk, hf⟩ := gkd_e hf
    obtain ⟨r4, ec, hf⟩ := bd_e hf
    refine w_callV q3 [] [.int x5] [.int r4, .int x5] X B 17 rfl miAL_size 9 (by decide) hk rfl rfl ⟨(iX8_level _ (List.mem_of_getElem? (i := 4) rfl)), (iX8_level _ (List.mem_of_getElem? (i := 5) rfl)), (iX8_level _ (List.mem_of_getElem? (i := 6) rfl))⟩ (ctAL_size ec) (Or.inl ⟨rfl, rfl⟩) ⟨by omega, by omega⟩ rfl rfl (Nat.le_of_ble_eq_true rfl) rfl ?_
    by_cases hc : x5 < r4
    · replace hf := (if_pos hc).symm.trans hf
      refine w_icmp_ge_f B 18 rfl 116 (by decide) hc ?_
      refine w_iconst 0 B 19 rfl (by decide) ?_
      refine w_istore [(6, .int (0 : Int32)), (0, .ref x0), (1, .int x1), (2, .int x2), (3, .int x3), (4, .int x4), (5, .int x5)] B 20 rfl (by decide) rfl ?_
      refine w_sub [(0, .ref x0), (1, .int x1), (2, .int x2), (3, .int x3), (4, .int x4), (5, .int x5), (6, .int (0 : Int32))] [1, 2, 3, 4, 5, 6, 0] rfl ?_
      exact bX8_level_l37_ok X B hQ hr hlev ih FU _ _ _ _ _ _ _ _ _ hf
    · replace hf := (if_neg hc).symm.trans hf
      refine w_icmp_ge_t B 18 rfl 116 (by decide) hc ?_
      refine w_iload_n B 62 rfl 1 1 rfl rfl ?_
      refine w_iconst 1 B 63 rfl (by decide) ?_
      refine w_iadd B 64 rfl ?_
      obtain ⟨v5, ex, hf⟩ := nm_x hf
      refine w_top ex ?_
      refine w_istore [(5, .int v5), (0, .ref x0), (1, .int x1), (2, .int x2), (3, .int x3), (4, .int x4)] B 65 rfl (by decide) rfl ?_
      refine w_sub [(0, .ref x0), (1, .int x1), (2, .int x2), (3, .int x3), (4, .int x4), (5, .int v5)] [1, 2, 3, 4, 5, 0] rfl ?_
      exact bX8_level_l121_ok X B hQ hr hlev FU _ _ _ _ _ _ _ _ hf
def bX8_level_j13 (lev : AS → DM → Nat → Int32 → Int32 → Int32 → Option (Int32 × AS × DM)) (x0 : Nat) (x1 : Int32) (x2 : Int32) (x3 : Int32) (s0 : Int32) (s1 : Int32) (s2 : Nat) (A : AS) (dm : DM) : Option (Int32 × AS × DM) := gkd A s2 8 (bdg (fun (x : Int32 × AS × DM) => x.2.1) A (bX8_wants A dm s2 s1 s0) (fun (x : Int32 × AS × DM) => x.2.1) (fun r1 => nm (-r1.1) (fun v2 => bX8_level_l22 lev FU x0 x1 x2 x3 v2 (0 : Int32) r1.2.1 r1.2.2)))
theorem bX8_level_j13_ok {E : Ev2} {l : Launch} {K : KF} {mm : Mem} {x : Int32 × AS × DM} {lev : AS → DM → Nat → Int32 → Int32 → Int32 → Option (Int32 × AS × DM)} {d : Nat} (X : Ec2 E l K (5 + (d + 1)) (118 + 27 * (d + 1))) (B : Bx2 E RX8 tbX8_level 8 (some .int)) (hQ : Rt2 E) (hr : Rs2 E (some (.int x.1)) mm x.2.1 x.2.2) (hlev : ∀ (A : AS) (dm : DM) (a0 : Nat) (a1 a2 a3 : Int32) (mm : Mem) (x : Int32 × AS × DM), lev A dm a0 a1 a2 a3 = some x → Ct2 l K yX8_level cX8_level 8 (some .int) (5 + d) (118 + 27 * d) [.ref a0, .int a1, .int a2, .int a3] mm A dm (some (.int x.1)) mm x.2.1 x.2.2) (x0 : Nat) (x1 : Int32) (x2 : Int32) (x3 : Int32) (s0 : Int32) (s1 : Int32) (s2 : Nat) (A : AS) (dm : DM) (hf : bX8_level_j13 lev x0 x1 x2 x3 s0 s1 s2 A dm = some x) : G2 E 8 13 [(0, .ref x0), (1, .int x1), (2, .int x2), (3, .int x3)] [.int s0, .int s1, .ref s2] mm A dm := by
  unfold bX8_level_j13 at hf
  obtain ⟨hk, hf⟩ := gkd_e hf
  obtain ⟨r1, ec, hgd, hf⟩ := bdg_e hf
  refine w_callV s2 [.int s1, .int s0] [] [.int r1.1] X B 9 rfl miX8_wants 8 (by decide) hk rfl rfl ⟨(iX8_level _ (List.mem_of_getElem? (i := 0) rfl)), (iX8_level _ (List.mem_of_getElem? (i := 1) rfl)), (iX8_level _ (List.mem_of_getElem? (i := 2) rfl))⟩ (ctX8_wants ec) (Or.inr ⟨_, _, _, _, hr, hgd⟩) ⟨by omega, by omega⟩ rfl rfl (Nat.le_of_ble_eq_true rfl) rfl ?_
  refine w_ineg B 10 rfl ?_
  obtain ⟨v2, ex, hf⟩ := nm_x hf
  refine w_top ex ?_
  refine w_istore [(4, .int v2), (0, .ref x0), (1, .int x1), (2, .int x2), (3, .int x3)] B 11 rfl (by decide) rfl ?_
  refine w_iconst 0 B 12 rfl (by decide) ?_
  refine w_istore [(5, .int (0 : Int32)), (4, .int v2), (0, .ref x0), (1, .int x1), (2, .int x2), (3, .int x3)] B 13 rfl (by decide) rfl ?_
  refine w_sub [(0, .ref x0), (1, .int x1), (2, .int x2), (3, .int x3), (4, .int v2), (5, .int (0 : Int32))] [2, 3, 4, 5, 1, 0] rfl ?_
  exact bX8_level_l22_ok X B hQ hr hlev FU _ _ _ _ _ _ _ _ hf
def bX8_level : Nat → AS → DM → Nat → Int32 → Int32 → Int32 → Option (Int32 × AS × DM)
  | 0, _, _, _, _, _, _ => none
  | d + 1, A, dm, a0, a1, a2, a3 => if a3 = 0 then bX8_level_j13 (bX8_level d) a0 a1 a2 a3 a2 a1 a0 A dm else bX8_level_j13 (bX8_level d) a0 a1 a2 a3 (a2 + (1 : Int32)) a1 a0 A dm
theorem ctX8_level_d {l : Launch} {K : KF} (d : Nat) : ∀ (A : AS) (dm : DM) (a0 : Nat) (a1 a2 a3 : Int32) (mm : Mem) (x : Int32 × AS × DM), bX8_level d A dm a0 a1 a2 a3 = some x → Ct2 l K yX8_level cX8_level 8 (some .int) (5 + d) (118 + 27 * d) [.ref a0, .int a1, .int a2, .int a3] mm A dm (some (.int x.1)) mm x.2.1 x.2.2 := by
  induction d with
  | zero =>
    intro A dm a0 a1 a2 a3 mm x hf
    rw [bX8_level] at hf
    cases hf
  | succ d hlev =>
  intro A dm a0 a1 a2 a3 mm x hf
  refine Ct2.of (tb := tbX8_level) miX8_level.2.1 miX8_level.1 dtX8_level (Nat.le_of_ble_eq_true rfl) ?_
  intro E B hQ hr X hI hcd
  clear hI
  clear hcd
  rw [bX8_level] at hf
  show G2 E 8 0 [(0, .ref a0), (1, .int a1), (2, .int a2), (3, .int a3)] [] mm A dm
  refine w_aload_n B 0 rfl 0 0 rfl rfl ?_
  refine w_iload_n B 1 rfl 1 1 rfl rfl ?_
  refine w_iload_n B 2 rfl 3 3 rfl rfl ?_
  by_cases hc : a3 = 0
  · replace hf := (if_pos hc).symm.trans hf
    refine w_if_eq_t B 3 rfl 12 (by decide) hc ?_
    refine w_iload_n B 8 rfl 2 2 rfl rfl ?_
    exact bX8_level_j13_ok X B hQ hr hlev _ _ _ _ _ _ _ _ _ hf
  · replace hf := (if_neg hc).symm.trans hf
    refine w_if_eq_f B 3 rfl 12 (by decide) hc ?_
    refine w_iload_n B 4 rfl 2 2 rfl rfl ?_
    refine w_iconst 1 B 5 rfl (by decide) ?_
    refine w_iadd B 6 rfl ?_
    refine w_goto B 7 rfl 13 (by decide) ?_
    exact bX8_level_j13_ok X B hQ hr hlev _ _ _ _ _ _ _ _ _ hf
theorem ctX8_level {l : Launch} {K : KF} {mm : Mem} {A : AS} {dm : DM} {a0 : Nat} {a1 : Int32} {a2 : Int32} {a3 : Int32} {x : Int32 × AS × DM} (hf : bX8_level 6 A dm a0 a1 a2 a3 = some x) : Ct2 l K yX8_level cX8_level 8 (some .int) 11 280 [.ref a0, .int a1, .int a2, .int a3] mm A dm (some (.int x.1)) mm x.2.1 x.2.2 := ctX8_level_d 6 A dm a0 a1 a2 a3 mm x hf
/-! ZoneCapacityLaw$Market.leastPrice(II)I -/
def tbX8_leastPrice : Tb := [(0, .iconst (-1), 1, 1), (1, .istore_n 3, 1, 2), (2, .sipush 9999, 3, 5), (5, .istore 4, 2, 7), (7, .iload 4, 2, 9), (9, .iload_n 3, 1, 10), (10, .isub, 1, 11), (11, .iconst 1, 1, 12), (12, .if_icmp .le 36, 3, 15), (15, .iload_n 3, 1, 16), (16, .iload 4, 2, 18), (18, .iadd, 1, 19), (19, .iconst 2, 1, 20), (20, .idiv, 1, 21), (21, .istore 5, 2, 23), (23, .aload_n 0, 1, 24), (24, .iload_n 1, 1, 25), (25, .iload 5, 2, 27), (27, .iconst 1, 1, 28), (28, .invokevirtual 96, 3, 31), (31, .iload_n 2, 1, 32), (32, .if_icmp .lt 10, 3, 35), (35, .iload 5, 2, 37), (37, .istore 4, 2, 39), (39, .goto 6, 3, 42), (42, .iload 5, 2, 44), (44, .istore_n 3, 1, 45), (45, .goto (-38), 3, 48), (48, .iload 4, 2, 50), (50, .ireturn, 1, 51)]
theorem dtX8_leastPrice : ∀ q ∈ tbX8_leastPrice, decode cX8_leastPrice q.1 = .ok (q.2.1, q.2.2.1) ∧ q.1 + q.2.2.1 = q.2.2.2 := by decide +kernel
theorem miX8_leastPrice : MI yX8_leastPrice cX8_leastPrice 6 (some .int) 2 := ⟨tw_mem (List.mem_of_getElem? (i := 991) (by decide +kernel)) rfl, by decide, by decide +kernel, tw_mem (List.mem_of_getElem? (i := 21) (by decide +kernel)) rfl⟩
abbrev rmFX8_leastPrice : Nat := 12
abbrev rmLX8_leastPrice : Nat := 307
def wX8_leastPrice : List Cond := [.methodLink "ZoneCapacityLaw$Market" 96 yX8_level, .instanceMethod yX8_level, .selects "ZoneCapacityLaw$Market" yX8_level yX8_level]
theorem iX8_leastPrice : ∀ w ∈ wX8_leastPrice, w ∈ TW := tw_of (ids := [966, 849, 850]) (by decide +kernel)
def bX8_leastPrice_j45 (k7 : Nat → Int32 → Int32 → Int32 → Int32 → AS → DM → Option (Int32 × AS × DM)) (x0 : Nat) (x1 : Int32) (x2 : Int32) (x3 : Int32) (x4 : Int32) (A : AS) (dm : DM) : Option (Int32 × AS × DM) := k7 x0 x1 x2 x3 x4 A dm
theorem bX8_leastPrice_j45_ok {E : Ev2} {l : Launch} {K : KF} {mm : Mem} {x : Int32 × AS × DM} {k7 : Nat → Int32 → Int32 → Int32 → Int32 → AS → DM → Option (Int32 × AS × DM)} (X : Ec2 E l K rmFX8_leastPrice rmLX8_leastPrice) (B : Bx2 E RX8 tbX8_leastPrice 6 (some .int)) (hQ : Rt2 E) (hr : Rs2 E (some (.int x.1)) mm x.2.1 x.2.2) (hk7 : ∀ (x0 : Nat) (x1 : Int32) (x2 : Int32) (x3 : Int32) (x4 : Int32) (A : AS) (dm : DM), k7 x0 x1 x2 x3 x4 A dm = some x → G2 E 6 7 [(0, .ref x0), (1, .int x1), (2, .int x2), (3, .int x3), (4, .int x4)] [] mm A dm) (x0 : Nat) (x1 : Int32) (x2 : Int32) (x3 : Int32) (x4 : Int32) (A : AS) (dm : DM) (hf : bX8_leastPrice_j45 k7 x0 x1 x2 x3 x4 A dm = some x) : G2 E 6 45 [(0, .ref x0), (1, .int x1), (2, .int x2), (3, .int x3), (4, .int x4)] [] mm A dm := by
  unfold bX8_leastPrice_j45 at hf
  refine w_goto B 27 rfl 7 (by decide) ?_
  exact hk7 _ _ _ _ _ _ _ hf
def bX8_leastPrice_l7 : Nat → Nat → Int32 → Int32 → Int32 → Int32 → AS → DM → Option (Int32 × AS × DM)
  | 0, _, _, _, _, _, _, _ => none
  | n + 1, x0, x1, x2, x3, x4, A, dm => if (1 : Int32) < (x4 - x3) then dvz (2 : Int32) (nm ((x3 + x4) / (2 : Int32)) (fun v1 => gkd A x0 8 (bdg (fun (x : Int32 × AS × DM) => x.2.1) A (bX8_level 6 A dm x0 x1 v1 (1 : Int32)) (fun (x : Int32 × AS × DM) => x.2.1) (fun r2 => if r2.1 < x2 then bX8_leastPrice_j45 (fun x0 x1 x2 x3 x4 A9 dm9 => bX8_leastPrice_l7 n x0 x1 x2 x3 x4 A9 dm9) x0 x1 x2 v1 x4 r2.2.1 r2.2.2 else bX8_leastPrice_j45 (fun x0 x1 x2 x3 x4 A9 dm9 => bX8_leastPrice_l7 n x0 x1 x2 x3 x4 A9 dm9) x0 x1 x2 x3 v1 r2.2.1 r2.2.2)))) else some (x4, A, dm)
theorem bX8_leastPrice_l7_ok {E : Ev2} {l : Launch} {K : KF} {mm : Mem} {x : Int32 × AS × DM} (X : Ec2 E l K rmFX8_leastPrice rmLX8_leastPrice) (B : Bx2 E RX8 tbX8_leastPrice 6 (some .int)) (hQ : Rt2 E) (hr : Rs2 E (some (.int x.1)) mm x.2.1 x.2.2) (n : Nat) : ∀ (x0 : Nat) (x1 : Int32) (x2 : Int32) (x3 : Int32) (x4 : Int32) (A : AS) (dm : DM), bX8_leastPrice_l7 n x0 x1 x2 x3 x4 A dm = some x → G2 E 6 7 [(0, .ref x0), (1, .int x1), (2, .int x2), (3, .int x3), (4, .int x4)] [] mm A dm := by
  induction n with
  | zero =>
    intro x0 x1 x2 x3 x4 A dm hf
    rw [bX8_leastPrice_l7] at hf
    cases hf
  | succ n ih =>
    intro x0 x1 x2 x3 x4 A dm hf
    rw [bX8_leastPrice_l7] at hf
    refine w_iload B 4 rfl 4 rfl ?_
    refine w_iload_n B 5 rfl 3 3 rfl rfl ?_
    refine w_isub B 6 rfl ?_
    refine w_iconst 1 B 7 rfl (by decide) ?_
    by_cases hc : (1 : Int32) < (x4 - x3)
    · replace hf := (if_pos hc).symm.trans hf
      refine w_icmp_le_f B 8 rfl 48 (by decide) hc ?_
      refine w_iload_n B 9 rfl 3 3 rfl rfl ?_
      refine w_iload B 10 rfl 4 rfl ?_
      refine w_iadd B 11 rfl ?_
      refine w_iconst 2 B 12 rfl (by decide) ?_
      obtain ⟨hz, hf⟩ := dvz_e hf
      refine w_idiv B 13 rfl hz ?_
      obtain ⟨v1, ex, hf⟩ := nm_x hf
      refine w_top ex ?_
      refine w_istore [(5, .int v1), (0, .ref x0), (1, .int x1), (2, .int x2), (3, .int x3), (4, .int x4)] B 14 rfl (by decide) rfl ?_
      refine w_aload_n B 15 rfl 0 1 rfl rfl ?_
      refine w_iload_n B 16 rfl 1 2 rfl rfl ?_
      refine w_iload B 17 rfl 0 rfl ?_
      refine w_iconst 1 B 18 rfl (by decide) ?_
      obtain ⟨hk, hf⟩ := gkd_e hf
      obtain ⟨r2, ec, hgd, hf⟩ := bdg_e hf
      refine w_callV x0 [.int x1, .int v1, .int (1 : Int32)] [] [.int r2.1] X B 19 rfl miX8_level 8 (by decide) hk rfl rfl ⟨(iX8_leastPrice _ (List.mem_of_getElem? (i := 0) rfl)), (iX8_leastPrice _ (List.mem_of_getElem? (i := 1) rfl)), (iX8_leastPrice _ (List.mem_of_getElem? (i := 2) rfl))⟩ (ctX8_level ec) (Or.inr ⟨_, _, _, _, hr, hgd⟩) ⟨Nat.le_of_ble_eq_true rfl, Nat.le_of_ble_eq_true rfl⟩ rfl rfl (Nat.le_of_ble_eq_true rfl) rfl ?_
      refine w_iload_n B 20 rfl 2 3 rfl rfl ?_
      by_cases hc : r2.1 < x2
      · replace hf := (if_pos hc).symm.trans hf
        refine w_icmp_lt_t B 21 rfl 42 (by decide) hc ?_
        refine w_iload B 25 rfl 0 rfl ?_
        refine w_istore_n [(3, .int v1), (5, .int v1), (0, .ref x0), (1, .int x1), (2, .int x2), (4, .int x4)] B 26 rfl 3 rfl (by decide) rfl ?_
        refine w_sub [(0, .ref x0), (1, .int x1), (2, .int x2), (3, .int v1), (4, .int x4)] [2, 3, 4, 0, 5] rfl ?_
        exact bX8_leastPrice_j45_ok X B hQ hr ih _ _ _ _ _ _ _ hf
      · replace hf := (if_neg hc).symm.trans hf
        refine w_icmp_lt_f B 21 rfl 42 (by decide) hc ?_
        refine w_iload B 22 rfl 0 rfl ?_
        refine w_istore [(4, .int v1), (5, .int v1), (0, .ref x0), (1, .int x1), (2, .int x2), (3, .int x3)] B 23 rfl (by decide) rfl ?_
        refine w_goto B 24 rfl 45 (by decide) ?_
        refine w_sub [(0, .ref x0), (1, .int x1), (2, .int x2), (3, .int x3), (4, .int v1)] [2, 3, 4, 5, 0] rfl ?_
        exact bX8_leastPrice_j45_ok X B hQ hr ih _ _ _ _ _ _ _ hf
    · replace hf := (if_neg hc).symm.trans hf
      refine w_icmp_le_t B 8 rfl 48 (by decide) hc ?_
      refine w_iload B 28 rfl 4 rfl ?_
      cases hf
      exact w_iret B 29 rfl rfl hQ hr
def bX8_leastPrice (A : AS) (dm : DM) (a0 : Nat) (a1 : Int32) (a2 : Int32) : Option (Int32 × AS × DM) := bX8_leastPrice_l7 FU a0 a1 a2 (-1 : Int32) (9999 : Int32) A dm
theorem ctX8_leastPrice {l : Launch} {K : KF} {mm : Mem} {A : AS} {dm : DM} {a0 : Nat} {a1 : Int32} {a2 : Int32} {x : Int32 × AS × DM} (hf : bX8_leastPrice A dm a0 a1 a2 = some x) : Ct2 l K yX8_leastPrice cX8_leastPrice 6 (some .int) 12 307 [.ref a0, .int a1, .int a2] mm A dm (some (.int x.1)) mm x.2.1 x.2.2 := by
  refine Ct2.of (tb := tbX8_leastPrice) miX8_leastPrice.2.1 miX8_leastPrice.1 dtX8_leastPrice (Nat.le_of_ble_eq_true rfl) ?_
  intro E B hQ hr X hI hcd
  clear hI
  clear hcd
  unfold bX8_leastPrice at hf
  show G2 E 6 0 [(0, .ref a0), (1, .int a1), (2, .int a2)] [] mm A dm
  refine w_iconst (-1) B 0 rfl (by decide) ?_
  refine w_istore_n [(3, .int (-1 : Int32)), (0, .ref a0), (1, .int a1), (2, .int a2)] B 1 rfl 3 rfl (by decide) rfl ?_
  refine w_sipush 9999 B 2 rfl (by decide) ?_
  refine w_istore [(4, .int (9999 : Int32)), (3, .int (-1 : Int32)), (0, .ref a0), (1, .int a1), (2, .int a2)] B 3 rfl (by decide) rfl ?_
  refine w_sub [(0, .ref a0), (1, .int a1), (2, .int a2), (3, .int (-1 : Int32)), (4, .int (9999 : Int32))] [2, 3, 4, 1, 0] rfl ?_
  exact bX8_leastPrice_l7_ok X B hQ hr FU _ _ _ _ _ _ _ hf
/-! ZoneCapacityLaw$Market.taken(I)I -/
def tbX8_taken : Tb := [(0, .aload_n 0, 1, 1), (1, .getfield 114, 3, 4), (4, .iload_n 1, 1, 5), (5, .aaload, 1, 6), (6, .iconst 0, 1, 7), (7, .iaload, 1, 8), (8, .aload_n 0, 1, 9), (9, .getfield 114, 3, 12), (12, .iload_n 1, 1, 13), (13, .aaload, 1, 14), (14, .iconst 1, 1, 15), (15, .iaload, 1, 16), (16, .iadd, 1, 17), (17, .aload_n 0, 1, 18), (18, .getfield 114, 3, 21), (21, .iload_n 1, 1, 22), (22, .aaload, 1, 23), (23, .iconst 2, 1, 24), (24, .iaload, 1, 25), (25, .iadd, 1, 26), (26, .aload_n 0, 1, 27), (27, .getfield 114, 3, 30), (30, .iload_n 1, 1, 31), (31, .aaload, 1, 32), (32, .iconst 3, 1, 33), (33, .iaload, 1, 34), (34, .iadd, 1, 35), (35, .ireturn, 1, 36)]
theorem dtX8_taken : ∀ q ∈ tbX8_taken, decode cX8_taken q.1 = .ok (q.2.1, q.2.2.1) ∧ q.1 + q.2.2.1 = q.2.2.2 := by decide +kernel
theorem miX8_taken : MI yX8_taken cX8_taken 2 (some .int) 1 := ⟨tw_mem (List.mem_of_getElem? (i := 1039) (by decide +kernel)) rfl, by decide, by decide +kernel, tw_mem (List.mem_of_getElem? (i := 21) (by decide +kernel)) rfl⟩
abbrev rmFX8_taken : Nat := 0
abbrev rmLX8_taken : Nat := 0
def wX8_taken : List Cond := [.fieldLink "ZoneCapacityLaw$Market" 114 "ZoneCapacityLaw$Market" "taken" "[[I"]
theorem iX8_taken : ∀ w ∈ wX8_taken, w ∈ TW := tw_of (ids := [561]) (by decide +kernel)
def bX8_taken (A : AS) (dm : DM) (a0 : Nat) (a1 : Int32) : Option (Int32) := gkd A a0 8 (gtr (dm a0 9) (fun q1 => gkd A q1 22 (gix A q1 a1 (gtr (dm q1 a1.toNatClampNeg) (fun q2 => gkd A q2 20 (gix A q2 (0 : Int32) (gti (dm q2 (0 : Int32).toNatClampNeg) (fun v3 => gkd A a0 8 (gtr (dm a0 9) (fun q4 => gkd A q4 22 (gix A q4 a1 (gtr (dm q4 a1.toNatClampNeg) (fun q5 => gkd A q5 20 (gix A q5 (1 : Int32) (gti (dm q5 (1 : Int32).toNatClampNeg) (fun v6 => gkd A a0 8 (gtr (dm a0 9) (fun q7 => gkd A q7 22 (gix A q7 a1 (gtr (dm q7 a1.toNatClampNeg) (fun q8 => gkd A q8 20 (gix A q8 (2 : Int32) (gti (dm q8 (2 : Int32).toNatClampNeg) (fun v9 => gkd A a0 8 (gtr (dm a0 9) (fun q10 => gkd A q10 22 (gix A q10 a1 (gtr (dm q10 a1.toNatClampNeg) (fun q11 => gkd A q11 20 (gix A q11 (3 : Int32) (gti (dm q11 (3 : Int32).toNatClampNeg) (fun v12 => some (((v3 + v6) + v9) + v12)))))))))))))))))))))))))))))))))
theorem ctX8_taken {l : Launch} {K : KF} {mm : Mem} {A : AS} {dm : DM} {a0 : Nat} {a1 : Int32} {x : Int32} (hf : bX8_taken A dm a0 a1 = some x) : Ct2 l K yX8_taken cX8_taken 2 (some .int) 0 0 [.ref a0, .int a1] mm A dm (some (.int x)) mm A dm := by
  refine Ct2.of (tb := tbX8_taken) miX8_taken.2.1 miX8_taken.1 dtX8_taken (Nat.le_of_ble_eq_true rfl) ?_
  intro E B hQ hr X hI hcd
  clear hI
  clear hcd
  unfold bX8_taken at hf
  show G2 E 2 0 [(0, .ref a0), (1, .int a1)] [] mm A dm
  refine w_aload_n B 0 rfl 0 0 rfl rfl ?_
  obtain ⟨hk, hf⟩ := gkd_e hf
  obtain ⟨q1, ex, hf⟩ := gtr_e hf
  refine w_getr B 1 rfl 8 9 a0 (by decide) hk rfl (iX8_taken _ (List.mem_of_getElem? (i := 0) rfl)) (Or.inl rfl) ex ?_
  refine w_iload_n B 2 rfl 1 1 rfl rfl ?_
  obtain ⟨hk, hf⟩ := gkd_e hf
  obtain ⟨hx, hf⟩ := gix_e hf
  obtain ⟨q2, ex, hf⟩ := gtr_e hf
  refine w_gald B 3 rfl hk hx ex ?_
  refine w_iconst 0 B 4 rfl (by decide) ?_
  obtain ⟨hk, hf⟩ := gkd_e hf
  obtain ⟨hx, hf⟩ := gix_e hf
  obtain ⟨v3, ex, hf⟩ := gti_e hf
  refine w_iald B 5 rfl hk hx ex ?_
  refine w_aload_n B 6 rfl 0 0 rfl rfl ?_
  obtain ⟨hk, hf⟩ := gkd_e hf
  obtain ⟨q4, ex, hf⟩ := gtr_e hf
  refine w_getr B 7 rfl 8 9 a0 (by decide) hk rfl (iX8_taken _ (List.mem_of_getElem? (i := 0) rfl)) (Or.inl rfl) ex ?_
  refine w_iload_n B 8 rfl 1 1 rfl rfl ?_
  obtain ⟨hk, hf⟩ := gkd_e hf
  obtain ⟨hx, hf⟩ := gix_e hf
  obtain ⟨q5, ex, hf⟩ := gtr_e hf
  refine w_gald B 9 rfl hk hx ex ?_
  refine w_iconst 1 B 10 rfl (by decide) ?_
  obtain ⟨hk, hf⟩ := gkd_e hf
  obtain ⟨hx, hf⟩ := gix_e hf
  obtain ⟨v6, ex, hf⟩ := gti_e hf
  refine w_iald B 11 rfl hk hx ex ?_
  refine w_iadd B 12 rfl ?_
  refine w_aload_n B 13 rfl 0 0 rfl rfl ?_
  obtain ⟨hk, hf⟩ := gkd_e hf
  obtain ⟨q7, ex, hf⟩ := gtr_e hf
  refine w_getr B 14 rfl 8 9 a0 (by decide) hk rfl (iX8_taken _ (List.mem_of_getElem? (i := 0) rfl)) (Or.inl rfl) ex ?_
  refine w_iload_n B 15 rfl 1 1 rfl rfl ?_
  obtain ⟨hk, hf⟩ := gkd_e hf
  obtain ⟨hx, hf⟩ := gix_e hf
  obtain ⟨q8, ex, hf⟩ := gtr_e hf
  refine w_gald B 16 rfl hk hx ex ?_
  refine w_iconst 2 B 17 rfl (by decide) ?_
  obtain ⟨hk, hf⟩ := gkd_e hf
  obtain ⟨hx, hf⟩ := gix_e hf
  obtain ⟨v9, ex, hf⟩ := gti_e hf
  refine w_iald B 18 rfl hk hx ex ?_
  refine w_iadd B 19 rfl ?_
  refine w_aload_n B 20 rfl 0 0 rfl rfl ?_
  obtain ⟨hk, hf⟩ := gkd_e hf
  obtain ⟨q10, ex, hf⟩ := gtr_e hf
  refine w_getr B 21 rfl 8 9 a0 (by decide) hk rfl (iX8_taken _ (List.mem_of_getElem? (i := 0) rfl)) (Or.inl rfl) ex ?_
  refine w_iload_n B 22 rfl 1 1 rfl rfl ?_
  obtain ⟨hk, hf⟩ := gkd_e hf
  obtain ⟨hx, hf⟩ := gix_e hf
  obtain ⟨q11, ex, hf⟩ := gtr_e hf
  refine w_gald B 23 rfl hk hx ex ?_
  refine w_iconst 3 B 24 rfl (by decide) ?_
  obtain ⟨hk, hf⟩ := gkd_e hf
  obtain ⟨hx, hf⟩ := gix_e hf
  obtain ⟨v12, ex, hf⟩ := gti_e hf
  refine w_iald B 25 rfl hk hx ex ?_
  refine w_iadd B 26 rfl ?_
  cases hf
  exact w_iret B 27 rfl rfl hQ hr
/-! ZoneCapacityLaw$Market.surplus()J -/
def tbX8_surplus : Tb := [(0, .lconst 0, 1, 1), (1, .lstore_n 1, 1, 2), (2, .iconst 0, 1, 3), (3, .istore_n 3, 1, 4), (4, .iload_n 3, 1, 5), (5, .aload_n 0, 1, 6), (6, .getfield 10, 3, 9), (9, .invokevirtual 41, 3, 12), (12, .if_icmp .ge 45, 3, 15), (15, .aload_n 0, 1, 16), (16, .iload_n 3, 1, 17), (17, .invokevirtual 76, 3, 20), (20, .astore 4, 2, 22), (22, .iconst 0, 1, 23), (23, .istore 5, 2, 25), (25, .iload 5, 2, 27), (27, .aload_n 0, 1, 28), (28, .getfield 109, 3, 31), (31, .iload_n 3, 1, 32), (32, .iaload, 1, 33), (33, .if_icmp .ge 18, 3, 36), (36, .lload_n 1, 1, 37), (37, .aload 4, 2, 39), (39, .iload 5, 2, 41), (41, .iaload, 1, 42), (42, .i2l, 1, 43), (43, .ladd, 1, 44), (44, .lstore_n 1, 1, 45), (45, .iinc 5 1, 3, 48), (48, .goto (-23), 3, 51), (51, .iinc 3 1, 3, 54), (54, .goto (-50), 3, 57), (57, .iconst 0, 1, 58), (58, .istore_n 3, 1, 59), (59, .iload_n 3, 1, 60), (60, .aload_n 0, 1, 61), (61, .getfield 19, 3, 64), (64, .invokevirtual 41, 3, 67), (67, .if_icmp .ge 48, 3, 70), (70, .iconst 0, 1, 71), (71, .istore 4, 2, 73), (73, .iload 4, 2, 75), (75, .iconst 4, 1, 76), (76, .if_icmp .ge 33, 3, 79), (79, .lload_n 1, 1, 80), (80, .aload_n 0, 1, 81), (81, .getfield 114, 3, 84), (84, .iload_n 3, 1, 85), (85, .aaload, 1, 86), (86, .iload 4, 2, 88), (88, .iaload, 1, 89), (89, .i2l, 1, 90), (90, .aload_n 0, 1, 91), (91, .iload_n 3, 1, 92), (92, .iload 4, 2, 94), (94, .invokevirtual 92, 3, 97), (97, .iconst 1, 1, 98), (98, .iaload, 1, 99), (99, .i2l, 1, 100), (100, .lmul, 1, 101), (101, .lsub, 1, 102), (102, .lstore_n 1, 1, 103), (103, .iinc 4 1, 3, 106), (106, .goto (-33), 3, 109), (109, .iinc 3 1, 3, 112), (112, .goto (-53), 3, 115), (115, .lload_n 1, 1, 116), (116, .lreturn, 1, 117)]
theorem dtX8_surplus : ∀ q ∈ tbX8_surplus, decode cX8_surplus q.1 = .ok (q.2.1, q.2.2.1) ∧ q.1 + q.2.2.1 = q.2.2.2 := by decide +kernel
theorem miX8_surplus : MI yX8_surplus cX8_surplus 6 (some .long) 0 := ⟨tw_mem (List.mem_of_getElem? (i := 1043) (by decide +kernel)) rfl, by decide, by decide +kernel, tw_mem (List.mem_of_getElem? (i := 21) (by decide +kernel)) rfl⟩
abbrev rmFX8_surplus : Nat := 4
abbrev rmLX8_surplus : Nat := 100
def wX8_surplus : List Cond := [.fieldLink "ZoneCapacityLaw$Market" 10 "ZoneCapacityLaw$Market" "zones" "Ljava/util/ArrayList;", .methodLink "ZoneCapacityLaw$Market" 41 yJx4a65c_size_8abf5, .instanceMethod yJx4a65c_size_8abf5, .selects "java/util/ArrayList" yJx4a65c_size_8abf5 yJx4a65c_size_8abf5, .fieldLink "ZoneCapacityLaw$Market" 19 "ZoneCapacityLaw$Market" "resources" "Ljava/util/ArrayList;", .fieldLink "ZoneCapacityLaw$Market" 114 "ZoneCapacityLaw$Market" "taken" "[[I", .methodLink "ZoneCapacityLaw$Market" 92 yX8_line, .instanceMethod yX8_line, .selects "ZoneCapacityLaw$Market" yX8_line yX8_line, .methodLink "ZoneCapacityLaw$Market" 76 yX8_worths, .instanceMethod yX8_worths, .selects "ZoneCapacityLaw$Market" yX8_worths yX8_worths, .fieldLink "ZoneCapacityLaw$Market" 109 "ZoneCapacityLaw$Market" "served" "[I"]
theorem iX8_surplus : ∀ w ∈ wX8_surplus, w ∈ TW := tw_of (ids := [542, 819, 775, 776, 546, 561, 853, 854, 855, 838, 811, 812, 559]) (by decide +kernel)
def bX8_surplus_l73 (k59 : Nat → Int64 → Int32 → AS → DM → Option (Int64 × AS × DM)) : Nat → Nat → Int64 → Int32 → Int32 → AS → DM → Option (Int64 × AS × DM)
  | 0, _, _, _, _, _, _ => none
  | n + 1, x0, x1, x3, x4, A, dm => if x4 < (4 : Int32) then gkd A x0 8 (gtr (dm x0 9) (fun q6 => gkd A q6 22 (gix A q6 x3 (gtr (dm q6 x3.toNatClampNeg) (fun q7 => gkd A q7 20 (gix A q7 x4 (gti (dm q7 x4.toNatClampNeg) (fun v8 => gkd A x0 8 (bdg (fun (x : Int64 × AS × DM) => x.2.1) A (bX8_line A dm x0 x3 x4) (fun (x : Nat × AS × DM) => x.2.1) (fun r9 => gkd r9.2.1 r9.1 20 (gix r9.2.1 r9.1 (1 : Int32) (gti (r9.2.2 r9.1 (1 : Int32).toNatClampNeg) (fun v10 => nm (x1 - (v8.toInt64 * v10.toInt64)) (fun v11 => nm (x4 + 1) (fun v12 => bX8_surplus_l73 k59 n x0 v11 x3 v12 r9.2.1 r9.2.2))))))))))))))) else nm (x3 + 1) (fun v5 => k59 x0 x1 v5 A dm)
theorem bX8_surplus_l73_ok {E : Ev2} {l : Launch} {K : KF} {mm : Mem} {x : Int64 × AS × DM} {k59 : Nat → Int64 → Int32 → AS → DM → Option (Int64 × AS × DM)} (X : Ec2 E l K rmFX8_surplus rmLX8_surplus) (B : Bx2 E RX8 tbX8_surplus 6 (some .long)) (hQ : Rt2 E) (hr : Rs2 E (some (.long x.1)) mm x.2.1 x.2.2) (hk59 : ∀ (x0 : Nat) (x1 : Int64) (x3 : Int32) (A : AS) (dm : DM), k59 x0 x1 x3 A dm = some x → G2 E 6 59 [(0, .ref x0), (1, .long x1), (3, .int x3)] [] mm A dm) (n : Nat) : ∀ (x0 : Nat) (x1 : Int64) (x3 : Int32) (x4 : Int32) (A : AS) (dm : DM), bX8_surplus_l73 k59 n x0 x1 x3 x4 A dm = some x → G2 E 6 73 [(0, .ref x0), (1, .long x1), (3, .int x3), (4, .int x4)] [] mm A dm := by
  induction n with
  | zero =>
    intro x0 x1 x3 x4 A dm hf
    rw [bX8_surplus_l73] at hf
    cases hf
  | succ n ih =>
    intro x0 x1 x3 x4 A dm hf
    rw [bX8_surplus_l73] at hf
    refine w_iload B 41 rfl 3 rfl ?_
    refine w_iconst 4 B 42 rfl (by decide) ?_
    by_cases hc : x4 < (4 : Int32)
    · replace hf := (if_pos hc).symm.trans hf
      refine w_icmp_ge_f B 43 rfl 109 (by decide) hc ?_
      refine w_lload_n B 44 rfl 1 1 rfl rfl ?_
      refine w_aload_n B 45 rfl 0 0 rfl rfl ?_
      obtain ⟨hk, hf⟩ := gkd_e hf
      obtain ⟨q6, ex, hf⟩ := gtr_e hf
      refine w_getr B 46 rfl 8 9 x0 (by decide) hk rfl (iX8_surplus _ (List.mem_of_getElem? (i := 5) rfl)) (Or.inl rfl) ex ?_
      refine w_iload_n B 47 rfl 3 2 rfl rfl ?_
      obtain ⟨hk, hf⟩ := gkd_e hf
      obtain ⟨hx, hf⟩ := gix_e hf
      obtain ⟨q7, ex, hf⟩ := gtr_e hf
      refine w_gald B 48 rfl hk hx ex ?_
      refine w_iload B 49 rfl 3 rfl ?_
      obtain ⟨hk, hf⟩ := gkd_e hf
      obtain ⟨hx, hf⟩ := gix_e hf
      obtain ⟨v8, ex, hf⟩ := gti_e hf
      refine w_iald B 50 rfl hk hx ex ?_
      refine w_i2l B 51 rfl ?_
      refine w_aload_n B 52 rfl 0 0 rfl rfl ?_
      refine w_iload_n B 53 rfl 3 2 rfl rfl ?_
      refine w_iload B 54 rfl 3 rfl ?_
      obtain ⟨hk, hf⟩ := gkd_e hf
      obtain ⟨r9, ec, hgd, hf⟩ := bdg_e hf
      refine w_callV x0 [.int x3, .int x4] [.long v8.toInt64, .long x1] [.ref r9.1, .long v8.toInt64, .long x1] X B 55 rfl miX8_line 8 (by decide) hk rfl rfl ⟨(iX8_surplus _ (List.mem_of_getElem? (i := 6) rfl)), (iX8_surplus _ (List.mem_of_getElem? (i := 7) rfl)), (iX8_surplus _ (List.mem_of_getElem? (i := 8) rfl))⟩ (ctX8_line ec) (Or.inr ⟨_, _, _, _, hr, hgd⟩) ⟨Nat.le_of_ble_eq_true rfl, Nat.le_of_ble_eq_true rfl⟩ rfl rfl (Nat.le_of_ble_eq_true rfl) rfl ?_
      refine w_iconst 1 B 56 rfl (by decide) ?_
      obtain ⟨hk, hf⟩ := gkd_e hf
      obtain ⟨hx, hf⟩ := gix_e hf
      obtain ⟨v10, ex, hf⟩ := gti_e hf
      refine w_iald B 57 rfl hk hx ex ?_
      refine w_i2l B 58 rfl ?_
      refine w_lmul B 59 rfl ?_
      refine w_lsub B 60 rfl ?_
      obtain ⟨v11, ex, hf⟩ := nm_x hf
      refine w_topl ex ?_
      refine w_lstore_n [(1, .long v11), (0, .ref x0), (3, .int x3), (4, .int x4)] B 61 rfl 1 rfl (by decide) rfl ?_
      obtain ⟨v12, ex, hf⟩ := nm_x hf
      refine w_iinc v12 [(4, .int v12), (1, .long v11), (0, .ref x0), (3, .int x3)] B 62 rfl 3 rfl (ex.symm) (by decide) rfl ?_
      refine w_goto B 63 rfl 73 (by decide) ?_
      refine w_sub [(0, .ref x0), (1, .long v11), (3, .int x3), (4, .int v12)] [2, 1, 3, 0] rfl ?_
      exact ih _ _ _ _ _ _ hf
    · replace hf := (if_neg hc).symm.trans hf
      refine w_icmp_ge_t B 43 rfl 109 (by decide) hc ?_
      obtain ⟨v5, ex, hf⟩ := nm_x hf
      refine w_iinc v5 [(3, .int v5), (0, .ref x0), (1, .long x1), (4, .int x4)] B 64 rfl 2 rfl (ex.symm) (by decide) rfl ?_
      refine w_goto B 65 rfl 59 (by decide) ?_
      refine w_sub [(0, .ref x0), (1, .long x1), (3, .int v5)] [1, 2, 0] rfl ?_
      exact hk59 _ _ _ _ _ hf
def bX8_surplus_l59 : Nat → Nat → Int64 → Int32 → AS → DM → Option (Int64 × AS × DM)
  | 0, _, _, _, _, _ => none
  | n + 1, x0, x1, x3, A, dm => gkd A x0 8 (gtr (dm x0 2) (fun q3 => gkd A q3 9 (bd (bAL_size A dm q3) (fun r4 => if x3 < r4 then bX8_surplus_l73 (fun x0 x1 x3 A9 dm9 => bX8_surplus_l59 n x0 x1 x3 A9 dm9) FU x0 x1 x3 (0 : Int32) A dm else some (x1, A, dm)))))
theorem bX8_surplus_l59_ok {E : Ev2} {l : Launch} {K : KF} {mm : Mem} {x : Int64 × AS × DM} (X : Ec2 E l K rmFX8_surplus rmLX8_surplus) (B : Bx2 E RX8 tbX8_surplus 6 (some .long)) (hQ : Rt2 E) (hr : Rs2 E (some (.long x.1)) mm x.2.1 x.2.2) (n : Nat) : ∀ (x0 : Nat) (x1 : Int64) (x3 : Int32) (A : AS) (dm : DM), bX8_surplus_l59 n x0 x1 x3 A dm = some x → G2 E 6 59 [(0, .ref x0), (1, .long x1), (3, .int x3)] [] mm A dm := by
  induction n with
  | zero =>
    intro x0 x1 x3 A dm hf
    rw [bX8_surplus_l59] at hf
    cases hf
  | succ n ih =>
    intro x0 x1 x3 A dm hf
    rw [bX8_surplus_l59] at hf
    refine w_iload_n B 34 rfl 3 2 rfl rfl ?_
    refine w_aload_n B 35 rfl 0 0 rfl rfl ?_
    obtain ⟨hk, hf⟩ := gkd_e hf
    obtain ⟨q3, ex, hf⟩ := gtr_e hf
    refine w_getr B 36 rfl 8 2 x0 (by decide) hk rfl (iX8_surplus _ (List.mem_of_getElem? (i := 4) rfl)) (Or.inl rfl) ex ?_
    obtain ⟨hk, hf⟩ := gkd_e hf
    obtain ⟨r4, ec, hf⟩ := bd_e hf
    refine w_callV q3 [] [.int x3] [.int r4, .int x3] X B 37 rfl miAL_size 9 (by decide) hk rfl rfl ⟨(iX8_surplus _ (List.mem_of_getElem? (i := 1) rfl)), (iX8_surplus _ (List.mem_of_getElem? (i := 2) rfl)), (iX8_surplus _ (List.mem_of_getElem? (i := 3) rfl))⟩ (ctAL_size ec) (Or.inl ⟨rfl, rfl⟩) ⟨Nat.le_of_ble_eq_true rfl, Nat.le_of_ble_eq_true rfl⟩ rfl rfl (Nat.le_of_ble_eq_true rfl) rfl ?_
    by_cases hc : x3 < r4
    · replace hf := (if_pos hc).symm.trans hf
      refine w_icmp_ge_f B 38 rfl 115 (by decide) hc ?_
      refine w_iconst 0 B 39 rfl (by decide) ?_
      refine w_istore [(4, .int (0 : Int32)), (0, .ref x0), (1, .long x1), (3, .int x3)] B 40 rfl (by decide) rfl ?_
      refine w_sub [(0, .ref x0), (1, .long x1), (3, .int x3), (4, .int (0 : Int32))] [1, 2, 3, 0] rfl ?_
      exact bX8_surplus_l73_ok X B hQ hr ih FU _ _ _ _ _ _ hf
    · replace hf := (if_neg hc).symm.trans hf
      refine w_icmp_ge_t B 38 rfl 115 (by decide) hc ?_
      refine w_lload_n B 66 rfl 1 1 rfl rfl ?_
      cases hf
      exact w_lret B 67 rfl hQ hr
def bX8_surplus_l25 (k4 : Nat → Int64 → Int32 → AS → DM → Option (Int64 × AS × DM)) : Nat → Nat → Int64 → Int32 → Nat → Int32 → AS → DM → Option (Int64 × AS × DM)
  | 0, _, _, _, _, _, _, _ => none
  | n + 1, x0, x1, x3, x4, x5, A, dm => gkd A x0 8 (gtr (dm x0 8) (fun q14 => gkd A q14 20 (gix A q14 x3 (gti (dm q14 x3.toNatClampNeg) (fun v15 => if x5 < v15 then gkd A x4 20 (gix A x4 x5 (gti (dm x4 x5.toNatClampNeg) (fun v17 => nm (x1 + v17.toInt64) (fun v18 => nm (x5 + 1) (fun v19 => bX8_surplus_l25 k4 n x0 v18 x3 x4 v19 A dm))))) else nm (x3 + 1) (fun v16 => k4 x0 x1 v16 A dm))))))
theorem bX8_surplus_l25_ok {E : Ev2} {l : Launch} {K : KF} {mm : Mem} {x : Int64 × AS × DM} {k4 : Nat → Int64 → Int32 → AS → DM → Option (Int64 × AS × DM)} (X : Ec2 E l K rmFX8_surplus rmLX8_surplus) (B : Bx2 E RX8 tbX8_surplus 6 (some .long)) (hQ : Rt2 E) (hr : Rs2 E (some (.long x.1)) mm x.2.1 x.2.2) (hk4 : ∀ (x0 : Nat) (x1 : Int64) (x3 : Int32) (A : AS) (dm : DM), k4 x0 x1 x3 A dm = some x → G2 E 6 4 [(0, .ref x0), (1, .long x1), (3, .int x3)] [] mm A dm) (n : Nat) : ∀ (x0 : Nat) (x1 : Int64) (x3 : Int32) (x4 : Nat) (x5 : Int32) (A : AS) (dm : DM), bX8_surplus_l25 k4 n x0 x1 x3 x4 x5 A dm = some x → G2 E 6 25 [(0, .ref x0), (1, .long x1), (3, .int x3), (4, .ref x4), (5, .int x5)] [] mm A dm := by
  induction n with
  | zero =>
    intro x0 x1 x3 x4 x5 A dm hf
    rw [bX8_surplus_l25] at hf
    cases hf
  | succ n ih =>
    intro x0 x1 x3 x4 x5 A dm hf
    rw [bX8_surplus_l25] at hf
    refine w_iload B 15 rfl 4 rfl ?_
    refine w_aload_n B 16 rfl 0 0 rfl rfl ?_
    obtain ⟨hk, hf⟩ := gkd_e hf
    obtain ⟨q14, ex, hf⟩ := gtr_e hf
    refine w_getr B 17 rfl 8 8 x0 (by decide) hk rfl (iX8_surplus _ (List.mem_of_getElem? (i := 12) rfl)) (Or.inl rfl) ex ?_
    refine w_iload_n B 18 rfl 3 2 rfl rfl ?_
    obtain ⟨hk, hf⟩ := gkd_e hf
    obtain ⟨hx, hf⟩ := gix_e hf
    obtain ⟨v15, ex, hf⟩ := gti_e hf
    refine w_iald B 19 rfl hk hx ex ?_
    by_cases hc : x5 < v15
    · replace hf := (if_pos hc).symm.trans hf
      refine w_icmp_ge_f B 20 rfl 51 (by decide) hc ?_
      refine w_lload_n B 21 rfl 1 1 rfl rfl ?_
      refine w_aload B 22 rfl 3 rfl ?_
      refine w_iload B 23 rfl 4 rfl ?_
      obtain ⟨hk, hf⟩ := gkd_e hf
      obtain ⟨hx, hf⟩ := gix_e hf
      obtain ⟨v17, ex, hf⟩ := gti_e hf
      refine w_iald B 24 rfl hk hx ex ?_
      refine w_i2l B 25 rfl ?_
      refine w_ladd B 26 rfl ?_
      obtain ⟨v18, ex, hf⟩ := nm_x hf
      refine w_topl ex ?_
      refine w_lstore_n [(1, .long v18), (0, .ref x0), (3, .int x3), (4, .ref x4), (5, .int x5)] B 27 rfl 1 rfl (by decide) rfl ?_
      obtain ⟨v19, ex, hf⟩ := nm_x hf
      refine w_iinc v19 [(5, .int v19), (1, .long v18), (0, .ref x0), (3, .int x3), (4, .ref x4)] B 28 rfl 4 rfl (ex.symm) (by decide) rfl ?_
      refine w_goto B 29 rfl 25 (by decide) ?_
      refine w_sub [(0, .ref x0), (1, .long v18), (3, .int x3), (4, .ref x4), (5, .int v19)] [2, 1, 3, 4, 0] rfl ?_
      exact ih _ _ _ _ _ _ _ hf
    · replace hf := (if_neg hc).symm.trans hf
      refine w_icmp_ge_t B 20 rfl 51 (by decide) hc ?_
      obtain ⟨v16, ex, hf⟩ := nm_x hf
      refine w_iinc v16 [(3, .int v16), (0, .ref x0), (1, .long x1), (4, .ref x4), (5, .int x5)] B 30 rfl 2 rfl (ex.symm) (by decide) rfl ?_
      refine w_goto B 31 rfl 4 (by decide) ?_
      refine w_sub [(0, .ref x0), (1, .long x1), (3, .int v16)] [1, 2, 0] rfl ?_
      exact hk4 _ _ _ _ _ hf
def bX8_surplus_l4 : Nat → Nat → Int64 → Int32 → AS → DM → Option (Int64 × AS × DM)
  | 0, _, _, _, _, _ => none
  | n + 1, x0, x1, x3, A, dm => gkd A x0 8 (gtr (dm x0 0) (fun q1 => gkd A q1 9 (bd (bAL_size A dm q1) (fun r2 => if x3 < r2 then gkd A x0 8 (bdg (fun (x : Int64 × AS × DM) => x.2.1) A (bX8_worths A dm x0 x3) (fun (x : Nat × AS × DM) => x.2.1) (fun r13 => bX8_surplus_l25 (fun x0 x1 x3 A9 dm9 => bX8_surplus_l4 n x0 x1 x3 A9 dm9) FU x0 x1 x3 r13.1 (0 : Int32) r13.2.1 r13.2.2)) else bX8_surplus_l59 FU x0 x1 (0 : Int32) A dm))))
theorem bX8_surplus_l4_ok {E : Ev2} {l : Launch} {K : KF} {mm : Mem} {x : Int64 × AS × DM} (X : Ec2 E l K rmFX8_surplus rmLX8_surplus) (B : Bx2 E RX8 tbX8_surplus 6 (some .long)) (hQ : Rt2 E) (hr : Rs2 E (some (.long x.1)) mm x.2.1 x.2.2) (n : Nat) : ∀ (x0 : Nat) (x1 : Int64) (x3 : Int32) (A : AS) (dm : DM), bX8_surplus_l4 n x0 x1 x3 A dm = some x → G2 E 6 4 [(0, .ref x0), (1, .long x1), (3, .int x3)] [] mm A dm := by
  induction n with
  | zero =>
    intro x0 x1 x3 A dm hf
    rw [bX8_surplus_l4] at hf
    cases hf
  | succ n ih =>
    intro x0 x1 x3 A dm hf
    rw [bX8_surplus_l4] at hf
    refine w_iload_n B 4 rfl 3 2 rfl rfl ?_
    refine w_aload_n B 5 rfl 0 0 rfl rfl ?_
    obtain ⟨hk, hf⟩ := gkd_e hf
    obtain ⟨q1, ex, hf⟩ := gtr_e hf
    refine w_getr B 6 rfl 8 0 x0 (by decide) hk rfl (iX8_surplus _ (List.mem_of_getElem? (i := 0) rfl)) (Or.inl rfl) ex ?_
    obtain ⟨hk, hf⟩ := gkd_e hf
    obtain ⟨r2, ec, hf⟩ := bd_e hf
    refine w_callV q1 [] [.int x3] [.int r2, .int x3] X B 7 rfl miAL_size 9 (by decide) hk rfl rfl ⟨(iX8_surplus _ (List.mem_of_getElem? (i := 1) rfl)), (iX8_surplus _ (List.mem_of_getElem? (i := 2) rfl)), (iX8_surplus _ (List.mem_of_getElem? (i := 3) rfl))⟩ (ctAL_size ec) (Or.inl ⟨rfl, rfl⟩) ⟨Nat.le_of_ble_eq_true rfl, Nat.le_of_ble_eq_true rfl⟩ rfl rfl (Nat.le_of_ble_eq_true rfl) rfl ?_
    by_cases hc : x3 < r2
    · replace hf := (if_pos hc).symm.trans hf
      refine w_icmp_ge_f B 8 rfl 57 (by decide) hc ?_
      refine w_aload_n B 9 rfl 0 0 rfl rfl ?_
      refine w_iload_n B 10 rfl 3 2 rfl rfl ?_
      obtain ⟨hk, hf⟩ := gkd_e hf
      obtain ⟨r13, ec, hgd, hf⟩ := bdg_e hf
      refine w_callV x0 [.int x3] [] [.ref r13.1] X B 11 rfl miX8_worths 8 (by decide) hk rfl rfl ⟨(iX8_surplus _ (List.mem_of_getElem? (i := 9) rfl)), (iX8_surplus _ (List.mem_of_getElem? (i := 10) rfl)), (iX8_surplus _ (List.mem_of_getElem? (i := 11) rfl))⟩ (ctX8_worths ec) (Or.inr ⟨_, _, _, _, hr, hgd⟩) ⟨Nat.le_of_ble_eq_true rfl, Nat.le_of_ble_eq_true rfl⟩ rfl rfl (Nat.le_of_ble_eq_true rfl) rfl ?_
      refine w_astore [(4, .ref r13.1), (0, .ref x0), (1, .long x1), (3, .int x3)] B 12 rfl (by decide) rfl ?_
      refine w_iconst 0 B 13 rfl (by decide) ?_
      refine w_istore [(5, .int (0 : Int32)), (4, .ref r13.1), (0, .ref x0), (1, .long x1), (3, .int x3)] B 14 rfl (by decide) rfl ?_
      refine w_sub [(0, .ref x0), (1, .long x1), (3, .int x3), (4, .ref r13.1), (5, .int (0 : Int32))] [2, 3, 4, 1, 0] rfl ?_
      exact bX8_surplus_l25_ok X B hQ hr ih FU _ _ _ _ _ _ _ hf
    · replace hf := (if_neg hc).symm.trans hf
      refine w_icmp_ge_t B 8 rfl 57 (by decide) hc ?_
      refine w_iconst 0 B 32 rfl (by decide) ?_
      refine w_istore_n [(3, .int (0 : Int32)), (0, .ref x0), (1, .long x1)] B 33 rfl 3 rfl (by decide) rfl ?_
      refine w_sub [(0, .ref x0), (1, .long x1), (3, .int (0 : Int32))] [1, 2, 0] rfl ?_
      exact bX8_surplus_l59_ok X B hQ hr FU _ _ _ _ _ hf
def bX8_surplus (A : AS) (dm : DM) (a0 : Nat) : Option (Int64 × AS × DM) := bX8_surplus_l4 FU a0 (0 : Int64) (0 : Int32) A dm
theorem ctX8_surplus {l : Launch} {K : KF} {mm : Mem} {A : AS} {dm : DM} {a0 : Nat} {x : Int64 × AS × DM} (hf : bX8_surplus A dm a0 = some x) : Ct2 l K yX8_surplus cX8_surplus 6 (some .long) 4 100 [.ref a0] mm A dm (some (.long x.1)) mm x.2.1 x.2.2 := by
  refine Ct2.of (tb := tbX8_surplus) miX8_surplus.2.1 miX8_surplus.1 dtX8_surplus (Nat.le_of_ble_eq_true rfl) ?_
  intro E B hQ hr X hI hcd
  clear hI
  clear hcd
  unfold bX8_surplus at hf
  show G2 E 6 0 [(0, .ref a0)] [] mm A dm
  refine w_lconst 0 B 0 rfl (by decide) ?_
  refine w_lstore_n [(1, .long (0 : Int64)), (0, .ref a0)] B 1 rfl 1 rfl (by decide) rfl ?_
  refine w_iconst 0 B 2 rfl (by decide) ?_
  refine w_istore_n [(3, .int (0 : Int32)), (1, .long (0 : Int64)), (0, .ref a0)] B 3 rfl 3 rfl (by decide) rfl ?_
  refine w_sub [(0, .ref a0), (1, .long (0 : Int64)), (3, .int (0 : Int32))] [2, 1, 0] rfl ?_
  exact bX8_surplus_l4_ok X B hQ hr FU _ _ _ _ _ hf
