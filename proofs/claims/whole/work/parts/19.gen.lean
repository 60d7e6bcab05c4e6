/-! ZoneCapacityModel.ends()Z -/
def tbX7_ends : Tb := [(0, .aload_n 0, 1, 1), (1, .invokevirtual 190, 3, 4), (4, .bipush 59, 2, 6), (6, .if_icmp .eq 13, 3, 9), (9, .aload_n 0, 1, 10), (10, .iconst 1, 1, 11), (11, .aload_n 0, 1, 12), (12, .getfield 184, 3, 15), (15, .invokevirtual 198, 3, 18), (18, .ireturn, 1, 19), (19, .aload_n 0, 1, 20), (20, .dup, 1, 21), (21, .getfield 184, 3, 24), (24, .iconst 1, 1, 25), (25, .iadd, 1, 26), (26, .putfield 184, 3, 29), (29, .iconst 1, 1, 30), (30, .ireturn, 1, 31)]
theorem dtX7_ends : ∀ q ∈ tbX7_ends, decode cX7_ends q.1 = .ok (q.2.1, q.2.2.1) ∧ q.1 + q.2.2.1 = q.2.2.2 := by decide +kernel
theorem miX7_ends : MI yX7_ends cX7_ends 1 (some .boolean) 0 := ⟨tw_mem (List.mem_of_getElem? (i := 1324) (by decide +kernel)) rfl, by decide, by decide +kernel, tw_mem (List.mem_of_getElem? (i := 78) (by decide +kernel)) rfl⟩
abbrev rmX7_ends : Room := { frames := 1, cells := 0, slots := 0, locals := 22 }
def wX7_ends : List Cond := [.methodLink "ZoneCapacityModel" 190 yX7_here, .instanceMethod yX7_here, .selects "ZoneCapacityModel" yX7_here yX7_here, .fieldLink "ZoneCapacityModel" 184 "ZoneCapacityModel" "at" "I", .methodLink "ZoneCapacityModel" 198 yX7_fails, .instanceMethod yX7_fails, .selects "ZoneCapacityModel" yX7_fails yX7_fails]
theorem iX7_ends : ∀ w ∈ wX7_ends, w ∈ TW := tw_of (ids := [1285, 1287, 57, 955, 1297, 1299, 60]) (by decide +kernel)
def f7_ends (mm : Mem) : Option (Int32 × Mem) := bd (f7_here mm) (fun r1 => if r1.1 = (59 : Int32) then nm (up2 r1.2 0 17 ((r1.2 0 17) + (1 : Int32))) (fun m2 => some ((1 : Int32), m2)) else bd (f7_fails r1.2 (1 : Int32) (r1.2 0 17)) (fun r3 => bok r3.1 (some (r3.1, r3.2))))
theorem ctX7_ends {l : Launch} {C : Cfg} (hj : Dj C) {mm : Mem} {x : (Int32 × Mem)} (hf : f7_ends mm = some x) : Ct l C yX7_ends cX7_ends 1 (some .boolean) 1 22 [.ref 0] mm (some (.int x.1)) x.2 := by
  refine Ct.of (tb := tbX7_ends) hj miX7_ends.2.1 miX7_ends.1 dtX7_ends (Nat.le_of_ble_eq_true rfl) ?_
  intro E B hQ hr X
  unfold f7_ends at hf
  show G E 1 0 [(0, .ref 0)] [] mm
  refine z_aload_n B 0 rfl 0 0 rfl rfl ?_
  obtain ⟨r1, ec, hf⟩ := bd_e hf
  refine z_callV 0 7 [] [] [.int r1.1] X B 1 rfl ob_0 rfl rfl miX7_here ⟨(iX7_ends _ (List.mem_of_getElem? (i := 0) rfl)), (iX7_ends _ (List.mem_of_getElem? (i := 1) rfl)), (iX7_ends _ (List.mem_of_getElem? (i := 2) rfl))⟩ (ctX7_here hj ec) ⟨Nat.le_of_ble_eq_true rfl, Nat.le_of_ble_eq_true rfl⟩ rfl rfl (Nat.le_of_ble_eq_true rfl) rfl ?_
  refine z_bipush 59 B 2 rfl (by decide) ?_
  by_cases hc : r1.1 = (59 : Int32)
  · replace hf := (if_pos hc).symm.trans hf
    refine z_icmp_eq_t B 3 rfl 19 (by decide) hc ?_
    refine z_aload_n B 10 rfl 0 0 rfl rfl ?_
    refine z_dup B 11 rfl rfl ?_
    refine z_geti 7 17 0 B 12 rfl ob_0 rfl (iX7_ends _ (List.mem_of_getElem? (i := 3) rfl)) rfl ?_
    refine z_iconst 1 B 13 rfl (by decide) ?_
    refine z_iadd B 14 rfl ?_
    refine z_puti 7 17 0 B 15 rfl ob_0 rfl (iX7_ends _ (List.mem_of_getElem? (i := 3) rfl)) rfl (ty := .int) (by decide) rfl rfl rfl ?_
    obtain ⟨m2, ex, hf⟩ := nm_x hf
    refine z_mem ex ?_
    refine z_iconst 1 B 16 rfl (by decide) ?_
    cases hf
    exact z_iret B 17 rfl (by decide) hQ hr
  · replace hf := (if_neg hc).symm.trans hf
    refine z_icmp_eq_f B 3 rfl 19 (by decide) hc ?_
    refine z_aload_n B 4 rfl 0 0 rfl rfl ?_
    refine z_iconst 1 B 5 rfl (by decide) ?_
    refine z_aload_n B 6 rfl 0 0 rfl rfl ?_
    refine z_geti 7 17 0 B 7 rfl ob_0 rfl (iX7_ends _ (List.mem_of_getElem? (i := 3) rfl)) rfl ?_
    obtain ⟨r3, ec, hf⟩ := bd_e hf
    refine z_callV 0 7 [.int (1 : Int32), .int (r1.2 0 17)] [] [.int r3.1] X B 8 rfl ob_0 rfl rfl miX7_fails ⟨(iX7_ends _ (List.mem_of_getElem? (i := 4) rfl)), (iX7_ends _ (List.mem_of_getElem? (i := 5) rfl)), (iX7_ends _ (List.mem_of_getElem? (i := 6) rfl))⟩ (ctX7_fails hj ec) ⟨Nat.le_of_ble_eq_true rfl, Nat.le_of_ble_eq_true rfl⟩ rfl rfl (Nat.le_of_ble_eq_true rfl) rfl ?_
    obtain ⟨hb, hf⟩ := bok_e hf
    cases hf
    exact z_iret B 9 rfl (bok_n hb) hQ hr
/-! ZoneCapacityModel.isWord()Z -/
def tbX7_isWord : Tb := [(0, .aload_n 0, 1, 1), (1, .invokevirtual 190, 3, 4), (4, .bipush 97, 2, 6), (6, .bipush 122, 2, 8), (8, .invokestatic 54, 3, 11), (11, .ireturn, 1, 12)]
theorem dtX7_isWord : ∀ q ∈ tbX7_isWord, decode cX7_isWord q.1 = .ok (q.2.1, q.2.2.1) ∧ q.1 + q.2.2.1 = q.2.2.2 := by decide +kernel
theorem miX7_isWord : MI yX7_isWord cX7_isWord 1 (some .boolean) 0 := ⟨tw_mem (List.mem_of_getElem? (i := 1296) (by decide +kernel)) rfl, by decide, by decide +kernel, tw_mem (List.mem_of_getElem? (i := 78) (by decide +kernel)) rfl⟩
abbrev rmX7_isWord : Room := { frames := 1, cells := 0, slots := 0, locals := 22 }
def wX7_isWord : List Cond := [.methodLink "ZoneCapacityModel" 190 yX7_here, .instanceMethod yX7_here, .selects "ZoneCapacityModel" yX7_here yX7_here, .methodLink "ZoneCapacityModel" 54 yX7_in, .static yX7_in]
theorem iX7_isWord : ∀ w ∈ wX7_isWord, w ∈ TW := tw_of (ids := [1285, 1287, 57, 1021, 1022]) (by decide +kernel)
def f7_isWord (mm : Mem) : Option (Int32 × Mem) := bd (f7_here mm) (fun r1 => bd (f7_in r1.2 r1.1 (97 : Int32) (122 : Int32)) (fun r2 => bok r2 (some (r2, r1.2))))
theorem ctX7_isWord {l : Launch} {C : Cfg} (hj : Dj C) {mm : Mem} {x : (Int32 × Mem)} (hf : f7_isWord mm = some x) : Ct l C yX7_isWord cX7_isWord 1 (some .boolean) 1 22 [.ref 0] mm (some (.int x.1)) x.2 := by
  refine Ct.of (tb := tbX7_isWord) hj miX7_isWord.2.1 miX7_isWord.1 dtX7_isWord (Nat.le_of_ble_eq_true rfl) ?_
  intro E B hQ hr X
  unfold f7_isWord at hf
  show G E 1 0 [(0, .ref 0)] [] mm
  refine z_aload_n B 0 rfl 0 0 rfl rfl ?_
  obtain ⟨r1, ec, hf⟩ := bd_e hf
  refine z_callV 0 7 [] [] [.int r1.1] X B 1 rfl ob_0 rfl rfl miX7_here ⟨(iX7_isWord _ (List.mem_of_getElem? (i := 0) rfl)), (iX7_isWord _ (List.mem_of_getElem? (i := 1) rfl)), (iX7_isWord _ (List.mem_of_getElem? (i := 2) rfl))⟩ (ctX7_here hj ec) ⟨Nat.le_of_ble_eq_true rfl, Nat.le_of_ble_eq_true rfl⟩ rfl rfl (Nat.le_of_ble_eq_true rfl) rfl ?_
  refine z_bipush 97 B 2 rfl (by decide) ?_
  refine z_bipush 122 B 3 rfl (by decide) ?_
  obtain ⟨r2, ec, hf⟩ := bd_e hf
  refine z_callS [.int r1.1, .int (97 : Int32), .int (122 : Int32)] [] [.int r2] X B 4 rfl miX7_in ⟨(iX7_isWord _ (List.mem_of_getElem? (i := 3) rfl)), (iX7_isWord _ (List.mem_of_getElem? (i := 4) rfl))⟩ (ctX7_in hj ec) ⟨Nat.le_of_ble_eq_true rfl, Nat.le_of_ble_eq_true rfl⟩ rfl rfl (Nat.le_of_ble_eq_true rfl) rfl ?_
  obtain ⟨hb, hf⟩ := bok_e hf
  cases hf
  exact z_iret B 5 rfl (bok_n hb) hQ hr
/-! ZoneCapacityModel.readWord()J -/
def tbX7_readWord : Tb := [(0, .lconst 0, 1, 1), (1, .lstore_n 1, 1, 2), (2, .iconst 0, 1, 3), (3, .istore_n 3, 1, 4), (4, .aload_n 0, 1, 5), (5, .aload_n 0, 1, 6), (6, .getfield 184, 3, 9), (9, .putfield 201, 3, 12), (12, .aload_n 0, 1, 13), (13, .getfield 184, 3, 16), (16, .aload_n 0, 1, 17), (17, .getfield 148, 3, 20), (20, .if_icmp .ge 71, 3, 23), (23, .aload_n 0, 1, 24), (24, .getfield 44, 3, 27), (27, .aload_n 0, 1, 28), (28, .getfield 184, 3, 31), (31, .iaload, 1, 32), (32, .bipush 97, 2, 34), (34, .bipush 122, 2, 36), (36, .invokestatic 54, 3, 39), (39, .ifCond .eq 52, 3, 42), (42, .iload_n 3, 1, 43), (43, .bipush 8, 2, 45), (45, .if_icmp .ge 26, 3, 48), (48, .lload_n 1, 1, 49), (49, .ldc2_w 207, 3, 52), (52, .lmul, 1, 53), (53, .aload_n 0, 1, 54), (54, .getfield 44, 3, 57), (57, .aload_n 0, 1, 58), (58, .getfield 184, 3, 61), (61, .iaload, 1, 62), (62, .i2l, 1, 63), (63, .ladd, 1, 64), (64, .ldc2_w 209, 3, 67), (67, .lsub, 1, 68), (68, .goto 6, 3, 71), (71, .ldc2_w 211, 3, 74), (74, .lstore_n 1, 1, 75), (75, .iinc 3 1, 3, 78), (78, .aload_n 0, 1, 79), (79, .dup, 1, 80), (80, .getfield 184, 3, 83), (83, .iconst 1, 1, 84), (84, .iadd, 1, 85), (85, .putfield 184, 3, 88), (88, .goto (-76), 3, 91), (91, .lload_n 1, 1, 92), (92, .lreturn, 1, 93)]
theorem dtX7_readWord : ∀ q ∈ tbX7_readWord, decode cX7_readWord q.1 = .ok (q.2.1, q.2.2.1) ∧ q.1 + q.2.2.1 = q.2.2.2 := by decide +kernel
theorem miX7_readWord : MI yX7_readWord cX7_readWord 4 (some .long) 0 := ⟨tw_mem (List.mem_of_getElem? (i := 1304) (by decide +kernel)) rfl, by decide, by decide +kernel, tw_mem (List.mem_of_getElem? (i := 78) (by decide +kernel)) rfl⟩
abbrev rmX7_readWord : Room := { frames := 1, cells := 0, slots := 0, locals := 22 }
def wX7_readWord : List Cond := [.fieldLink "ZoneCapacityModel" 184 "ZoneCapacityModel" "at" "I", .fieldLink "ZoneCapacityModel" 201 "ZoneCapacityModel" "place" "I", .fieldLink "ZoneCapacityModel" 148 "ZoneCapacityModel" "taped" "I", .fieldLink "ZoneCapacityModel" 44 "ZoneCapacityModel" "tape" "[I", .methodLink "ZoneCapacityModel" 54 yX7_in, .static yX7_in, .constantLong "ZoneCapacityModel" 211 (-1), .constantLong "ZoneCapacityModel" 207 (27), .constantLong "ZoneCapacityModel" 209 (96)]
theorem iX7_readWord : ∀ w ∈ wX7_readWord, w ∈ TW := tw_of (ids := [955, 958, 953, 952, 1021, 1022, 1307, 1305, 1306]) (by decide +kernel)
def f7_readWord_j74 (k12 : Int64 → Int32 → Mem → Option (Int64 × Mem)) (x3 : Int32) (s0 : Int64) (mm : Mem) : Option (Int64 × Mem) := nm (x3 + 1) (fun v4 => nm (up2 mm 0 17 ((mm 0 17) + (1 : Int32))) (fun m5 => k12 s0 v4 m5))
theorem f7_readWord_j74_ok {E : Ev} {l : Launch} {C : Cfg} {x : (Int64 × Mem)} {k12 : Int64 → Int32 → Mem → Option (Int64 × Mem)} (hj : Dj C) (X : Ec E l C rmX7_readWord) (B : Bx E RX7 tbX7_readWord 4 (some .long)) (hQ : Rt E) (hr : Rs E (some (.long x.1)) x.2) (hk12 : ∀ (x1 : Int64) (x3 : Int32) (mm : Mem), k12 x1 x3 mm = some x → G E 4 12 [(0, .ref 0), (1, .long x1), (3, .int x3)] [] mm) (x3 : Int32) (s0 : Int64) (mm : Mem) (hf : f7_readWord_j74 k12 x3 s0 mm = some x) : G E 4 74 [(0, .ref 0), (3, .int x3)] [.long s0] mm := by
  unfold f7_readWord_j74 at hf
  refine z_lstore_n [(1, .long s0), (0, .ref 0), (3, .int x3)] B 39 rfl 1 rfl (by decide) rfl ?_
  obtain ⟨v4, ex, hf⟩ := nm_x hf
  refine z_iinc v4 [(3, .int v4), (1, .long s0), (0, .ref 0)] B 40 rfl 2 rfl (ex.symm) (by decide) rfl ?_
  refine z_aload_n B 41 rfl 0 2 rfl rfl ?_
  refine z_dup B 42 rfl rfl ?_
  refine z_geti 7 17 0 B 43 rfl ob_0 rfl (iX7_readWord _ (List.mem_of_getElem? (i := 0) rfl)) rfl ?_
  refine z_iconst 1 B 44 rfl (by decide) ?_
  refine z_iadd B 45 rfl ?_
  refine z_puti 7 17 0 B 46 rfl ob_0 rfl (iX7_readWord _ (List.mem_of_getElem? (i := 0) rfl)) rfl (ty := .int) (by decide) rfl rfl rfl ?_
  obtain ⟨m5, ex, hf⟩ := nm_x hf
  refine z_mem ex ?_
  refine z_goto B 47 rfl 12 (by decide) ?_
  refine z_sub [(0, .ref 0), (1, .long s0), (3, .int v4)] [2, 1, 0] rfl ?_
  exact hk12 _ _ _ hf
def f7_readWord_l12 : Nat → Int64 → Int32 → Mem → Option (Int64 × Mem)
  | 0, _, _, _ => none
  | n + 1, x1, x3, mm => if (mm 0 17) < (mm 0 15) then rdc 12 (mm 0 17) (nm (mm 12 (mm 0 17).toNatClampNeg) (fun v2 => bd (f7_in mm v2 (97 : Int32) (122 : Int32)) (fun r3 => if r3 = 0 then some (x1, mm) else if x3 < (8 : Int32) then rdc 12 (mm 0 17) (nm (mm 12 (mm 0 17).toNatClampNeg) (fun v6 => f7_readWord_j74 (fun x1 x3 mm => f7_readWord_l12 n x1 x3 mm) x3 (((x1 * (27 : Int64)) + v6.toInt64) - (96 : Int64)) mm)) else f7_readWord_j74 (fun x1 x3 mm => f7_readWord_l12 n x1 x3 mm) x3 (-1 : Int64) mm))) else some (x1, mm)
theorem f7_readWord_l12_ok {E : Ev} {l : Launch} {C : Cfg} {x : (Int64 × Mem)} (hj : Dj C) (X : Ec E l C rmX7_readWord) (B : Bx E RX7 tbX7_readWord 4 (some .long)) (hQ : Rt E) (hr : Rs E (some (.long x.1)) x.2) (n : Nat) : ∀ (x1 : Int64) (x3 : Int32) (mm : Mem), f7_readWord_l12 n x1 x3 mm = some x → G E 4 12 [(0, .ref 0), (1, .long x1), (3, .int x3)] [] mm := by
  induction n with
  | zero =>
    intro x1 x3 mm hf
    rw [f7_readWord_l12] at hf
    cases hf
  | succ n ih =>
    intro x1 x3 mm hf
    rw [f7_readWord_l12] at hf
    refine z_aload_n B 8 rfl 0 0 rfl rfl ?_
    refine z_geti 7 17 0 B 9 rfl ob_0 rfl (iX7_readWord _ (List.mem_of_getElem? (i := 0) rfl)) rfl ?_
    refine z_aload_n B 10 rfl 0 0 rfl rfl ?_
    refine z_geti 7 15 0 B 11 rfl ob_0 rfl (iX7_readWord _ (List.mem_of_getElem? (i := 2) rfl)) rfl ?_
    by_cases hc : (mm 0 17) < (mm 0 15)
    · replace hf := (if_pos hc).symm.trans hf
      refine z_icmp_ge_f B 12 rfl 91 (by decide) hc ?_
      refine z_aload_n B 13 rfl 0 0 rfl rfl ?_
      refine z_getr 7 14 0 B 14 rfl ob_0 rfl (iX7_readWord _ (List.mem_of_getElem? (i := 3) rfl)) rfl ?_
      refine z_aload_n B 15 rfl 0 0 rfl rfl ?_
      refine z_geti 7 17 0 B 16 rfl ob_0 rfl (iX7_readWord _ (List.mem_of_getElem? (i := 0) rfl)) rfl ?_
      obtain ⟨hx, hf⟩ := rdc_e hf
      refine z_iald B 17 rfl ob_12 hx ?_
      obtain ⟨v2, ex, hf⟩ := nm_x hf
      refine z_top ex ?_
      refine z_bipush 97 B 18 rfl (by decide) ?_
      refine z_bipush 122 B 19 rfl (by decide) ?_
      obtain ⟨r3, ec, hf⟩ := bd_e hf
      refine z_callS [.int v2, .int (97 : Int32), .int (122 : Int32)] [] [.int r3] X B 20 rfl miX7_in ⟨(iX7_readWord _ (List.mem_of_getElem? (i := 4) rfl)), (iX7_readWord _ (List.mem_of_getElem? (i := 5) rfl))⟩ (ctX7_in hj ec) ⟨Nat.le_of_ble_eq_true rfl, Nat.le_of_ble_eq_true rfl⟩ rfl rfl (Nat.le_of_ble_eq_true rfl) rfl ?_
      by_cases hc : r3 = 0
      · replace hf := (if_pos hc).symm.trans hf
        refine z_if_eq_t B 21 rfl 91 (by decide) hc ?_
        refine z_lload_n B 48 rfl 1 1 rfl rfl ?_
        cases hf
        exact z_lret B 49 rfl hQ hr
      · replace hf := (if_neg hc).symm.trans hf
        refine z_if_eq_f B 21 rfl 91 (by decide) hc ?_
        refine z_iload_n B 22 rfl 3 2 rfl rfl ?_
        refine z_bipush 8 B 23 rfl (by decide) ?_
        by_cases hc : x3 < (8 : Int32)
        · replace hf := (if_pos hc).symm.trans hf
          refine z_icmp_ge_f B 24 rfl 71 (by decide) hc ?_
          refine z_lload_n B 25 rfl 1 1 rfl rfl ?_
          refine z_ldc2 27 B 26 rfl (iX7_readWord _ (List.mem_of_getElem? (i := 7) rfl)) ?_
          refine z_lmul B 27 rfl ?_
          refine z_aload_n B 28 rfl 0 0 rfl rfl ?_
          refine z_getr 7 14 0 B 29 rfl ob_0 rfl (iX7_readWord _ (List.mem_of_getElem? (i := 3) rfl)) rfl ?_
          refine z_aload_n B 30 rfl 0 0 rfl rfl ?_
          refine z_geti 7 17 0 B 31 rfl ob_0 rfl (iX7_readWord _ (List.mem_of_getElem? (i := 0) rfl)) rfl ?_
          obtain ⟨hx, hf⟩ := rdc_e hf
          refine z_iald B 32 rfl ob_12 hx ?_
          obtain ⟨v6, ex, hf⟩ := nm_x hf
          refine z_top ex ?_
          refine z_i2l B 33 rfl ?_
          refine z_ladd B 34 rfl ?_
          refine z_ldc2 96 B 35 rfl (iX7_readWord _ (List.mem_of_getElem? (i := 8) rfl)) ?_
          refine z_lsub B 36 rfl ?_
          refine z_goto B 37 rfl 74 (by decide) ?_
          refine z_sub [(0, .ref 0), (3, .int x3)] [0, 2] rfl ?_
          exact f7_readWord_j74_ok hj X B hQ hr ih _ _ _ hf
        · replace hf := (if_neg hc).symm.trans hf
          refine z_icmp_ge_t B 24 rfl 71 (by decide) hc ?_
          refine z_ldc2 (-1) B 38 rfl (iX7_readWord _ (List.mem_of_getElem? (i := 6) rfl)) ?_
          refine z_sub [(0, .ref 0), (3, .int x3)] [0, 2] rfl ?_
          exact f7_readWord_j74_ok hj X B hQ hr ih _ _ _ hf
    · replace hf := (if_neg hc).symm.trans hf
      refine z_icmp_ge_t B 12 rfl 91 (by decide) hc ?_
      refine z_lload_n B 48 rfl 1 1 rfl rfl ?_
      cases hf
      exact z_lret B 49 rfl hQ hr
def f7_readWord (mm : Mem) : Option (Int64 × Mem) := nm (up2 mm 0 20 (mm 0 17)) (fun m1 => f7_readWord_l12 FU (0 : Int64) (0 : Int32) m1)
theorem ctX7_readWord {l : Launch} {C : Cfg} (hj : Dj C) {mm : Mem} {x : (Int64 × Mem)} (hf : f7_readWord mm = some x) : Ct l C yX7_readWord cX7_readWord 4 (some .long) 1 22 [.ref 0] mm (some (.long x.1)) x.2 := by
  refine Ct.of (tb := tbX7_readWord) hj miX7_readWord.2.1 miX7_readWord.1 dtX7_readWord (Nat.le_of_ble_eq_true rfl) ?_
  intro E B hQ hr X
  unfold f7_readWord at hf
  show G E 4 0 [(0, .ref 0)] [] mm
  refine z_lconst 0 B 0 rfl (by decide) ?_
  refine z_lstore_n [(1, .long (0 : Int64)), (0, .ref 0)] B 1 rfl 1 rfl (by decide) rfl ?_
  refine z_iconst 0 B 2 rfl (by decide) ?_
  refine z_istore_n [(3, .int (0 : Int32)), (1, .long (0 : Int64)), (0, .ref 0)] B 3 rfl 3 rfl (by decide) rfl ?_
  refine z_aload_n B 4 rfl 0 2 rfl rfl ?_
  refine z_aload_n B 5 rfl 0 2 rfl rfl ?_
  refine z_geti 7 17 0 B 6 rfl ob_0 rfl (iX7_readWord _ (List.mem_of_getElem? (i := 0) rfl)) rfl ?_
  refine z_puti 7 20 0 B 7 rfl ob_0 rfl (iX7_readWord _ (List.mem_of_getElem? (i := 1) rfl)) rfl (ty := .int) (by decide) rfl rfl rfl ?_
  obtain ⟨m1, ex, hf⟩ := nm_x hf
  refine z_mem ex ?_
  refine z_sub [(0, .ref 0), (1, .long (0 : Int64)), (3, .int (0 : Int32))] [2, 1, 0] rfl ?_
  exact f7_readWord_l12_ok hj X B hQ hr FU _ _ _ hf
/-! ZoneCapacityModel.readZone(I)Z -/
def tbX7_readZone : Tb := [(0, .aload_n 0, 1, 1), (1, .getfield 7, 3, 4), (4, .iconst 0, 1, 5), (5, .iaload, 1, 6), (6, .bipush 6, 2, 8), (8, .if_icmp .ne 10, 3, 11), (11, .aload_n 0, 1, 12), (12, .iconst 3, 1, 13), (13, .iload_n 1, 1, 14), (14, .invokevirtual 198, 3, 17), (17, .ireturn, 1, 18), (18, .aload_n 0, 1, 19), (19, .iconst 0, 1, 20), (20, .iconst 0, 1, 21), (21, .aload_n 0, 1, 22), (22, .getfield 7, 3, 25), (25, .iconst 0, 1, 26), (26, .iaload, 1, 27), (27, .iconst 1, 1, 28), (28, .isub, 1, 29), (29, .invokevirtual 213, 3, 32), (32, .ifCond .eq 64, 3, 35), (35, .aload_n 0, 1, 36), (36, .iconst 1, 1, 37), (37, .iconst 0, 1, 38), (38, .sipush 9999, 3, 41), (41, .invokevirtual 213, 3, 44), (44, .ifCond .eq 52, 3, 47), (47, .aload_n 0, 1, 48), (48, .iconst 2, 1, 49), (49, .iconst 0, 1, 50), (50, .sipush 9999, 3, 53), (53, .invokevirtual 213, 3, 56), (56, .ifCond .eq 40, 3, 59), (59, .aload_n 0, 1, 60), (60, .invokevirtual 216, 3, 63), (63, .ifCond .eq 33, 3, 66), (66, .aload_n 0, 1, 67), (67, .aload_n 0, 1, 68), (68, .getfield 47, 3, 71), (71, .iconst 0, 1, 72), (72, .iaload, 1, 73), (73, .aload_n 0, 1, 74), (74, .getfield 47, 3, 77), (77, .iconst 1, 1, 78), (78, .iaload, 1, 79), (79, .aload_n 0, 1, 80), (80, .getfield 47, 3, 83), (83, .iconst 2, 1, 84), (84, .iaload, 1, 85), (85, .invokevirtual 219, 3, 88), (88, .iconst (-1), 1, 89), (89, .if_icmp .eq 7, 3, 92), (92, .iconst 1, 1, 93), (93, .goto 4, 3, 96), (96, .iconst 0, 1, 97), (97, .ireturn, 1, 98)]
theorem dtX7_readZone : ∀ q ∈ tbX7_readZone, decode cX7_readZone q.1 = .ok (q.2.1, q.2.2.1) ∧ q.1 + q.2.2.1 = q.2.2.2 := by decide +kernel
theorem miX7_readZone : MI yX7_readZone cX7_readZone 2 (some .boolean) 1 := ⟨tw_mem (List.mem_of_getElem? (i := 1312) (by decide +kernel)) rfl, by decide, by decide +kernel, tw_mem (List.mem_of_getElem? (i := 78) (by decide +kernel)) rfl⟩
abbrev rmX7_readZone : Room := { frames := 3, cells := 0, slots := 0, locals := 67 }
def wX7_readZone : List Cond := [.fieldLink "ZoneCapacityModel" 7 "ZoneCapacityModel" "w" "[I", .methodLink "ZoneCapacityModel" 213 yX7_number, .instanceMethod yX7_number, .selects "ZoneCapacityModel" yX7_number yX7_number, .methodLink "ZoneCapacityModel" 216 yX7_ends, .instanceMethod yX7_ends, .selects "ZoneCapacityModel" yX7_ends yX7_ends, .fieldLink "ZoneCapacityModel" 47 "ZoneCapacityModel" "told" "[I", .methodLink "ZoneCapacityModel" 219 yX7_zone, .instanceMethod yX7_zone, .selects "ZoneCapacityModel" yX7_zone yX7_zone, .methodLink "ZoneCapacityModel" 198 yX7_fails, .instanceMethod yX7_fails, .selects "ZoneCapacityModel" yX7_fails yX7_fails]
theorem iX7_readZone : ∀ w ∈ wX7_readZone, w ∈ TW := tw_of (ids := [939, 1313, 1315, 63, 1321, 1323, 65, 960, 1325, 1014, 1015, 1297, 1299, 60]) (by decide +kernel)
def f7_readZone (mm : Mem) (a1 : Int32) : Option (Int32 × Mem) := rdc 1 (0 : Int32) (nm (mm 1 (0 : Int32).toNatClampNeg) (fun v1 => if v1 = (6 : Int32) then bd (f7_fails mm (3 : Int32) a1) (fun r11 => bok r11.1 (some (r11.1, r11.2))) else rdc 1 (0 : Int32) (nm (mm 1 (0 : Int32).toNatClampNeg) (fun v2 => bd (f7_number mm (0 : Int32) (0 : Int32) (v2 - (1 : Int32))) (fun r3 => if r3.1 = 0 then some ((0 : Int32), r3.2) else bd (f7_number r3.2 (1 : Int32) (0 : Int32) (9999 : Int32)) (fun r4 => if r4.1 = 0 then some ((0 : Int32), r4.2) else bd (f7_number r4.2 (2 : Int32) (0 : Int32) (9999 : Int32)) (fun r5 => if r5.1 = 0 then some ((0 : Int32), r5.2) else bd (f7_ends r5.2) (fun r6 => if r6.1 = 0 then some ((0 : Int32), r6.2) else rdc 13 (0 : Int32) (nm (r6.2 13 (0 : Int32).toNatClampNeg) (fun v7 => rdc 13 (1 : Int32) (nm (r6.2 13 (1 : Int32).toNatClampNeg) (fun v8 => rdc 13 (2 : Int32) (nm (r6.2 13 (2 : Int32).toNatClampNeg) (fun v9 => bd (f7_zone r6.2 v7 v8 v9) (fun r10 => if r10.1 = (-1 : Int32) then some ((0 : Int32), r10.2) else some ((1 : Int32), r10.2))))))))))))))))
theorem ctX7_readZone {l : Launch} {C : Cfg} (hj : Dj C) {mm : Mem} {a1 : Int32} {x : (Int32 × Mem)} (hf : f7_readZone mm a1 = some x) : Ct l C yX7_readZone cX7_readZone 2 (some .boolean) 3 67 [.ref 0, .int a1] mm (some (.int x.1)) x.2 := by
  refine Ct.of (tb := tbX7_readZone) hj miX7_readZone.2.1 miX7_readZone.1 dtX7_readZone (Nat.le_of_ble_eq_true rfl) ?_
  intro E B hQ hr X
  unfold f7_readZone at hf
  show G E 2 0 [(0, .ref 0), (1, .int a1)] [] mm
  refine z_aload_n B 0 rfl 0 0 rfl rfl ?_
  refine z_getr 7 1 0 B 1 rfl ob_0 rfl (iX7_readZone _ (List.mem_of_getElem? (i := 0) rfl)) rfl ?_
  refine z_iconst 0 B 2 rfl (by decide) ?_
  obtain ⟨hx, hf⟩ := rdc_e hf
  refine z_iald B 3 rfl ob_1 hx ?_
  obtain ⟨v1, ex, hf⟩ := nm_x hf
  refine z_top ex ?_
  refine z_bipush 6 B 4 rfl (by decide) ?_
  by_cases hc : v1 = (6 : Int32)
  · replace hf := (if_pos hc).symm.trans hf
    refine z_icmp_ne_f B 5 rfl 18 (by decide) hc ?_
    refine z_aload_n B 6 rfl 0 0 rfl rfl ?_
    refine z_iconst 3 B 7 rfl (by decide) ?_
    refine z_iload_n B 8 rfl 1 1 rfl rfl ?_
    obtain ⟨r11, ec, hf⟩ := bd_e hf
    refine z_callV 0 7 [.int (3 : Int32), .int a1] [] [.int r11.1] X B 9 rfl ob_0 rfl rfl miX7_fails ⟨(iX7_readZone _ (List.mem_of_getElem? (i := 11) rfl)), (iX7_readZone _ (List.mem_of_getElem? (i := 12) rfl)), (iX7_readZone _ (List.mem_of_getElem? (i := 13) rfl))⟩ (ctX7_fails hj ec) ⟨Nat.le_of_ble_eq_true rfl, Nat.le_of_ble_eq_true rfl⟩ rfl rfl (Nat.le_of_ble_eq_true rfl) rfl ?_
    obtain ⟨hb, hf⟩ := bok_e hf
    cases hf
    exact z_iret B 10 rfl (bok_n hb) hQ hr
  · replace hf := (if_neg hc).symm.trans hf
    refine z_icmp_ne_t B 5 rfl 18 (by decide) hc ?_
    refine z_aload_n B 11 rfl 0 0 rfl rfl ?_
    refine z_iconst 0 B 12 rfl (by decide) ?_
    refine z_iconst 0 B 13 rfl (by decide) ?_
    refine z_aload_n B 14 rfl 0 0 rfl rfl ?_
    refine z_getr 7 1 0 B 15 rfl ob_0 rfl (iX7_readZone _ (List.mem_of_getElem? (i := 0) rfl)) rfl ?_
    refine z_iconst 0 B 16 rfl (by decide) ?_
    obtain ⟨hx, hf⟩ := rdc_e hf
    refine z_iald B 17 rfl ob_1 hx ?_
    obtain ⟨v2, ex, hf⟩ := nm_x hf
    refine z_top ex ?_
    refine z_iconst 1 B 18 rfl (by decide) ?_
    refine z_isub B 19 rfl ?_
    obtain ⟨r3, ec, hf⟩ := bd_e hf
    refine z_callV 0 7 [.int (0 : Int32), .int (0 : Int32), .int (v2 - (1 : Int32))] [] [.int r3.1] X B 20 rfl ob_0 rfl rfl miX7_number ⟨(iX7_readZone _ (List.mem_of_getElem? (i := 1) rfl)), (iX7_readZone _ (List.mem_of_getElem? (i := 2) rfl)), (iX7_readZone _ (List.mem_of_getElem? (i := 3) rfl))⟩ (ctX7_number hj ec) ⟨Nat.le_of_ble_eq_true rfl, Nat.le_of_ble_eq_true rfl⟩ rfl rfl (Nat.le_of_ble_eq_true rfl) rfl ?_
    by_cases hc : r3.1 = 0
    · replace hf := (if_pos hc).symm.trans hf
      refine z_if_eq_t B 21 rfl 96 (by decide) hc ?_
      refine z_iconst 0 B 55 rfl (by decide) ?_
      cases hf
      exact z_iret B 56 rfl (by decide) hQ hr
    · replace hf := (if_neg hc).symm.trans hf
      refine z_if_eq_f B 21 rfl 96 (by decide) hc ?_
      refine z_aload_n B 22 rfl 0 0 rfl rfl ?_
      refine z_iconst 1 B 23 rfl (by decide) ?_
      refine z_iconst 0 B 24 rfl (by decide) ?_
      refine z_sipush 9999 B 25 rfl (by decide) ?_
      obtain ⟨r4, ec, hf⟩ := bd_e hf
      refine z_callV 0 7 [.int (1 : Int32), .int (0 : Int32), .int (9999 : Int32)] [] [.int r4.1] X B 26 rfl ob_0 rfl rfl miX7_number ⟨(iX7_readZone _ (List.mem_of_getElem? (i := 1) rfl)), (iX7_readZone _ (List.mem_of_getElem? (i := 2) rfl)), (iX7_readZone _ (List.mem_of_getElem? (i := 3) rfl))⟩ (ctX7_number hj ec) ⟨Nat.le_of_ble_eq_true rfl, Nat.le_of_ble_eq_true rfl⟩ rfl rfl (Nat.le_of_ble_eq_true rfl) rfl ?_
      by_cases hc : r4.1 = 0
      · replace hf := (if_pos hc).symm.trans hf
        refine z_if_eq_t B 27 rfl 96 (by decide) hc ?_
        refine z_iconst 0 B 55 rfl (by decide) ?_
        cases hf
        exact z_iret B 56 rfl (by decide) hQ hr
      · replace hf := (if_neg hc).symm.trans hf
        refine z_if_eq_f B 27 rfl 96 (by decide) hc ?_
        refine z_aload_n B 28 rfl 0 0 rfl rfl ?_
        refine z_iconst 2 B 29 rfl (by decide) ?_
        refine z_iconst 0 B 30 rfl (by decide) ?_
        refine z_sipush 9999 B 31 rfl (by decide) ?_
        obtain ⟨r5, ec, hf⟩ := bd_e hf
        refine z_callV 0 7 [.int (2 : Int32), .int (0 : Int32), .int (9999 : Int32)] [] [.int r5.1] X B 32 rfl ob_0 rfl rfl miX7_number ⟨(iX7_readZone _ (List.mem_of_getElem? (i := 1) rfl)), (iX7_readZone _ (List.mem_of_getElem? (i := 2) rfl)), (iX7_readZone _ (List.mem_of_getElem? (i := 3) rfl))⟩ (ctX7_number hj ec) ⟨Nat.le_of_ble_eq_true rfl, Nat.le_of_ble_eq_true rfl⟩ rfl rfl (Nat.le_of_ble_eq_true rfl) rfl ?_
        by_cases hc : r5.1 = 0
        · replace hf := (if_pos hc).symm.trans hf
          refine z_if_eq_t B 33 rfl 96 (by decide) hc ?_
          refine z_iconst 0 B 55 rfl (by decide) ?_
          cases hf
          exact z_iret B 56 rfl (by decide) hQ hr
        · replace hf := (if_neg hc).symm.trans hf
          refine z_if_eq_f B 33 rfl 96 (by decide) hc ?_
          refine z_aload_n B 34 rfl 0 0 rfl rfl ?_
          obtain ⟨r6, ec, hf⟩ := bd_e hf
          refine z_callV 0 7 [] [] [.int r6.1] X B 35 rfl ob_0 rfl rfl miX7_ends ⟨(iX7_readZone _ (List.mem_of_getElem? (i := 4) rfl)), (iX7_readZone _ (List.mem_of_getElem? (i := 5) rfl)), (iX7_readZone _ (List.mem_of_getElem? (i := 6) rfl))⟩ (ctX7_ends hj ec) ⟨Nat.le_of_ble_eq_true rfl, Nat.le_of_ble_eq_true rfl⟩ rfl rfl (Nat.le_of_ble_eq_true rfl) rfl ?_
          by_cases hc : r6.1 = 0
          · replace hf := (if_pos hc).symm.trans hf
            refine z_if_eq_t B 36 rfl 96 (by decide) hc ?_
            refine z_iconst 0 B 55 rfl (by decide) ?_
            cases hf
            exact z_iret B 56 rfl (by decide) hQ hr
          · replace hf := (if_neg hc).symm.trans hf
            refine z_if_eq_f B 36 rfl 96 (by decide) hc ?_
            refine z_aload_n B 37 rfl 0 0 rfl rfl ?_
            refine z_aload_n B 38 rfl 0 0 rfl rfl ?_
            refine z_getr 7 22 0 B 39 rfl ob_0 rfl (iX7_readZone _ (List.mem_of_getElem? (i := 7) rfl)) rfl ?_
            refine z_iconst 0 B 40 rfl (by decide) ?_
            obtain ⟨hx, hf⟩ := rdc_e hf
            refine z_iald B 41 rfl ob_13 hx ?_
            obtain ⟨v7, ex, hf⟩ := nm_x hf
            refine z_top ex ?_
            refine z_aload_n B 42 rfl 0 0 rfl rfl ?_
            refine z_getr 7 22 0 B 43 rfl ob_0 rfl (iX7_readZone _ (List.mem_of_getElem? (i := 7) rfl)) rfl ?_
            refine z_iconst 1 B 44 rfl (by decide) ?_
            obtain ⟨hx, hf⟩ := rdc_e hf
            refine z_iald B 45 rfl ob_13 hx ?_
            obtain ⟨v8, ex, hf⟩ := nm_x hf
            refine z_top ex ?_
            refine z_aload_n B 46 rfl 0 0 rfl rfl ?_
            refine z_getr 7 22 0 B 47 rfl ob_0 rfl (iX7_readZone _ (List.mem_of_getElem? (i := 7) rfl)) rfl ?_
            refine z_iconst 2 B 48 rfl (by decide) ?_
            obtain ⟨hx, hf⟩ := rdc_e hf
            refine z_iald B 49 rfl ob_13 hx ?_
            obtain ⟨v9, ex, hf⟩ := nm_x hf
            refine z_top ex ?_
            obtain ⟨r10, ec, hf⟩ := bd_e hf
            refine z_callV 0 7 [.int v7, .int v8, .int v9] [] [.int r10.1] X B 50 rfl ob_0 rfl rfl miX7_zone ⟨(iX7_readZone _ (List.mem_of_getElem? (i := 8) rfl)), (iX7_readZone _ (List.mem_of_getElem? (i := 9) rfl)), (iX7_readZone _ (List.mem_of_getElem? (i := 10) rfl))⟩ (ctX7_zone hj ec) ⟨Nat.le_of_ble_eq_true rfl, Nat.le_of_ble_eq_true rfl⟩ rfl rfl (Nat.le_of_ble_eq_true rfl) rfl ?_
            refine z_iconst (-1) B 51 rfl (by decide) ?_
            by_cases hc : r10.1 = (-1 : Int32)
            · replace hf := (if_pos hc).symm.trans hf
              refine z_icmp_eq_t B 52 rfl 96 (by decide) hc ?_
              refine z_iconst 0 B 55 rfl (by decide) ?_
              cases hf
              exact z_iret B 56 rfl (by decide) hQ hr
            · replace hf := (if_neg hc).symm.trans hf
              refine z_icmp_eq_f B 52 rfl 96 (by decide) hc ?_
              refine z_iconst 1 B 53 rfl (by decide) ?_
              refine z_goto B 54 rfl 97 (by decide) ?_
              cases hf
              exact z_iret B 56 rfl (by decide) hQ hr
/-! ZoneCapacityModel.readCurve()Z -/
def tbX7_readCurve : Tb := [(0, .aload_n 0, 1, 1), (1, .iconst 0, 1, 2), (2, .iconst 0, 1, 3), (3, .aload_n 0, 1, 4), (4, .getfield 7, 3, 7), (7, .iconst 0, 1, 8), (8, .iaload, 1, 9), (9, .iconst 1, 1, 10), (10, .isub, 1, 11), (11, .invokevirtual 213, 3, 14), (14, .ifCond .ne 5, 3, 17), (17, .iconst 0, 1, 18), (18, .ireturn, 1, 19), (19, .aload_n 0, 1, 20), (20, .getfield 47, 3, 23), (23, .iconst 0, 1, 24), (24, .iaload, 1, 25), (25, .istore_n 1, 1, 26), (26, .aload_n 0, 1, 27), (27, .getfield 7, 3, 30), (30, .bipush 7, 2, 32), (32, .bipush 12, 2, 34), (34, .iload_n 1, 1, 35), (35, .imul, 1, 36), (36, .iadd, 1, 37), (37, .iconst 3, 1, 38), (38, .iadd, 1, 39), (39, .iconst 0, 1, 40), (40, .iastore, 1, 41), (41, .aload_n 0, 1, 42), (42, .invokevirtual 194, 3, 45), (45, .ifCond .eq 103, 3, 48), (48, .aload_n 0, 1, 49), (49, .iload_n 1, 1, 50), (50, .iconst 3, 1, 51), (51, .invokevirtual 58, 3, 54), (54, .istore_n 2, 1, 55), (55, .iload_n 2, 1, 56), (56, .iconst 4, 1, 57), (57, .if_icmp .ne 13, 3, 60), (60, .aload_n 0, 1, 61), (61, .iconst 3, 1, 62), (62, .aload_n 0, 1, 63), (63, .getfield 184, 3, 66), (66, .invokevirtual 198, 3, 69), (69, .ireturn, 1, 70), (70, .aload_n 0, 1, 71), (71, .iconst 1, 1, 72), (72, .iload_n 2, 1, 73), (73, .ifCond .ne 7, 3, 76), (76, .iconst 1, 1, 77), (77, .goto 13, 3, 80), (80, .aload_n 0, 1, 81), (81, .iload_n 1, 1, 82), (82, .iload_n 2, 1, 83), (83, .iconst 1, 1, 84), (84, .isub, 1, 85), (85, .invokevirtual 62, 3, 88), (88, .iconst 1, 1, 89), (89, .iadd, 1, 90), (90, .sipush 2000, 3, 93), (93, .invokevirtual 213, 3, 96), (96, .ifCond .eq 30, 3, 99), (99, .aload_n 0, 1, 100), (100, .iconst 2, 1, 101), (101, .iconst 0, 1, 102), (102, .iload_n 2, 1, 103), (103, .ifCond .ne 9, 3, 106), (106, .sipush 9999, 3, 109), (109, .goto 11, 3, 112), (112, .aload_n 0, 1, 113), (113, .iload_n 1, 1, 114), (114, .iload_n 2, 1, 115), (115, .iconst 1, 1, 116), (116, .isub, 1, 117), (117, .invokevirtual 65, 3, 120), (120, .invokevirtual 213, 3, 123), (123, .ifCond .ne 5, 3, 126), (126, .iconst 0, 1, 127), (127, .ireturn, 1, 128), (128, .aload_n 0, 1, 129), (129, .iload_n 1, 1, 130), (130, .aload_n 0, 1, 131), (131, .getfield 47, 3, 134), (134, .iconst 1, 1, 135), (135, .iaload, 1, 136), (136, .aload_n 0, 1, 137), (137, .getfield 47, 3, 140), (140, .iconst 2, 1, 141), (141, .iaload, 1, 142), (142, .invokevirtual 127, 3, 145), (145, .goto (-104), 3, 148), (148, .aload_n 0, 1, 149), (149, .invokevirtual 216, 3, 152), (152, .ireturn, 1, 153)]
theorem dtX7_readCurve : ∀ q ∈ tbX7_readCurve, decode cX7_readCurve q.1 = .ok (q.2.1, q.2.2.1) ∧ q.1 + q.2.2.1 = q.2.2.2 := by decide +kernel
theorem miX7_readCurve : MI yX7_readCurve cX7_readCurve 3 (some .boolean) 0 := ⟨tw_mem (List.mem_of_getElem? (i := 1330) (by decide +kernel)) rfl, by decide, by decide +kernel, tw_mem (List.mem_of_getElem? (i := 78) (by decide +kernel)) rfl⟩
abbrev rmX7_readCurve : Room := { frames := 3, cells := 0, slots := 0, locals := 65 }
def wX7_readCurve : List Cond := [.fieldLink "ZoneCapacityModel" 7 "ZoneCapacityModel" "w" "[I", .methodLink "ZoneCapacityModel" 213 yX7_number, .instanceMethod yX7_number, .selects "ZoneCapacityModel" yX7_number yX7_number, .fieldLink "ZoneCapacityModel" 47 "ZoneCapacityModel" "told" "[I", .methodLink "ZoneCapacityModel" 194 yX7_isDigit, .instanceMethod yX7_isDigit, .selects "ZoneCapacityModel" yX7_isDigit yX7_isDigit, .methodLink "ZoneCapacityModel" 216 yX7_ends, .instanceMethod yX7_ends, .selects "ZoneCapacityModel" yX7_ends yX7_ends, .methodLink "ZoneCapacityModel" 58 yX7_ofZone, .instanceMethod yX7_ofZone, .selects "ZoneCapacityModel" yX7_ofZone yX7_ofZone, .methodLink "ZoneCapacityModel" 62 yX7_pointUnits, .instanceMethod yX7_pointUnits, .selects "ZoneCapacityModel" yX7_pointUnits yX7_pointUnits, .methodLink "ZoneCapacityModel" 65 yX7_pointPrice, .instanceMethod yX7_pointPrice, .selects "ZoneCapacityModel" yX7_pointPrice yX7_pointPrice, .methodLink "ZoneCapacityModel" 127 yX7_addPoint, .instanceMethod yX7_addPoint, .selects "ZoneCapacityModel" yX7_addPoint yX7_addPoint, .fieldLink "ZoneCapacityModel" 184 "ZoneCapacityModel" "at" "I", .methodLink "ZoneCapacityModel" 198 yX7_fails, .instanceMethod yX7_fails, .selects "ZoneCapacityModel" yX7_fails yX7_fails]
theorem iX7_readCurve : ∀ w ∈ wX7_readCurve, w ∈ TW := tw_of (ids := [939, 1313, 1315, 63, 960, 1317, 1319, 64, 1321, 1323, 65, 1031, 1033, 26, 1039, 1041, 28, 1043, 1045, 29, 1047, 1049, 30, 955, 1297, 1299, 60]) (by decide +kernel)
def f7_readCurve_j120 (k41 : Int32 → Mem → Option (Int32 × Mem)) (x1 : Int32) (s0 : Int32) (s1 : Int32) (s2 : Int32) (mm : Mem) : Option (Int32 × Mem) := bd (f7_number mm s2 s1 s0) (fun r11 => if r11.1 = 0 then some ((0 : Int32), r11.2) else rdc 13 (1 : Int32) (nm (r11.2 13 (1 : Int32).toNatClampNeg) (fun v12 => rdc 13 (2 : Int32) (nm (r11.2 13 (2 : Int32).toNatClampNeg) (fun v13 => bd (f7_addPoint r11.2 x1 v12 v13) (fun r14 => k41 x1 r14))))))
theorem f7_readCurve_j120_ok {E : Ev} {l : Launch} {C : Cfg} {x : (Int32 × Mem)} {k41 : Int32 → Mem → Option (Int32 × Mem)} (hj : Dj C) (X : Ec E l C rmX7_readCurve) (B : Bx E RX7 tbX7_readCurve 3 (some .boolean)) (hQ : Rt E) (hr : Rs E (some (.int x.1)) x.2) (hk41 : ∀ (x1 : Int32) (mm : Mem), k41 x1 mm = some x → G E 3 41 [(0, .ref 0), (1, .int x1)] [] mm) (x1 : Int32) (s0 : Int32) (s1 : Int32) (s2 : Int32) (mm : Mem) (hf : f7_readCurve_j120 k41 x1 s0 s1 s2 mm = some x) : G E 3 120 [(0, .ref 0), (1, .int x1)] [.int s0, .int s1, .int s2, .ref 0] mm := by
  unfold f7_readCurve_j120 at hf
  obtain ⟨r11, ec, hf⟩ := bd_e hf
  refine z_callV 0 7 [.int s2, .int s1, .int s0] [] [.int r11.1] X B 76 rfl ob_0 rfl rfl miX7_number ⟨(iX7_readCurve _ (List.mem_of_getElem? (i := 1) rfl)), (iX7_readCurve _ (List.mem_of_getElem? (i := 2) rfl)), (iX7_readCurve _ (List.mem_of_getElem? (i := 3) rfl))⟩ (ctX7_number hj ec) ⟨Nat.le_of_ble_eq_true rfl, Nat.le_of_ble_eq_true rfl⟩ rfl rfl (Nat.le_of_ble_eq_true rfl) rfl ?_
  by_cases hc : r11.1 = 0
  · replace hf := (if_pos hc).symm.trans hf
    refine z_if_ne_f B 77 rfl 128 (by decide) hc ?_
    refine z_iconst 0 B 78 rfl (by decide) ?_
    cases hf
    exact z_iret B 79 rfl (by decide) hQ hr
  · replace hf := (if_neg hc).symm.trans hf
    refine z_if_ne_t B 77 rfl 128 (by decide) hc ?_
    refine z_aload_n B 80 rfl 0 0 rfl rfl ?_
    refine z_iload_n B 81 rfl 1 1 rfl rfl ?_
    refine z_aload_n B 82 rfl 0 0 rfl rfl ?_
    refine z_getr 7 22 0 B 83 rfl ob_0 rfl (iX7_readCurve _ (List.mem_of_getElem? (i := 4) rfl)) rfl ?_
    refine z_iconst 1 B 84 rfl (by decide) ?_
    obtain ⟨hx, hf⟩ := rdc_e hf
    refine z_iald B 85 rfl ob_13 hx ?_
    obtain ⟨v12, ex, hf⟩ := nm_x hf
    refine z_top ex ?_
    refine z_aload_n B 86 rfl 0 0 rfl rfl ?_
    refine z_getr 7 22 0 B 87 rfl ob_0 rfl (iX7_readCurve _ (List.mem_of_getElem? (i := 4) rfl)) rfl ?_
    refine z_iconst 2 B 88 rfl (by decide) ?_
    obtain ⟨hx, hf⟩ := rdc_e hf
    refine z_iald B 89 rfl ob_13 hx ?_
    obtain ⟨v13, ex, hf⟩ := nm_x hf
    refine z_top ex ?_
    obtain ⟨r14, ec, hf⟩ := bd_e hf
    refine z_callV 0 7 [.int x1, .int v12, .int v13] [] [] X B 90 rfl ob_0 rfl rfl miX7_addPoint ⟨(iX7_readCurve _ (List.mem_of_getElem? (i := 20) rfl)), (iX7_readCurve _ (List.mem_of_getElem? (i := 21) rfl)), (iX7_readCurve _ (List.mem_of_getElem? (i := 22) rfl))⟩ (ctX7_addPoint hj ec) ⟨Nat.le_of_ble_eq_true rfl, Nat.le_of_ble_eq_true rfl⟩ rfl rfl (Nat.le_of_ble_eq_true rfl) rfl ?_
    refine z_goto B 91 rfl 41 (by decide) ?_
    exact hk41 _ _ hf
def f7_readCurve_j90 (k41 : Int32 → Mem → Option (Int32 × Mem)) (x1 : Int32) (x2 : Int32) (s0 : Int32) (s1 : Int32) (mm : Mem) : Option (Int32 × Mem) := bd (f7_number mm s1 s0 (2000 : Int32)) (fun r9 => if r9.1 = 0 then some ((0 : Int32), r9.2) else if x2 = 0 then f7_readCurve_j120 k41 x1 (9999 : Int32) (0 : Int32) (2 : Int32) r9.2 else bd (f7_pointPrice r9.2 x1 (x2 - (1 : Int32))) (fun r10 => f7_readCurve_j120 k41 x1 r10 (0 : Int32) (2 : Int32) r9.2))
theorem f7_readCurve_j90_ok {E : Ev} {l : Launch} {C : Cfg} {x : (Int32 × Mem)} {k41 : Int32 → Mem → Option (Int32 × Mem)} (hj : Dj C) (X : Ec E l C rmX7_readCurve) (B : Bx E RX7 tbX7_readCurve 3 (some .boolean)) (hQ : Rt E) (hr : Rs E (some (.int x.1)) x.2) (hk41 : ∀ (x1 : Int32) (mm : Mem), k41 x1 mm = some x → G E 3 41 [(0, .ref 0), (1, .int x1)] [] mm) (x1 : Int32) (x2 : Int32) (s0 : Int32) (s1 : Int32) (mm : Mem) (hf : f7_readCurve_j90 k41 x1 x2 s0 s1 mm = some x) : G E 3 90 [(0, .ref 0), (1, .int x1), (2, .int x2)] [.int s0, .int s1, .ref 0] mm := by
  unfold f7_readCurve_j90 at hf
  refine z_sipush 2000 B 60 rfl (by decide) ?_
  obtain ⟨r9, ec, hf⟩ := bd_e hf
  refine z_callV 0 7 [.int s1, .int s0, .int (2000 : Int32)] [] [.int r9.1] X B 61 rfl ob_0 rfl rfl miX7_number ⟨(iX7_readCurve _ (List.mem_of_getElem? (i := 1) rfl)), (iX7_readCurve _ (List.mem_of_getElem? (i := 2) rfl)), (iX7_readCurve _ (List.mem_of_getElem? (i := 3) rfl))⟩ (ctX7_number hj ec) ⟨Nat.le_of_ble_eq_true rfl, Nat.le_of_ble_eq_true rfl⟩ rfl rfl (Nat.le_of_ble_eq_true rfl) rfl ?_
  by_cases hc : r9.1 = 0
  · replace hf := (if_pos hc).symm.trans hf
    refine z_if_eq_t B 62 rfl 126 (by decide) hc ?_
    refine z_iconst 0 B 78 rfl (by decide) ?_
    cases hf
    exact z_iret B 79 rfl (by decide) hQ hr
  · replace hf := (if_neg hc).symm.trans hf
    refine z_if_eq_f B 62 rfl 126 (by decide) hc ?_
    refine z_aload_n B 63 rfl 0 0 rfl rfl ?_
    refine z_iconst 2 B 64 rfl (by decide) ?_
    refine z_iconst 0 B 65 rfl (by decide) ?_
    refine z_iload_n B 66 rfl 2 2 rfl rfl ?_
    by_cases hc : x2 = 0
    · replace hf := (if_pos hc).symm.trans hf
      refine z_if_ne_f B 67 rfl 112 (by decide) hc ?_
      refine z_sipush 9999 B 68 rfl (by decide) ?_
      refine z_goto B 69 rfl 120 (by decide) ?_
      refine z_sub [(0, .ref 0), (1, .int x1)] [0, 1] rfl ?_
      exact f7_readCurve_j120_ok hj X B hQ hr hk41 _ _ _ _ _ hf
    · replace hf := (if_neg hc).symm.trans hf
      refine z_if_ne_t B 67 rfl 112 (by decide) hc ?_
      refine z_aload_n B 70 rfl 0 0 rfl rfl ?_
      refine z_iload_n B 71 rfl 1 1 rfl rfl ?_
      refine z_iload_n B 72 rfl 2 2 rfl rfl ?_
      refine z_iconst 1 B 73 rfl (by decide) ?_
      refine z_isub B 74 rfl ?_
      obtain ⟨r10, ec, hf⟩ := bd_e hf
      refine z_callV 0 7 [.int x1, .int (x2 - (1 : Int32))] [.int (0 : Int32), .int (2 : Int32), .ref 0] [.int r10, .int (0 : Int32), .int (2 : Int32), .ref 0] X B 75 rfl ob_0 rfl rfl miX7_pointPrice ⟨(iX7_readCurve _ (List.mem_of_getElem? (i := 17) rfl)), (iX7_readCurve _ (List.mem_of_getElem? (i := 18) rfl)), (iX7_readCurve _ (List.mem_of_getElem? (i := 19) rfl))⟩ (ctX7_pointPrice hj ec) ⟨Nat.le_of_ble_eq_true rfl, Nat.le_of_ble_eq_true rfl⟩ rfl rfl (Nat.le_of_ble_eq_true rfl) rfl ?_
      refine z_sub [(0, .ref 0), (1, .int x1)] [0, 1] rfl ?_
      exact f7_readCurve_j120_ok hj X B hQ hr hk41 _ _ _ _ _ hf
def f7_readCurve_l41 : Nat → Int32 → Mem → Option (Int32 × Mem)
  | 0, _, _ => none
  | n + 1, x1, mm => bd (f7_isDigit mm) (fun r5 => if r5.1 = 0 then bd (f7_ends r5.2) (fun r6 => bok r6.1 (some (r6.1, r6.2))) else bd (f7_ofZone r5.2 x1 (3 : Int32)) (fun r7 => if r7 = (4 : Int32) then bd (f7_fails r5.2 (3 : Int32) (r5.2 0 17)) (fun r15 => bok r15.1 (some (r15.1, r15.2))) else if r7 = 0 then f7_readCurve_j90 (fun x1 mm => f7_readCurve_l41 n x1 mm) x1 r7 (1 : Int32) (1 : Int32) r5.2 else bd (f7_pointUnits r5.2 x1 (r7 - (1 : Int32))) (fun r8 => f7_readCurve_j90 (fun x1 mm => f7_readCurve_l41 n x1 mm) x1 r7 (r8 + (1 : Int32)) (1 : Int32) r5.2)))
theorem f7_readCurve_l41_ok {E : Ev} {l : Launch} {C : Cfg} {x : (Int32 × Mem)} (hj : Dj C) (X : Ec E l C rmX7_readCurve) (B : Bx E RX7 tbX7_readCurve 3 (some .boolean)) (hQ : Rt E) (hr : Rs E (some (.int x.1)) x.2) (n : Nat) : ∀ (x1 : Int32) (mm : Mem), f7_readCurve_l41 n x1 mm = some x → G E 3 41 [(0, .ref 0), (1, .int x1)] [] mm := by
  induction n with
  | zero =>
    intro x1 mm hf
    rw [f7_readCurve_l41] at hf
    cases hf
  | succ n ih =>
    intro x1 mm hf
    rw [f7_readCurve_l41] at hf
    refine z_aload_n B 29 rfl 0 0 rfl rfl ?_
    obtain ⟨r5, ec, hf⟩ := bd_e hf
    refine z_callV 0 7 [] [] [.int r5.1] X B 30 rfl ob_0 rfl rfl miX7_isDigit ⟨(iX7_readCurve _ (List.mem_of_getElem? (i := 5) rfl)), (iX7_readCurve _ (List.mem_of_getElem? (i := 6) rfl)), (iX7_readCurve _ (List.mem_of_getElem? (i := 7) rfl))⟩ (ctX7_isDigit hj ec) ⟨Nat.le_of_ble_eq_true rfl, Nat.le_of_ble_eq_true rfl⟩ rfl rfl (Nat.le_of_ble_eq_true rfl) rfl ?_
    by_cases hc : r5.1 = 0
    · replace hf := (if_pos hc).symm.trans hf
      refine z_if_eq_t B 31 rfl 148 (by decide) hc ?_
      refine z_aload_n B 92 rfl 0 0 rfl rfl ?_
      obtain ⟨r6, ec, hf⟩ := bd_e hf
      refine z_callV 0 7 [] [] [.int r6.1] X B 93 rfl ob_0 rfl rfl miX7_ends ⟨(iX7_readCurve _ (List.mem_of_getElem? (i := 8) rfl)), (iX7_readCurve _ (List.mem_of_getElem? (i := 9) rfl)), (iX7_readCurve _ (List.mem_of_getElem? (i := 10) rfl))⟩ (ctX7_ends hj ec) ⟨Nat.le_of_ble_eq_true rfl, Nat.le_of_ble_eq_true rfl⟩ rfl rfl (Nat.le_of_ble_eq_true rfl) rfl ?_
      obtain ⟨hb, hf⟩ := bok_e hf
      cases hf
      exact z_iret B 94 rfl (bok_n hb) hQ hr
    · replace hf := (if_neg hc).symm.trans hf
      refine z_if_eq_f B 31 rfl 148 (by decide) hc ?_
      refine z_aload_n B 32 rfl 0 0 rfl rfl ?_
      refine z_iload_n B 33 rfl 1 1 rfl rfl ?_
      refine z_iconst 3 B 34 rfl (by decide) ?_
      obtain ⟨r7, ec, hf⟩ := bd_e hf
      refine z_callV 0 7 [.int x1, .int (3 : Int32)] [] [.int r7] X B 35 rfl ob_0 rfl rfl miX7_ofZone ⟨(iX7_readCurve _ (List.mem_of_getElem? (i := 11) rfl)), (iX7_readCurve _ (List.mem_of_getElem? (i := 12) rfl)), (iX7_readCurve _ (List.mem_of_getElem? (i := 13) rfl))⟩ (ctX7_ofZone hj ec) ⟨Nat.le_of_ble_eq_true rfl, Nat.le_of_ble_eq_true rfl⟩ rfl rfl (Nat.le_of_ble_eq_true rfl) rfl ?_
      refine z_istore_n [(2, .int r7), (0, .ref 0), (1, .int x1)] B 36 rfl 2 rfl (by decide) rfl ?_
      refine z_iload_n B 37 rfl 2 0 rfl rfl ?_
      refine z_iconst 4 B 38 rfl (by decide) ?_
      by_cases hc : r7 = (4 : Int32)
      · replace hf := (if_pos hc).symm.trans hf
        refine z_icmp_ne_f B 39 rfl 70 (by decide) hc ?_
        refine z_aload_n B 40 rfl 0 1 rfl rfl ?_
        refine z_iconst 3 B 41 rfl (by decide) ?_
        refine z_aload_n B 42 rfl 0 1 rfl rfl ?_
        refine z_geti 7 17 0 B 43 rfl ob_0 rfl (iX7_readCurve _ (List.mem_of_getElem? (i := 23) rfl)) rfl ?_
        obtain ⟨r15, ec, hf⟩ := bd_e hf
        refine z_callV 0 7 [.int (3 : Int32), .int (r5.2 0 17)] [] [.int r15.1] X B 44 rfl ob_0 rfl rfl miX7_fails ⟨(iX7_readCurve _ (List.mem_of_getElem? (i := 24) rfl)), (iX7_readCurve _ (List.mem_of_getElem? (i := 25) rfl)), (iX7_readCurve _ (List.mem_of_getElem? (i := 26) rfl))⟩ (ctX7_fails hj ec) ⟨Nat.le_of_ble_eq_true rfl, Nat.le_of_ble_eq_true rfl⟩ rfl rfl (Nat.le_of_ble_eq_true rfl) rfl ?_
        obtain ⟨hb, hf⟩ := bok_e hf
        cases hf
        exact z_iret B 45 rfl (bok_n hb) hQ hr
      · replace hf := (if_neg hc).symm.trans hf
        refine z_icmp_ne_t B 39 rfl 70 (by decide) hc ?_
        refine z_aload_n B 46 rfl 0 1 rfl rfl ?_
        refine z_iconst 1 B 47 rfl (by decide) ?_
        refine z_iload_n B 48 rfl 2 0 rfl rfl ?_
        by_cases hc : r7 = 0
        · replace hf := (if_pos hc).symm.trans hf
          refine z_if_ne_f B 49 rfl 80 (by decide) hc ?_
          refine z_iconst 1 B 50 rfl (by decide) ?_
          refine z_goto B 51 rfl 90 (by decide) ?_
          refine z_sub [(0, .ref 0), (1, .int x1), (2, .int r7)] [1, 2, 0] rfl ?_
          exact f7_readCurve_j90_ok hj X B hQ hr ih _ _ _ _ _ hf
        · replace hf := (if_neg hc).symm.trans hf
          refine z_if_ne_t B 49 rfl 80 (by decide) hc ?_
          refine z_aload_n B 52 rfl 0 1 rfl rfl ?_
          refine z_iload_n B 53 rfl 1 2 rfl rfl ?_
          refine z_iload_n B 54 rfl 2 0 rfl rfl ?_
          refine z_iconst 1 B 55 rfl (by decide) ?_
          refine z_isub B 56 rfl ?_
          obtain ⟨r8, ec, hf⟩ := bd_e hf
          refine z_callV 0 7 [.int x1, .int (r7 - (1 : Int32))] [.int (1 : Int32), .ref 0] [.int r8, .int (1 : Int32), .ref 0] X B 57 rfl ob_0 rfl rfl miX7_pointUnits ⟨(iX7_readCurve _ (List.mem_of_getElem? (i := 14) rfl)), (iX7_readCurve _ (List.mem_of_getElem? (i := 15) rfl)), (iX7_readCurve _ (List.mem_of_getElem? (i := 16) rfl))⟩ (ctX7_pointUnits hj ec) ⟨Nat.le_of_ble_eq_true rfl, Nat.le_of_ble_eq_true rfl⟩ rfl rfl (Nat.le_of_ble_eq_true rfl) rfl ?_
          refine z_iconst 1 B 58 rfl (by decide) ?_
          refine z_iadd B 59 rfl ?_
          refine z_sub [(0, .ref 0), (1, .int x1), (2, .int r7)] [1, 2, 0] rfl ?_
          exact f7_readCurve_j90_ok hj X B hQ hr ih _ _ _ _ _ hf
def f7_readCurve (mm : Mem) : Option (Int32 × Mem) := rdc 1 (0 : Int32) (nm (mm 1 (0 : Int32).toNatClampNeg) (fun v1 => bd (f7_number mm (0 : Int32) (0 : Int32) (v1 - (1 : Int32))) (fun r2 => if r2.1 = 0 then some ((0 : Int32), r2.2) else rdc 13 (0 : Int32) (nm (r2.2 13 (0 : Int32).toNatClampNeg) (fun v3 => rdc 1 (((7 : Int32) + ((12 : Int32) * v3)) + (3 : Int32)) (nm (up2 r2.2 1 (((7 : Int32) + ((12 : Int32) * v3)) + (3 : Int32)).toNatClampNeg (0 : Int32)) (fun m4 => f7_readCurve_l41 FU v3 m4)))))))
theorem ctX7_readCurve {l : Launch} {C : Cfg} (hj : Dj C) {mm : Mem} {x : (Int32 × Mem)} (hf : f7_readCurve mm = some x) : Ct l C yX7_readCurve cX7_readCurve 3 (some .boolean) 3 65 [.ref 0] mm (some (.int x.1)) x.2 := by
  refine Ct.of (tb := tbX7_readCurve) hj miX7_readCurve.2.1 miX7_readCurve.1 dtX7_readCurve (Nat.le_of_ble_eq_true rfl) ?_
  intro E B hQ hr X
  unfold f7_readCurve at hf
  show G E 3 0 [(0, .ref 0)] [] mm
  refine z_aload_n B 0 rfl 0 0 rfl rfl ?_
  refine z_iconst 0 B 1 rfl (by decide) ?_
  refine z_iconst 0 B 2 rfl (by decide) ?_
  refine z_aload_n B 3 rfl 0 0 rfl rfl ?_
  refine z_getr 7 1 0 B 4 rfl ob_0 rfl (iX7_readCurve _ (List.mem_of_getElem? (i := 0) rfl)) rfl ?_
  refine z_iconst 0 B 5 rfl (by decide) ?_
  obtain ⟨hx, hf⟩ := rdc_e hf
  refine z_iald B 6 rfl ob_1 hx ?_
  obtain ⟨v1, ex, hf⟩ := nm_x hf
  refine z_top ex ?_
  refine z_iconst 1 B 7 rfl (by decide) ?_
  refine z_isub B 8 rfl ?_
  obtain ⟨r2, ec, hf⟩ := bd_e hf
  refine z_callV 0 7 [.int (0 : Int32), .int (0 : Int32), .int (v1 - (1 : Int32))] [] [.int r2.1] X B 9 rfl ob_0 rfl rfl miX7_number ⟨(iX7_readCurve _ (List.mem_of_getElem? (i := 1) rfl)), (iX7_readCurve _ (List.mem_of_getElem? (i := 2) rfl)), (iX7_readCurve _ (List.mem_of_getElem? (i := 3) rfl))⟩ (ctX7_number hj ec) ⟨Nat.le_of_ble_eq_true rfl, Nat.le_of_ble_eq_true rfl⟩ rfl rfl (Nat.le_of_ble_eq_true rfl) rfl ?_
  by_cases hc : r2.1 = 0
  · replace hf := (if_pos hc).symm.trans hf
    refine z_if_ne_f B 10 rfl 19 (by decide) hc ?_
    refine z_iconst 0 B 11 rfl (by decide) ?_
    cases hf
    exact z_iret B 12 rfl (by decide) hQ hr
  · replace hf := (if_neg hc).symm.trans hf
    refine z_if_ne_t B 10 rfl 19 (by decide) hc ?_
    refine z_aload_n B 13 rfl 0 0 rfl rfl ?_
    refine z_getr 7 22 0 B 14 rfl ob_0 rfl (iX7_readCurve _ (List.mem_of_getElem? (i := 4) rfl)) rfl ?_
    refine z_iconst 0 B 15 rfl (by decide) ?_
    obtain ⟨hx, hf⟩ := rdc_e hf
    refine z_iald B 16 rfl ob_13 hx ?_
    obtain ⟨v3, ex, hf⟩ := nm_x hf
    refine z_top ex ?_
    refine z_istore_n [(1, .int v3), (0, .ref 0)] B 17 rfl 1 rfl (by decide) rfl ?_
    refine z_aload_n B 18 rfl 0 1 rfl rfl ?_
    refine z_getr 7 1 0 B 19 rfl ob_0 rfl (iX7_readCurve _ (List.mem_of_getElem? (i := 0) rfl)) rfl ?_
    refine z_bipush 7 B 20 rfl (by decide) ?_
    refine z_bipush 12 B 21 rfl (by decide) ?_
    refine z_iload_n B 22 rfl 1 0 rfl rfl ?_
    refine z_imul B 23 rfl ?_
    refine z_iadd B 24 rfl ?_
    refine z_iconst 3 B 25 rfl (by decide) ?_
    refine z_iadd B 26 rfl ?_
    refine z_iconst 0 B 27 rfl (by decide) ?_
    obtain ⟨hx, hf⟩ := rdc_e hf
    refine z_iast B 28 rfl ob_1 hx ?_
    obtain ⟨m4, ex, hf⟩ := nm_x hf
    refine z_mem ex ?_
    refine z_sub [(0, .ref 0), (1, .int v3)] [1, 0] rfl ?_
    exact f7_readCurve_l41_ok hj X B hQ hr FU _ _ hf
/-! ZoneCapacityModel.readResource(I)Z -/
def tbX7_readResource : Tb := [(0, .aload_n 0, 1, 1), (1, .getfield 7, 3, 4), (4, .iconst 1, 1, 5), (5, .iaload, 1, 6), (6, .bipush 12, 2, 8), (8, .if_icmp .ne 10, 3, 11), (11, .aload_n 0, 1, 12), (12, .iconst 3, 1, 13), (13, .iload_n 1, 1, 14), (14, .invokevirtual 198, 3, 17), (17, .ireturn, 1, 18), (18, .aload_n 0, 1, 19), (19, .iconst 0, 1, 20), (20, .iconst 0, 1, 21), (21, .aload_n 0, 1, 22), (22, .getfield 7, 3, 25), (25, .iconst 0, 1, 26), (26, .iaload, 1, 27), (27, .iconst 1, 1, 28), (28, .isub, 1, 29), (29, .invokevirtual 213, 3, 32), (32, .ifCond .eq 35, 3, 35), (35, .aload_n 0, 1, 36), (36, .iconst 1, 1, 37), (37, .iconst 1, 1, 38), (38, .sipush 500, 3, 41), (41, .invokevirtual 213, 3, 44), (44, .ifCond .eq 23, 3, 47), (47, .aload_n 0, 1, 48), (48, .iconst 2, 1, 49), (49, .iconst 0, 1, 50), (50, .iconst 3, 1, 51), (51, .invokevirtual 213, 3, 54), (54, .ifCond .eq 13, 3, 57), (57, .aload_n 0, 1, 58), (58, .iconst 3, 1, 59), (59, .iconst 0, 1, 60), (60, .iconst 5, 1, 61), (61, .invokevirtual 213, 3, 64), (64, .ifCond .ne 5, 3, 67), (67, .iconst 0, 1, 68), (68, .ireturn, 1, 69), (69, .aload_n 0, 1, 70), (70, .getfield 47, 3, 73), (73, .iconst 4, 1, 74), (74, .iconst 0, 1, 75), (75, .iastore, 1, 76), (76, .aload_n 0, 1, 77), (77, .getfield 47, 3, 80), (80, .iconst 5, 1, 81), (81, .iconst 0, 1, 82), (82, .iastore, 1, 83), (83, .aload_n 0, 1, 84), (84, .invokevirtual 222, 3, 87), (87, .ifCond .eq 95, 3, 90), (90, .aload_n 0, 1, 91), (91, .invokevirtual 225, 3, 94), (94, .lstore_n 2, 1, 95), (95, .lload_n 2, 1, 96), (96, .ldc2_w 228, 3, 99), (99, .lcmp, 1, 100), (100, .ifCond .ne 21, 3, 103), (103, .aload_n 0, 1, 104), (104, .getfield 47, 3, 107), (107, .iconst 4, 1, 108), (108, .iaload, 1, 109), (109, .ifCond .ne 12, 3, 112), (112, .aload_n 0, 1, 113), (113, .getfield 47, 3, 116), (116, .iconst 5, 1, 117), (117, .iaload, 1, 118), (118, .ifCond .eq 20, 3, 121), (121, .lload_n 2, 1, 122), (122, .ldc2_w 230, 3, 125), (125, .lcmp, 1, 126), (126, .ifCond .ne 16, 3, 129), (129, .aload_n 0, 1, 130), (130, .getfield 47, 3, 133), (133, .iconst 5, 1, 134), (134, .iaload, 1, 135), (135, .ifCond .ne 7, 3, 138), (138, .iconst 1, 1, 139), (139, .goto 4, 3, 142), (142, .iconst 0, 1, 143), (143, .istore 4, 2, 145), (145, .iload 4, 2, 147), (147, .ifCond .ne 13, 3, 150), (150, .aload_n 0, 1, 151), (151, .iconst 1, 1, 152), (152, .aload_n 0, 1, 153), (153, .getfield 201, 3, 156), (156, .invokevirtual 198, 3, 159), (159, .ireturn, 1, 160), (160, .aload_n 0, 1, 161), (161, .getfield 47, 3, 164), (164, .lload_n 2, 1, 165), (165, .ldc2_w 228, 3, 168), (168, .lcmp, 1, 169), (169, .ifCond .ne 7, 3, 172), (172, .iconst 4, 1, 173), (173, .goto 4, 3, 176), (176, .iconst 5, 1, 177), (177, .iconst 1, 1, 178), (178, .iastore, 1, 179), (179, .goto (-96), 3, 182), (182, .aload_n 0, 1, 183), (183, .invokevirtual 216, 3, 186), (186, .ifCond .ne 5, 3, 189), (189, .iconst 0, 1, 190), (190, .ireturn, 1, 191), (191, .aload_n 0, 1, 192), (192, .aload_n 0, 1, 193), (193, .getfield 47, 3, 196), (196, .iconst 0, 1, 197), (197, .iaload, 1, 198), (198, .aload_n 0, 1, 199), (199, .getfield 47, 3, 202), (202, .iconst 1, 1, 203), (203, .iaload, 1, 204), (204, .aload_n 0, 1, 205), (205, .getfield 47, 3, 208), (208, .iconst 2, 1, 209), (209, .iaload, 1, 210), (210, .aload_n 0, 1, 211), (211, .getfield 47, 3, 214), (214, .iconst 3, 1, 215), (215, .iaload, 1, 216), (216, .aload_n 0, 1, 217), (217, .getfield 47, 3, 220), (220, .iconst 4, 1, 221), (221, .iaload, 1, 222), (222, .aload_n 0, 1, 223), (223, .getfield 47, 3, 226), (226, .iconst 5, 1, 227), (227, .iaload, 1, 228), (228, .invokevirtual 131, 3, 231), (231, .istore_n 2, 1, 232), (232, .iload_n 2, 1, 233), (233, .iconst (-1), 1, 234), (234, .if_icmp .eq 7, 3, 237), (237, .iconst 1, 1, 238), (238, .goto 4, 3, 241), (241, .iconst 0, 1, 242), (242, .ireturn, 1, 243)]
theorem dtX7_readResource : ∀ q ∈ tbX7_readResource, decode cX7_readResource q.1 = .ok (q.2.1, q.2.2.1) ∧ q.1 + q.2.2.1 = q.2.2.2 := by decide +kernel
theorem miX7_readResource : MI yX7_readResource cX7_readResource 5 (some .boolean) 1 := ⟨tw_mem (List.mem_of_getElem? (i := 1335) (by decide +kernel)) rfl, by decide, by decide +kernel, tw_mem (List.mem_of_getElem? (i := 78) (by decide +kernel)) rfl⟩
abbrev rmX7_readResource : Room := { frames := 3, cells := 0, slots := 0, locals := 65 }
def wX7_readResource : List Cond := [.fieldLink "ZoneCapacityModel" 7 "ZoneCapacityModel" "w" "[I", .methodLink "ZoneCapacityModel" 213 yX7_number, .instanceMethod yX7_number, .selects "ZoneCapacityModel" yX7_number yX7_number, .fieldLink "ZoneCapacityModel" 47 "ZoneCapacityModel" "told" "[I", .methodLink "ZoneCapacityModel" 222 yX7_isWord, .instanceMethod yX7_isWord, .selects "ZoneCapacityModel" yX7_isWord yX7_isWord, .methodLink "ZoneCapacityModel" 216 yX7_ends, .instanceMethod yX7_ends, .selects "ZoneCapacityModel" yX7_ends yX7_ends, .methodLink "ZoneCapacityModel" 131 yX7_addResource, .instanceMethod yX7_addResource, .selects "ZoneCapacityModel" yX7_addResource yX7_addResource, .methodLink "ZoneCapacityModel" 225 yX7_readWord, .instanceMethod yX7_readWord, .selects "ZoneCapacityModel" yX7_readWord yX7_readWord, .constantLong "ZoneCapacityModel" 228 (271721), .constantLong "ZoneCapacityModel" 230 (131360), .fieldLink "ZoneCapacityModel" 201 "ZoneCapacityModel" "place" "I", .methodLink "ZoneCapacityModel" 198 yX7_fails, .instanceMethod yX7_fails, .selects "ZoneCapacityModel" yX7_fails yX7_fails]
theorem iX7_readResource : ∀ w ∈ wX7_readResource, w ∈ TW := tw_of (ids := [939, 1313, 1315, 63, 960, 1293, 1295, 59, 1321, 1323, 65, 1055, 1057, 31, 1301, 1303, 61, 1336, 1337, 958, 1297, 1299, 60]) (by decide +kernel)
def f7_readResource_j177 (k83 : Mem → Option (Int32 × Mem)) (s0 : Int32) (mm : Mem) : Option (Int32 × Mem) := rdc 13 s0 (nm (up2 mm 13 s0.toNatClampNeg (1 : Int32)) (fun m19 => k83  m19))
theorem f7_readResource_j177_ok {E : Ev} {l : Launch} {C : Cfg} {x : (Int32 × Mem)} {k83 : Mem → Option (Int32 × Mem)} (hj : Dj C) (X : Ec E l C rmX7_readResource) (B : Bx E RX7 tbX7_readResource 5 (some .boolean)) (hQ : Rt E) (hr : Rs E (some (.int x.1)) x.2) (hk83 : ∀ (mm : Mem), k83 mm = some x → G E 5 83 [(0, .ref 0)] [] mm) (s0 : Int32) (mm : Mem) (hf : f7_readResource_j177 k83 s0 mm = some x) : G E 5 177 [(0, .ref 0)] [.int s0, .ref 13] mm := by
  unfold f7_readResource_j177 at hf
  refine z_iconst 1 B 102 rfl (by decide) ?_
  obtain ⟨hx, hf⟩ := rdc_e hf
  refine z_iast B 103 rfl ob_13 hx ?_
  obtain ⟨m19, ex, hf⟩ := nm_x hf
  refine z_mem ex ?_
  refine z_goto B 104 rfl 83 (by decide) ?_
  exact hk83 _ hf
def f7_readResource_j143 (k83 : Mem → Option (Int32 × Mem)) (x2 : Int64) (s0 : Int32) (mm : Mem) : Option (Int32 × Mem) := if s0 = 0 then bd (f7_fails mm (1 : Int32) (mm 0 20)) (fun r20 => bok r20.1 (some (r20.1, r20.2))) else if (lg_cmp x2 (271721 : Int64)) = 0 then f7_readResource_j177 k83 (4 : Int32) mm else f7_readResource_j177 k83 (5 : Int32) mm
theorem f7_readResource_j143_ok {E : Ev} {l : Launch} {C : Cfg} {x : (Int32 × Mem)} {k83 : Mem → Option (Int32 × Mem)} (hj : Dj C) (X : Ec E l C rmX7_readResource) (B : Bx E RX7 tbX7_readResource 5 (some .boolean)) (hQ : Rt E) (hr : Rs E (some (.int x.1)) x.2) (hk83 : ∀ (mm : Mem), k83 mm = some x → G E 5 83 [(0, .ref 0)] [] mm) (x2 : Int64) (s0 : Int32) (mm : Mem) (hf : f7_readResource_j143 k83 x2 s0 mm = some x) : G E 5 143 [(0, .ref 0), (2, .long x2)] [.int s0] mm := by
  unfold f7_readResource_j143 at hf
  refine z_istore [(4, .int s0), (0, .ref 0), (2, .long x2)] B 84 rfl (by decide) rfl ?_
  refine z_iload B 85 rfl 0 rfl ?_
  by_cases hc : s0 = 0
  · replace hf := (if_pos hc).symm.trans hf
    refine z_if_ne_f B 86 rfl 160 (by decide) hc ?_
    refine z_aload_n B 87 rfl 0 1 rfl rfl ?_
    refine z_iconst 1 B 88 rfl (by decide) ?_
    refine z_aload_n B 89 rfl 0 1 rfl rfl ?_
    refine z_geti 7 20 0 B 90 rfl ob_0 rfl (iX7_readResource _ (List.mem_of_getElem? (i := 19) rfl)) rfl ?_
    obtain ⟨r20, ec, hf⟩ := bd_e hf
    refine z_callV 0 7 [.int (1 : Int32), .int (mm 0 20)] [] [.int r20.1] X B 91 rfl ob_0 rfl rfl miX7_fails ⟨(iX7_readResource _ (List.mem_of_getElem? (i := 20) rfl)), (iX7_readResource _ (List.mem_of_getElem? (i := 21) rfl)), (iX7_readResource _ (List.mem_of_getElem? (i := 22) rfl))⟩ (ctX7_fails hj ec) ⟨Nat.le_of_ble_eq_true rfl, Nat.le_of_ble_eq_true rfl⟩ rfl rfl (Nat.le_of_ble_eq_true rfl) rfl ?_
    obtain ⟨hb, hf⟩ := bok_e hf
    cases hf
    exact z_iret B 92 rfl (bok_n hb) hQ hr
  · replace hf := (if_neg hc).symm.trans hf
    refine z_if_ne_t B 86 rfl 160 (by decide) hc ?_
    refine z_aload_n B 93 rfl 0 1 rfl rfl ?_
    refine z_getr 7 22 0 B 94 rfl ob_0 rfl (iX7_readResource _ (List.mem_of_getElem? (i := 4) rfl)) rfl ?_
    refine z_lload_n B 95 rfl 2 2 rfl rfl ?_
    refine z_ldc2 271721 B 96 rfl (iX7_readResource _ (List.mem_of_getElem? (i := 17) rfl)) ?_
    refine z_lcmp B 97 rfl ?_
    by_cases hc : (lg_cmp x2 (271721 : Int64)) = 0
    · replace hf := (if_pos hc).symm.trans hf
      refine z_if_ne_f B 98 rfl 176 (by decide) hc ?_
      refine z_iconst 4 B 99 rfl (by decide) ?_
      refine z_goto B 100 rfl 177 (by decide) ?_
      refine z_sub [(0, .ref 0)] [1] rfl ?_
      exact f7_readResource_j177_ok hj X B hQ hr hk83 _ _ hf
    · replace hf := (if_neg hc).symm.trans hf
      refine z_if_ne_t B 98 rfl 176 (by decide) hc ?_
      refine z_iconst 5 B 101 rfl (by decide) ?_
      refine z_sub [(0, .ref 0)] [1] rfl ?_
      exact f7_readResource_j177_ok hj X B hQ hr hk83 _ _ hf
def f7_readResource_j142 (k83 : Mem → Option (Int32 × Mem)) (x2 : Int64) (mm : Mem) : Option (Int32 × Mem) := f7_readResource_j143 k83 x2 (0 : Int32) mm
theorem f7_readResource_j142_ok {E : Ev} {l : Launch} {C : Cfg} {x : (Int32 × Mem)} {k83 : Mem → Option (Int32 × Mem)} (hj : Dj C) (X : Ec E l C rmX7_readResource) (B : Bx E RX7 tbX7_readResource 5 (some .boolean)) (hQ : Rt E) (hr : Rs E (some (.int x.1)) x.2) (hk83 : ∀ (mm : Mem), k83 mm = some x → G E 5 83 [(0, .ref 0)] [] mm) (x2 : Int64) (mm : Mem) (hf : f7_readResource_j142 k83 x2 mm = some x) : G E 5 142 [(0, .ref 0), (2, .long x2)] [] mm := by
  unfold f7_readResource_j142 at hf
  refine z_iconst 0 B 83 rfl (by decide) ?_
  exact f7_readResource_j143_ok hj X B hQ hr hk83 _ _ _ hf
def f7_readResource_j138 (k83 : Mem → Option (Int32 × Mem)) (x2 : Int64) (mm : Mem) : Option (Int32 × Mem) := f7_readResource_j143 k83 x2 (1 : Int32) mm
theorem f7_readResource_j138_ok {E : Ev} {l : Launch} {C : Cfg} {x : (Int32 × Mem)} {k83 : Mem → Option (Int32 × Mem)} (hj : Dj C) (X : Ec E l C rmX7_readResource) (B : Bx E RX7 tbX7_readResource 5 (some .boolean)) (hQ : Rt E) (hr : Rs E (some (.int x.1)) x.2) (hk83 : ∀ (mm : Mem), k83 mm = some x → G E 5 83 [(0, .ref 0)] [] mm) (x2 : Int64) (mm : Mem) (hf : f7_readResource_j138 k83 x2 mm = some x) : G E 5 138 [(0, .ref 0), (2, .long x2)] [] mm := by
  unfold f7_readResource_j138 at hf
  refine z_iconst 1 B 81 rfl (by decide) ?_
  refine z_goto B 82 rfl 143 (by decide) ?_
  exact f7_readResource_j143_ok hj X B hQ hr hk83 _ _ _ hf
def f7_readResource_j121 (k83 : Mem → Option (Int32 × Mem)) (x2 : Int64) (mm : Mem) : Option (Int32 × Mem) := if (lg_cmp x2 (131360 : Int64)) = 0 then rdc 13 (5 : Int32) (nm (mm 13 (5 : Int32).toNatClampNeg) (fun v21 => if v21 = 0 then f7_readResource_j138 k83 x2 mm else f7_readResource_j142 k83 x2 mm)) else f7_readResource_j142 k83 x2 mm
theorem f7_readResource_j121_ok {E : Ev} {l : Launch} {C : Cfg} {x : (Int32 × Mem)} {k83 : Mem → Option (Int32 × Mem)} (hj : Dj C) (X : Ec E l C rmX7_readResource) (B : Bx E RX7 tbX7_readResource 5 (some .boolean)) (hQ : Rt E) (hr : Rs E (some (.int x.1)) x.2) (hk83 : ∀ (mm : Mem), k83 mm = some x → G E 5 83 [(0, .ref 0)] [] mm) (x2 : Int64) (mm : Mem) (hf : f7_readResource_j121 k83 x2 mm = some x) : G E 5 121 [(0, .ref 0), (2, .long x2)] [] mm := by
  unfold f7_readResource_j121 at hf
  refine z_lload_n B 72 rfl 2 1 rfl rfl ?_
  refine z_ldc2 131360 B 73 rfl (iX7_readResource _ (List.mem_of_getElem? (i := 18) rfl)) ?_
  refine z_lcmp B 74 rfl ?_
  by_cases hc : (lg_cmp x2 (131360 : Int64)) = 0
  · replace hf := (if_pos hc).symm.trans hf
    refine z_if_ne_f B 75 rfl 142 (by decide) hc ?_
    refine z_aload_n B 76 rfl 0 0 rfl rfl ?_
    refine z_getr 7 22 0 B 77 rfl ob_0 rfl (iX7_readResource _ (List.mem_of_getElem? (i := 4) rfl)) rfl ?_
    refine z_iconst 5 B 78 rfl (by decide) ?_
    obtain ⟨hx, hf⟩ := rdc_e hf
    refine z_iald B 79 rfl ob_13 hx ?_
    obtain ⟨v21, ex, hf⟩ := nm_x hf
    refine z_top ex ?_
    by_cases hc : v21 = 0
    · replace hf := (if_pos hc).symm.trans hf
      refine z_if_ne_f B 80 rfl 142 (by decide) hc ?_
      exact f7_readResource_j138_ok hj X B hQ hr hk83 _ _ hf
    · replace hf := (if_neg hc).symm.trans hf
      refine z_if_ne_t B 80 rfl 142 (by decide) hc ?_
      exact f7_readResource_j142_ok hj X B hQ hr hk83 _ _ hf
  · replace hf := (if_neg hc).symm.trans hf
    refine z_if_ne_t B 75 rfl 142 (by decide) hc ?_
    exact f7_readResource_j142_ok hj X B hQ hr hk83 _ _ hf
def f7_readResource_l83 : Nat → Mem → Option (Int32 × Mem)
  | 0, _ => none
  | n + 1, mm => bd (f7_isWord mm) (fun r9 => if r9.1 = 0 then bd (f7_ends r9.2) (fun r10 => if r10.1 = 0 then some ((0 : Int32), r10.2) else rdc 13 (0 : Int32) (nm (r10.2 13 (0 : Int32).toNatClampNeg) (fun v11 => rdc 13 (1 : Int32) (nm (r10.2 13 (1 : Int32).toNatClampNeg) (fun v12 => rdc 13 (2 : Int32) (nm (r10.2 13 (2 : Int32).toNatClampNeg) (fun v13 => rdc 13 (3 : Int32) (nm (r10.2 13 (3 : Int32).toNatClampNeg) (fun v14 => rdc 13 (4 : Int32) (nm (r10.2 13 (4 : Int32).toNatClampNeg) (fun v15 => rdc 13 (5 : Int32) (nm (r10.2 13 (5 : Int32).toNatClampNeg) (fun v16 => bd (f7_addResource r10.2 v11 v12 v13 v14 v15 v16) (fun r17 => if r17.1 = (-1 : Int32) then some ((0 : Int32), r17.2) else some ((1 : Int32), r17.2))))))))))))))) else bd (f7_readWord r9.2) (fun r18 => if (lg_cmp r18.1 (271721 : Int64)) = 0 then rdc 13 (4 : Int32) (nm (r18.2 13 (4 : Int32).toNatClampNeg) (fun v22 => if v22 = 0 then rdc 13 (5 : Int32) (nm (r18.2 13 (5 : Int32).toNatClampNeg) (fun v23 => if v23 = 0 then f7_readResource_j138 (fun  mm => f7_readResource_l83 n  mm) r18.1 r18.2 else f7_readResource_j121 (fun  mm => f7_readResource_l83 n  mm) r18.1 r18.2)) else f7_readResource_j121 (fun  mm => f7_readResource_l83 n  mm) r18.1 r18.2)) else f7_readResource_j121 (fun  mm => f7_readResource_l83 n  mm) r18.1 r18.2))
theorem f7_readResource_l83_ok {E : Ev} {l : Launch} {C : Cfg} {x : (Int32 × Mem)} (hj : Dj C) (X : Ec E l C rmX7_readResource) (B : Bx E RX7 tbX7_readResource 5 (some .boolean)) (hQ : Rt E) (hr : Rs E (some (.int x.1)) x.2) (n : Nat) : ∀ (mm : Mem), f7_readResource_l83 n mm = some x → G E 5 83 [(0, .ref 0)] [] mm := by
  induction n with
  | zero =>
    intro mm hf
    rw [f7_readResource_l83] at hf
    cases hf
  | succ n ih =>
    intro mm hf
    rw [f7_readResource_l83] at hf
    refine z_aload_n B 52 rfl 0 0 rfl rfl ?_
    obtain ⟨r9, ec, hf⟩ := bd_e hf
    refine z_callV 0 7 [] [] [.int r9.1] X B 53 rfl ob_0 rfl rfl miX7_isWord ⟨(iX7_readResource _ (List.mem_of_getElem? (i := 5) rfl)), (iX7_readResource _ (List.mem_of_getElem? (i := 6) rfl)), (iX7_readResource _ (List.mem_of_getElem? (i := 7) rfl))⟩ (ctX7_isWord hj ec) ⟨Nat.le_of_ble_eq_true rfl, Nat.le_of_ble_eq_true rfl⟩ rfl rfl (Nat.le_of_ble_eq_true rfl) rfl ?_
    by_cases hc : r9.1 = 0
    · replace hf := (if_pos hc).symm.trans hf
      refine z_if_eq_t B 54 rfl 182 (by decide) hc ?_
      refine z_aload_n B 105 rfl 0 0 rfl rfl ?_
      obtain ⟨r10, ec, hf⟩ := bd_e hf
      refine z_callV 0 7 [] [] [.int r10.1] X B 106 rfl ob_0 rfl rfl miX7_ends ⟨(iX7_readResource _ (List.mem_of_getElem? (i := 8) rfl)), (iX7_readResource _ (List.mem_of_getElem? (i := 9) rfl)), (iX7_readResource _ (List.mem_of_getElem? (i := 10) rfl))⟩ (ctX7_ends hj ec) ⟨Nat.le_of_ble_eq_true rfl, Nat.le_of_ble_eq_true rfl⟩ rfl rfl (Nat.le_of_ble_eq_true rfl) rfl ?_
      by_cases hc : r10.1 = 0
      · replace hf := (if_pos hc).symm.trans hf
        refine z_if_ne_f B 107 rfl 191 (by decide) hc ?_
        refine z_iconst 0 B 108 rfl (by decide) ?_
        cases hf
        exact z_iret B 109 rfl (by decide) hQ hr
      · replace hf := (if_neg hc).symm.trans hf
        refine z_if_ne_t B 107 rfl 191 (by decide) hc ?_
        refine z_aload_n B 110 rfl 0 0 rfl rfl ?_
        refine z_aload_n B 111 rfl 0 0 rfl rfl ?_
        refine z_getr 7 22 0 B 112 rfl ob_0 rfl (iX7_readResource _ (List.mem_of_getElem? (i := 4) rfl)) rfl ?_
        refine z_iconst 0 B 113 rfl (by decide) ?_
        obtain ⟨hx, hf⟩ := rdc_e hf
        refine z_iald B 114 rfl ob_13 hx ?_
        obtain ⟨v11, ex, hf⟩ := nm_x hf
        refine z_top ex ?_
        refine z_aload_n B 115 rfl 0 0 rfl rfl ?_
        refine z_getr 7 22 0 B 116 rfl ob_0 rfl (iX7_readResource _ (List.mem_of_getElem? (i := 4) rfl)) rfl ?_
        refine z_iconst 1 B 117 rfl (by decide) ?_
        obtain ⟨hx, hf⟩ := rdc_e hf
        refine z_iald B 118 rfl ob_13 hx ?_
        obtain ⟨v12, ex, hf⟩ := nm_x hf
        refine z_top ex ?_
        refine z_aload_n B 119 rfl 0 0 rfl rfl ?_
        refine z_getr 7 22 0 B 120 rfl ob_0 rfl (iX7_readResource _ (List.mem_of_getElem? (i := 4) rfl)) rfl ?_
        refine z_iconst 2 B 121 rfl (by decide) ?_
        obtain ⟨hx, hf⟩ := rdc_e hf
        refine z_iald B 122 rfl ob_13 hx ?_
        obtain ⟨v13, ex, hf⟩ := nm_x hf
        refine z_top ex ?_
        refine z_aload_n B 123 rfl 0 0 rfl rfl ?_
        refine z_getr 7 22 0 B 124 rfl ob_0 rfl (iX7_readResource _ (List.mem_of_getElem? (i := 4) rfl)) rfl ?_
        refine z_iconst 3 B 125 rfl (by decide) ?_
        obtain ⟨hx, hf⟩ := rdc_e hf
        refine z_iald B 126 rfl ob_13 hx ?_
        obtain ⟨v14, ex, hf⟩ := nm_x hf
        refine z_top ex ?_
        refine z_aload_n B 127 rfl 0 0 rfl rfl ?_
        refine z_getr 7 22 0 B 128 rfl ob_0 rfl (iX7_readResource _ (List.mem_of_getElem? (i := 4) rfl)) rfl ?_
        refine z_iconst 4 B 129 rfl (by decide) ?_
        obtain ⟨hx, hf⟩ := rdc_e hf
        refine z_iald B 130 rfl ob_13 hx ?_
        obtain ⟨v15, ex, hf⟩ := nm_x hf
        refine z_top ex ?_
        refine z_aload_n B 131 rfl 0 0 rfl rfl ?_
        refine z_getr 7 22 0 B 132 rfl ob_0 rfl (iX7_readResource _ (List.mem_of_getElem? (i := 4) rfl)) rfl ?_
        refine z_iconst 5 B 133 rfl (by decide) ?_
        obtain ⟨hx, hf⟩ := rdc_e hf
        refine z_iald B 134 rfl ob_13 hx ?_
        obtain ⟨v16, ex, hf⟩ := nm_x hf
        refine z_top ex ?_
        obtain ⟨r17, ec, hf⟩ := bd_e hf
        refine z_callV 0 7 [.int v11, .int v12, .int v13, .int v14, .int v15, .int v16] [] [.int r17.1] X B 135 rfl ob_0 rfl rfl miX7_addResource ⟨(iX7_readResource _ (List.mem_of_getElem? (i := 11) rfl)), (iX7_readResource _ (List.mem_of_getElem? (i := 12) rfl)), (iX7_readResource _ (List.mem_of_getElem? (i := 13) rfl))⟩ (ctX7_addResource hj ec) ⟨Nat.le_of_ble_eq_true rfl, Nat.le_of_ble_eq_true rfl⟩ rfl rfl (Nat.le_of_ble_eq_true rfl) rfl ?_
        refine z_istore_n [(2, .int r17.1), (0, .ref 0)] B 136 rfl 2 rfl (by decide) rfl ?_
        refine z_iload_n B 137 rfl 2 0 rfl rfl ?_
        refine z_iconst (-1) B 138 rfl (by decide) ?_
        by_cases hc : r17.1 = (-1 : Int32)
        · replace hf := (if_pos hc).symm.trans hf
          refine z_icmp_eq_t B 139 rfl 241 (by decide) hc ?_
          refine z_iconst 0 B 142 rfl (by decide) ?_
          cases hf
          exact z_iret B 143 rfl (by decide) hQ hr
        · replace hf := (if_neg hc).symm.trans hf
          refine z_icmp_eq_f B 139 rfl 241 (by decide) hc ?_
          refine z_iconst 1 B 140 rfl (by decide) ?_
          refine z_goto B 141 rfl 242 (by decide) ?_
          cases hf
          exact z_iret B 143 rfl (by decide) hQ hr
    · replace hf := (if_neg hc).symm.trans hf
      refine z_if_eq_f B 54 rfl 182 (by decide) hc ?_
      refine z_aload_n B 55 rfl 0 0 rfl rfl ?_
      obtain ⟨r18, ec, hf⟩ := bd_e hf
      refine z_callV 0 7 [] [] [.long r18.1] X B 56 rfl ob_0 rfl rfl miX7_readWord ⟨(iX7_readResource _ (List.mem_of_getElem? (i := 14) rfl)), (iX7_readResource _ (List.mem_of_getElem? (i := 15) rfl)), (iX7_readResource _ (List.mem_of_getElem? (i := 16) rfl))⟩ (ctX7_readWord hj ec) ⟨Nat.le_of_ble_eq_true rfl, Nat.le_of_ble_eq_true rfl⟩ rfl rfl (Nat.le_of_ble_eq_true rfl) rfl ?_
      refine z_lstore_n [(2, .long r18.1), (0, .ref 0)] B 57 rfl 2 rfl (by decide) rfl ?_
      refine z_lload_n B 58 rfl 2 0 rfl rfl ?_
      refine z_ldc2 271721 B 59 rfl (iX7_readResource _ (List.mem_of_getElem? (i := 17) rfl)) ?_
      refine z_lcmp B 60 rfl ?_
      by_cases hc : (lg_cmp r18.1 (271721 : Int64)) = 0
      · replace hf := (if_pos hc).symm.trans hf
        refine z_if_ne_f B 61 rfl 121 (by decide) hc ?_
        refine z_aload_n B 62 rfl 0 1 rfl rfl ?_
        refine z_getr 7 22 0 B 63 rfl ob_0 rfl (iX7_readResource _ (List.mem_of_getElem? (i := 4) rfl)) rfl ?_
        refine z_iconst 4 B 64 rfl (by decide) ?_
        obtain ⟨hx, hf⟩ := rdc_e hf
        refine z_iald B 65 rfl ob_13 hx ?_
        obtain ⟨v22, ex, hf⟩ := nm_x hf
        refine z_top ex ?_
        by_cases hc : v22 = 0
        · replace hf := (if_pos hc).symm.trans hf
          refine z_if_ne_f B 66 rfl 121 (by decide) hc ?_
          refine z_aload_n B 67 rfl 0 1 rfl rfl ?_
          refine z_getr 7 22 0 B 68 rfl ob_0 rfl (iX7_readResource _ (List.mem_of_getElem? (i := 4) rfl)) rfl ?_
          refine z_iconst 5 B 69 rfl (by decide) ?_
          obtain ⟨hx, hf⟩ := rdc_e hf
          refine z_iald B 70 rfl ob_13 hx ?_
          obtain ⟨v23, ex, hf⟩ := nm_x hf
          refine z_top ex ?_
          by_cases hc : v23 = 0
          · replace hf := (if_pos hc).symm.trans hf
            refine z_if_eq_t B 71 rfl 138 (by decide) hc ?_
            refine z_sub [(0, .ref 0), (2, .long r18.1)] [1, 0] rfl ?_
            exact f7_readResource_j138_ok hj X B hQ hr ih _ _ hf
          · replace hf := (if_neg hc).symm.trans hf
            refine z_if_eq_f B 71 rfl 138 (by decide) hc ?_
            refine z_sub [(0, .ref 0), (2, .long r18.1)] [1, 0] rfl ?_
            exact f7_readResource_j121_ok hj X B hQ hr ih _ _ hf
        · replace hf := (if_neg hc).symm.trans hf
          refine z_if_ne_t B 66 rfl 121 (by decide) hc ?_
          refine z_sub [(0, .ref 0), (2, .long r18.1)] [1, 0] rfl ?_
          exact f7_readResource_j121_ok hj X B hQ hr ih _ _ hf
      · replace hf := (if_neg hc).symm.trans hf
        refine z_if_ne_t B 61 rfl 121 (by decide) hc ?_
        refine z_sub [(0, .ref 0), (2, .long r18.1)] [1, 0] rfl ?_
        exact f7_readResource_j121_ok hj X B hQ hr ih _ _ hf
def f7_readResource (mm : Mem) (a1 : Int32) : Option (Int32 × Mem) := rdc 1 (1 : Int32) (nm (mm 1 (1 : Int32).toNatClampNeg) (fun v1 => if v1 = (12 : Int32) then bd (f7_fails mm (3 : Int32) a1) (fun r24 => bok r24.1 (some (r24.1, r24.2))) else rdc 1 (0 : Int32) (nm (mm 1 (0 : Int32).toNatClampNeg) (fun v2 => bd (f7_number mm (0 : Int32) (0 : Int32) (v2 - (1 : Int32))) (fun r3 => if r3.1 = 0 then some ((0 : Int32), r3.2) else bd (f7_number r3.2 (1 : Int32) (1 : Int32) (500 : Int32)) (fun r4 => if r4.1 = 0 then some ((0 : Int32), r4.2) else bd (f7_number r4.2 (2 : Int32) (0 : Int32) (3 : Int32)) (fun r5 => if r5.1 = 0 then some ((0 : Int32), r5.2) else bd (f7_number r5.2 (3 : Int32) (0 : Int32) (5 : Int32)) (fun r6 => if r6.1 = 0 then some ((0 : Int32), r6.2) else rdc 13 (4 : Int32) (nm (up2 r6.2 13 (4 : Int32).toNatClampNeg (0 : Int32)) (fun m7 => rdc 13 (5 : Int32) (nm (up2 m7 13 (5 : Int32).toNatClampNeg (0 : Int32)) (fun m8 => f7_readResource_l83 FU m8))))))))))))
theorem ctX7_readResource {l : Launch} {C : Cfg} (hj : Dj C) {mm : Mem} {a1 : Int32} {x : (Int32 × Mem)} (hf : f7_readResource mm a1 = some x) : Ct l C yX7_readResource cX7_readResource 5 (some .boolean) 3 65 [.ref 0, .int a1] mm (some (.int x.1)) x.2 := by
  refine Ct.of (tb := tbX7_readResource) hj miX7_readResource.2.1 miX7_readResource.1 dtX7_readResource (Nat.le_of_ble_eq_true rfl) ?_
  intro E B hQ hr X
  unfold f7_readResource at hf
  show G E 5 0 [(0, .ref 0), (1, .int a1)] [] mm
  refine z_aload_n B 0 rfl 0 0 rfl rfl ?_
  refine z_getr 7 1 0 B 1 rfl ob_0 rfl (iX7_readResource _ (List.mem_of_getElem? (i := 0) rfl)) rfl ?_
  refine z_iconst 1 B 2 rfl (by decide) ?_
  obtain ⟨hx, hf⟩ := rdc_e hf
  refine z_iald B 3 rfl ob_1 hx ?_
  obtain ⟨v1, ex, hf⟩ := nm_x hf
  refine z_top ex ?_
  refine z_bipush 12 B 4 rfl (by decide) ?_
  by_cases hc : v1 = (12 : Int32)
  · replace hf := (if_pos hc).symm.trans hf
    refine z_icmp_ne_f B 5 rfl 18 (by decide) hc ?_
    refine z_aload_n B 6 rfl 0 0 rfl rfl ?_
    refine z_iconst 3 B 7 rfl (by decide) ?_
    refine z_iload_n B 8 rfl 1 1 rfl rfl ?_
    obtain ⟨r24, ec, hf⟩ := bd_e hf
    refine z_callV 0 7 [.int (3 : Int32), .int a1] [] [.int r24.1] X B 9 rfl ob_0 rfl rfl miX7_fails ⟨(iX7_readResource _ (List.mem_of_getElem? (i := 20) rfl)), (iX7_readResource _ (List.mem_of_getElem? (i := 21) rfl)), (iX7_readResource _ (List.mem_of_getElem? (i := 22) rfl))⟩ (ctX7_fails hj ec) ⟨Nat.le_of_ble_eq_true rfl, Nat.le_of_ble_eq_true rfl⟩ rfl rfl (Nat.le_of_ble_eq_true rfl) rfl ?_
    obtain ⟨hb, hf⟩ := bok_e hf
    cases hf
    exact z_iret B 10 rfl (bok_n hb) hQ hr
  · replace hf := (if_neg hc).symm.trans hf
    refine z_icmp_ne_t B 5 rfl 18 (by decide) hc ?_
    refine z_aload_n B 11 rfl 0 0 rfl rfl ?_
    refine z_iconst 0 B 12 rfl (by decide) ?_
    refine z_iconst 0 B 13 rfl (by decide) ?_
    refine z_aload_n B 14 rfl 0 0 rfl rfl ?_
    refine z_getr 7 1 0 B 15 rfl ob_0 rfl (iX7_readResource _ (List.mem_of_getElem? (i := 0) rfl)) rfl ?_
    refine z_iconst 0 B 16 rfl (by decide) ?_
    obtain ⟨hx, hf⟩ := rdc_e hf
    refine z_iald B 17 rfl ob_1 hx ?_
    obtain ⟨v2, ex, hf⟩ := nm_x hf
    refine z_top ex ?_
    refine z_iconst 1 B 18 rfl (by decide) ?_
    refine z_isub B 19 rfl ?_
    obtain ⟨r3, ec, hf⟩ := bd_e hf
    refine z_callV 0 7 [.int (0 : Int32), .int (0 : Int32), .int (v2 - (1 : Int32))] [] [.int r3.1] X B 20 rfl ob_0 rfl rfl miX7_number ⟨(iX7_readResource _ (List.mem_of_getElem? (i := 1) rfl)), (iX7_readResource _ (List.mem_of_getElem? (i := 2) rfl)), (iX7_readResource _ (List.mem_of_getElem? (i := 3) rfl))⟩ (ctX7_number hj ec) ⟨Nat.le_of_ble_eq_true rfl, Nat.le_of_ble_eq_true rfl⟩ rfl rfl (Nat.le_of_ble_eq_true rfl) rfl ?_
    by_cases hc : r3.1 = 0
    · replace hf := (if_pos hc).symm.trans hf
      refine z_if_eq_t B 21 rfl 67 (by decide) hc ?_
      refine z_iconst 0 B 40 rfl (by decide) ?_
      cases hf
      exact z_iret B 41 rfl (by decide) hQ hr
    · replace hf := (if_neg hc).symm.trans hf
      refine z_if_eq_f B 21 rfl 67 (by decide) hc ?_
      refine z_aload_n B 22 rfl 0 0 rfl rfl ?_
      refine z_iconst 1 B 23 rfl (by decide) ?_
      refine z_iconst 1 B 24 rfl (by decide) ?_
      refine z_sipush 500 B 25 rfl (by decide) ?_
      obtain ⟨r4, ec, hf⟩ := bd_e hf
      refine z_callV 0 7 [.int (1 : Int32), .int (1 : Int32), .int (500 : Int32)] [] [.int r4.1] X B 26 rfl ob_0 rfl rfl miX7_number ⟨(iX7_readResource _ (List.mem_of_getElem? (i := 1) rfl)), (iX7_readResource _ (List.mem_of_getElem? (i := 2) rfl)), (iX7_readResource _ (List.mem_of_getElem? (i := 3) rfl))⟩ (ctX7_number hj ec) ⟨Nat.le_of_ble_eq_true rfl, Nat.le_of_ble_eq_true rfl⟩ rfl rfl (Nat.le_of_ble_eq_true rfl) rfl ?_
      by_cases hc : r4.1 = 0
      · replace hf := (if_pos hc).symm.trans hf
        refine z_if_eq_t B 27 rfl 67 (by decide) hc ?_
        refine z_iconst 0 B 40 rfl (by decide) ?_
        cases hf
        exact z_iret B 41 rfl (by decide) hQ hr
      · replace hf := (if_neg hc).symm.trans hf
        refine z_if_eq_f B 27 rfl 67 (by decide) hc ?_
        refine z_aload_n B 28 rfl 0 0 rfl rfl ?_
        refine z_iconst 2 B 29 rfl (by decide) ?_
        refine z_iconst 0 B 30 rfl (by decide) ?_
        refine z_iconst 3 B 31 rfl (by decide) ?_
        obtain ⟨r5, ec, hf⟩ := bd_e hf
        refine z_callV 0 7 [.int (2 : Int32), .int (0 : Int32), .int (3 : Int32)] [] [.int r5.1] X B 32 rfl ob_0 rfl rfl miX7_number ⟨(iX7_readResource _ (List.mem_of_getElem? (i := 1) rfl)), (iX7_readResource _ (List.mem_of_getElem? (i := 2) rfl)), (iX7_readResource _ (List.mem_of_getElem? (i := 3) rfl))⟩ (ctX7_number hj ec) ⟨Nat.le_of_ble_eq_true rfl, Nat.le_of_ble_eq_true rfl⟩ rfl rfl (Nat.le_of_ble_eq_true rfl) rfl ?_
        by_cases hc : r5.1 = 0
        · replace hf := (if_pos hc).symm.trans hf
          refine z_if_eq_t B 33 rfl 67 (by decide) hc ?_
          refine z_iconst 0 B 40 rfl (by decide) ?_
          cases hf
          exact z_iret B 41 rfl (by decide) hQ hr
        · replace hf := (if_neg hc).symm.trans hf
          refine z_if_eq_f B 33 rfl 67 (by decide) hc ?_
          refine z_aload_n B 34 rfl 0 0 rfl rfl ?_
          refine z_iconst 3 B 35 rfl (by decide) ?_
          refine z_iconst 0 B 36 rfl (by decide) ?_
          refine z_iconst 5 B 37 rfl (by decide) ?_
          obtain ⟨r6, ec, hf⟩ := bd_e hf
          refine z_callV 0 7 [.int (3 : Int32), .int (0 : Int32), .int (5 : Int32)] [] [.int r6.1] X B 38 rfl ob_0 rfl rfl miX7_number ⟨(iX7_readResource _ (List.mem_of_getElem? (i := 1) rfl)), (iX7_readResource _ (List.mem_of_getElem? (i := 2) rfl)), (iX7_readResource _ (List.mem_of_getElem? (i := 3) rfl))⟩ (ctX7_number hj ec) ⟨Nat.le_of_ble_eq_true rfl, Nat.le_of_ble_eq_true rfl⟩ rfl rfl (Nat.le_of_ble_eq_true rfl) rfl ?_
          by_cases hc : r6.1 = 0
          · replace hf := (if_pos hc).symm.trans hf
            refine z_if_ne_f B 39 rfl 69 (by decide) hc ?_
            refine z_iconst 0 B 40 rfl (by decide) ?_
            cases hf
            exact z_iret B 41 rfl (by decide) hQ hr
          · replace hf := (if_neg hc).symm.trans hf
            refine z_if_ne_t B 39 rfl 69 (by decide) hc ?_
            refine z_aload_n B 42 rfl 0 0 rfl rfl ?_
            refine z_getr 7 22 0 B 43 rfl ob_0 rfl (iX7_readResource _ (List.mem_of_getElem? (i := 4) rfl)) rfl ?_
            refine z_iconst 4 B 44 rfl (by decide) ?_
            refine z_iconst 0 B 45 rfl (by decide) ?_
            obtain ⟨hx, hf⟩ := rdc_e hf
            refine z_iast B 46 rfl ob_13 hx ?_
            obtain ⟨m7, ex, hf⟩ := nm_x hf
            refine z_mem ex ?_
            refine z_aload_n B 47 rfl 0 0 rfl rfl ?_
            refine z_getr 7 22 0 B 48 rfl ob_0 rfl (iX7_readResource _ (List.mem_of_getElem? (i := 4) rfl)) rfl ?_
            refine z_iconst 5 B 49 rfl (by decide) ?_
            refine z_iconst 0 B 50 rfl (by decide) ?_
            obtain ⟨hx, hf⟩ := rdc_e hf
            refine z_iast B 51 rfl ob_13 hx ?_
            obtain ⟨m8, ex, hf⟩ := nm_x hf
            refine z_mem ex ?_
            refine z_sub [(0, .ref 0)] [0] rfl ?_
            exact f7_readResource_l83_ok hj X B hQ hr FU _ hf
/-! ZoneCapacityModel.readOffer(I)Z -/
def tbX7_readOffer : Tb := [(0, .aload_n 0, 1, 1), (1, .iconst 0, 1, 2), (2, .iconst 0, 1, 3), (3, .aload_n 0, 1, 4), (4, .getfield 7, 3, 7), (7, .iconst 1, 1, 8), (8, .iaload, 1, 9), (9, .iconst 1, 1, 10), (10, .isub, 1, 11), (11, .invokevirtual 213, 3, 14), (14, .ifCond .ne 5, 3, 17), (17, .iconst 0, 1, 18), (18, .ireturn, 1, 19), (19, .aload_n 0, 1, 20), (20, .getfield 47, 3, 23), (23, .iconst 0, 1, 24), (24, .iaload, 1, 25), (25, .istore_n 2, 1, 26), (26, .aload_n 0, 1, 27), (27, .getfield 7, 3, 30), (30, .bipush 79, 2, 32), (32, .bipush 13, 2, 34), (34, .iload_n 2, 1, 35), (35, .imul, 1, 36), (36, .iadd, 1, 37), (37, .bipush 6, 2, 39), (39, .iadd, 1, 40), (40, .iconst 0, 1, 41), (41, .iastore, 1, 42), (42, .aload_n 0, 1, 43), (43, .invokevirtual 194, 3, 46), (46, .ifCond .eq 98, 3, 49), (49, .aload_n 0, 1, 50), (50, .iload_n 2, 1, 51), (51, .bipush 6, 2, 53), (53, .invokevirtual 75, 3, 56), (56, .istore_n 3, 1, 57), (57, .iload_n 3, 1, 58), (58, .iconst 3, 1, 59), (59, .if_icmp .ne 13, 3, 62), (62, .aload_n 0, 1, 63), (63, .iconst 3, 1, 64), (64, .aload_n 0, 1, 65), (65, .getfield 184, 3, 68), (68, .invokevirtual 198, 3, 71), (71, .ireturn, 1, 72), (72, .aload_n 0, 1, 73), (73, .iconst 1, 1, 74), (74, .iconst 1, 1, 75), (75, .sipush 500, 3, 78), (78, .invokevirtual 213, 3, 81), (81, .ifCond .eq 41, 3, 84), (84, .aload_n 0, 1, 85), (85, .iconst 2, 1, 86), (86, .iload_n 3, 1, 87), (87, .ifCond .ne 7, 3, 90), (90, .iconst 0, 1, 91), (91, .goto 22, 3, 94), (94, .aload_n 0, 1, 95), (95, .getfield 7, 3, 98), (98, .bipush 79, 2, 100), (100, .bipush 13, 2, 102), (102, .iload_n 2, 1, 103), (103, .imul, 1, 104), (104, .iadd, 1, 105), (105, .bipush 6, 2, 107), (107, .iadd, 1, 108), (108, .iconst 2, 1, 109), (109, .iload_n 3, 1, 110), (110, .imul, 1, 111), (111, .iadd, 1, 112), (112, .iaload, 1, 113), (113, .sipush 9999, 3, 116), (116, .invokevirtual 213, 3, 119), (119, .ifCond .ne 5, 3, 122), (122, .iconst 0, 1, 123), (123, .ireturn, 1, 124), (124, .aload_n 0, 1, 125), (125, .iload_n 2, 1, 126), (126, .aload_n 0, 1, 127), (127, .getfield 47, 3, 130), (130, .iconst 1, 1, 131), (131, .iaload, 1, 132), (132, .aload_n 0, 1, 133), (133, .getfield 47, 3, 136), (136, .iconst 2, 1, 137), (137, .iaload, 1, 138), (138, .invokevirtual 141, 3, 141), (141, .goto (-99), 3, 144), (144, .aload_n 0, 1, 145), (145, .invokevirtual 216, 3, 148), (148, .ifCond .eq 30, 3, 151), (151, .aload_n 0, 1, 152), (152, .iload_n 2, 1, 153), (153, .invokevirtual 138, 3, 156), (156, .aload_n 0, 1, 157), (157, .iload_n 2, 1, 158), (158, .iconst 1, 1, 159), (159, .invokevirtual 75, 3, 162), (162, .if_icmp .le 12, 3, 165), (165, .aload_n 0, 1, 166), (166, .iconst 4, 1, 167), (167, .iload_n 1, 1, 168), (168, .invokevirtual 198, 3, 171), (171, .ifCond .eq 7, 3, 174), (174, .iconst 1, 1, 175), (175, .goto 4, 3, 178), (178, .iconst 0, 1, 179), (179, .ireturn, 1, 180)]
theorem dtX7_readOffer : ∀ q ∈ tbX7_readOffer, decode cX7_readOffer q.1 = .ok (q.2.1, q.2.2.1) ∧ q.1 + q.2.2.1 = q.2.2.2 := by decide +kernel
theorem miX7_readOffer : MI yX7_readOffer cX7_readOffer 4 (some .boolean) 1 := ⟨tw_mem (List.mem_of_getElem? (i := 1342) (by decide +kernel)) rfl, by decide, by decide +kernel, tw_mem (List.mem_of_getElem? (i := 78) (by decide +kernel)) rfl⟩
abbrev rmX7_readOffer : Room := { frames := 3, cells := 0, slots := 0, locals := 70 }
def wX7_readOffer : List Cond := [.fieldLink "ZoneCapacityModel" 7 "ZoneCapacityModel" "w" "[I", .methodLink "ZoneCapacityModel" 213 yX7_number, .instanceMethod yX7_number, .selects "ZoneCapacityModel" yX7_number yX7_number, .fieldLink "ZoneCapacityModel" 47 "ZoneCapacityModel" "told" "[I", .methodLink "ZoneCapacityModel" 194 yX7_isDigit, .instanceMethod yX7_isDigit, .selects "ZoneCapacityModel" yX7_isDigit yX7_isDigit, .methodLink "ZoneCapacityModel" 216 yX7_ends, .instanceMethod yX7_ends, .selects "ZoneCapacityModel" yX7_ends yX7_ends, .methodLink "ZoneCapacityModel" 138 yX7_stepped, .instanceMethod yX7_stepped, .selects "ZoneCapacityModel" yX7_stepped yX7_stepped, .methodLink "ZoneCapacityModel" 75 yX7_ofResource, .instanceMethod yX7_ofResource, .selects "ZoneCapacityModel" yX7_ofResource yX7_ofResource, .methodLink "ZoneCapacityModel" 198 yX7_fails, .instanceMethod yX7_fails, .selects "ZoneCapacityModel" yX7_fails yX7_fails, .methodLink "ZoneCapacityModel" 141 yX7_addStep, .instanceMethod yX7_addStep, .selects "ZoneCapacityModel" yX7_addStep yX7_addStep, .fieldLink "ZoneCapacityModel" 184 "ZoneCapacityModel" "at" "I"]
theorem iX7_readOffer : ∀ w ∈ wX7_readOffer, w ∈ TW := tw_of (ids := [939, 1313, 1315, 63, 960, 1317, 1319, 64, 1321, 1323, 65, 1071, 1073, 34, 1067, 1069, 33, 1297, 1299, 60, 1079, 1081, 36, 955]) (by decide +kernel)
def f7_readOffer_j174 (mm : Mem) : Option (Int32 × Mem) := some ((1 : Int32), mm)
theorem f7_readOffer_j174_ok {E : Ev} {l : Launch} {C : Cfg} {x : (Int32 × Mem)} (hj : Dj C) (X : Ec E l C rmX7_readOffer) (B : Bx E RX7 tbX7_readOffer 4 (some .boolean)) (hQ : Rt E) (hr : Rs E (some (.int x.1)) x.2) (mm : Mem) (hf : f7_readOffer_j174 mm = some x) : G E 4 174 [] [] mm := by
  unfold f7_readOffer_j174 at hf
  refine z_iconst 1 B 105 rfl (by decide) ?_
  refine z_goto B 106 rfl 179 (by decide) ?_
  cases hf
  exact z_iret B 108 rfl (by decide) hQ hr
def f7_readOffer_j113 (k42 : Int32 → Int32 → Mem → Option (Int32 × Mem)) (x1 : Int32) (x2 : Int32) (s0 : Int32) (s1 : Int32) (mm : Mem) : Option (Int32 × Mem) := bd (f7_number mm s1 s0 (9999 : Int32)) (fun r13 => if r13.1 = 0 then some ((0 : Int32), r13.2) else rdc 13 (1 : Int32) (nm (r13.2 13 (1 : Int32).toNatClampNeg) (fun v14 => rdc 13 (2 : Int32) (nm (r13.2 13 (2 : Int32).toNatClampNeg) (fun v15 => bd (f7_addStep r13.2 x2 v14 v15) (fun r16 => k42 x1 x2 r16))))))
theorem f7_readOffer_j113_ok {E : Ev} {l : Launch} {C : Cfg} {x : (Int32 × Mem)} {k42 : Int32 → Int32 → Mem → Option (Int32 × Mem)} (hj : Dj C) (X : Ec E l C rmX7_readOffer) (B : Bx E RX7 tbX7_readOffer 4 (some .boolean)) (hQ : Rt E) (hr : Rs E (some (.int x.1)) x.2) (hk42 : ∀ (x1 : Int32) (x2 : Int32) (mm : Mem), k42 x1 x2 mm = some x → G E 4 42 [(0, .ref 0), (1, .int x1), (2, .int x2)] [] mm) (x1 : Int32) (x2 : Int32) (s0 : Int32) (s1 : Int32) (mm : Mem) (hf : f7_readOffer_j113 k42 x1 x2 s0 s1 mm = some x) : G E 4 113 [(0, .ref 0), (1, .int x1), (2, .int x2)] [.int s0, .int s1, .ref 0] mm := by
  unfold f7_readOffer_j113 at hf
  refine z_sipush 9999 B 72 rfl (by decide) ?_
  obtain ⟨r13, ec, hf⟩ := bd_e hf
  refine z_callV 0 7 [.int s1, .int s0, .int (9999 : Int32)] [] [.int r13.1] X B 73 rfl ob_0 rfl rfl miX7_number ⟨(iX7_readOffer _ (List.mem_of_getElem? (i := 1) rfl)), (iX7_readOffer _ (List.mem_of_getElem? (i := 2) rfl)), (iX7_readOffer _ (List.mem_of_getElem? (i := 3) rfl))⟩ (ctX7_number hj ec) ⟨Nat.le_of_ble_eq_true rfl, Nat.le_of_ble_eq_true rfl⟩ rfl rfl (Nat.le_of_ble_eq_true rfl) rfl ?_
  by_cases hc : r13.1 = 0
  · replace hf := (if_pos hc).symm.trans hf
    refine z_if_ne_f B 74 rfl 124 (by decide) hc ?_
    refine z_iconst 0 B 75 rfl (by decide) ?_
    cases hf
    exact z_iret B 76 rfl (by decide) hQ hr
  · replace hf := (if_neg hc).symm.trans hf
    refine z_if_ne_t B 74 rfl 124 (by decide) hc ?_
    refine z_aload_n B 77 rfl 0 0 rfl rfl ?_
    refine z_iload_n B 78 rfl 2 2 rfl rfl ?_
    refine z_aload_n B 79 rfl 0 0 rfl rfl ?_
    refine z_getr 7 22 0 B 80 rfl ob_0 rfl (iX7_readOffer _ (List.mem_of_getElem? (i := 4) rfl)) rfl ?_
    refine z_iconst 1 B 81 rfl (by decide) ?_
    obtain ⟨hx, hf⟩ := rdc_e hf
    refine z_iald B 82 rfl ob_13 hx ?_
    obtain ⟨v14, ex, hf⟩ := nm_x hf
    refine z_top ex ?_
    refine z_aload_n B 83 rfl 0 0 rfl rfl ?_
    refine z_getr 7 22 0 B 84 rfl ob_0 rfl (iX7_readOffer _ (List.mem_of_getElem? (i := 4) rfl)) rfl ?_
    refine z_iconst 2 B 85 rfl (by decide) ?_
    obtain ⟨hx, hf⟩ := rdc_e hf
    refine z_iald B 86 rfl ob_13 hx ?_
    obtain ⟨v15, ex, hf⟩ := nm_x hf
    refine z_top ex ?_
    obtain ⟨r16, ec, hf⟩ := bd_e hf
    refine z_callV 0 7 [.int x2, .int v14, .int v15] [] [] X B 87 rfl ob_0 rfl rfl miX7_addStep ⟨(iX7_readOffer _ (List.mem_of_getElem? (i := 20) rfl)), (iX7_readOffer _ (List.mem_of_getElem? (i := 21) rfl)), (iX7_readOffer _ (List.mem_of_getElem? (i := 22) rfl))⟩ (ctX7_addStep hj ec) ⟨Nat.le_of_ble_eq_true rfl, Nat.le_of_ble_eq_true rfl⟩ rfl rfl (Nat.le_of_ble_eq_true rfl) rfl ?_
    refine z_goto B 88 rfl 42 (by decide) ?_
    exact hk42 _ _ _ hf
def f7_readOffer_l42 : Nat → Int32 → Int32 → Mem → Option (Int32 × Mem)
  | 0, _, _, _ => none
  | n + 1, x1, x2, mm => bd (f7_isDigit mm) (fun r5 => if r5.1 = 0 then bd (f7_ends r5.2) (fun r6 => if r6.1 = 0 then some ((0 : Int32), r6.2) else bd (f7_stepped r6.2 x2) (fun r7 => bd (f7_ofResource r6.2 x2 (1 : Int32)) (fun r8 => if r8 < r7 then bd (f7_fails r6.2 (4 : Int32) x1) (fun r9 => if r9.1 = 0 then some ((0 : Int32), r9.2) else f7_readOffer_j174 r9.2) else f7_readOffer_j174 r6.2))) else bd (f7_ofResource r5.2 x2 (6 : Int32)) (fun r10 => if r10 = (3 : Int32) then bd (f7_fails r5.2 (3 : Int32) (r5.2 0 17)) (fun r17 => bok r17.1 (some (r17.1, r17.2))) else bd (f7_number r5.2 (1 : Int32) (1 : Int32) (500 : Int32)) (fun r11 => if r11.1 = 0 then some ((0 : Int32), r11.2) else if r10 = 0 then f7_readOffer_j113 (fun x1 x2 mm => f7_readOffer_l42 n x1 x2 mm) x1 x2 (0 : Int32) (2 : Int32) r11.2 else rdc 1 ((((79 : Int32) + ((13 : Int32) * x2)) + (6 : Int32)) + ((2 : Int32) * r10)) (nm (r11.2 1 ((((79 : Int32) + ((13 : Int32) * x2)) + (6 : Int32)) + ((2 : Int32) * r10)).toNatClampNeg) (fun v12 => f7_readOffer_j113 (fun x1 x2 mm => f7_readOffer_l42 n x1 x2 mm) x1 x2 v12 (2 : Int32) r11.2)))))
theorem f7_readOffer_l42_ok {E : Ev} {l : Launch} {C : Cfg} {x : (Int32 × Mem)} (hj : Dj C) (X : Ec E l C rmX7_readOffer) (B : Bx E RX7 tbX7_readOffer 4 (some .boolean)) (hQ : Rt E) (hr : Rs E (some (.int x.1)) x.2) (n : Nat) : ∀ (x1 : Int32) (x2 : Int32) (mm : Mem), f7_readOffer_l42 n x1 x2 mm = some x → G E 4 42 [(0, .ref 0), (1, .int x1), (2, .int x2)] [] mm := by
  induction n with
  | zero =>
    intro x1 x2 mm hf
    rw [f7_readOffer_l42] at hf
    cases hf
  | succ n ih =>
    intro x1 x2 mm hf
    rw [f7_readOffer_l42] at hf
    refine z_aload_n B 29 rfl 0 0 rfl rfl ?_
    obtain ⟨r5, ec, hf⟩ := bd_e hf
    refine z_callV 0 7 [] [] [.int r5.1] X B 30 rfl ob_0 rfl rfl miX7_isDigit ⟨(iX7_readOffer _ (List.mem_of_getElem? (i := 5) rfl)), (iX7_readOffer _ (List.mem_of_getElem? (i := 6) rfl)), (iX7_readOffer _ (List.mem_of_getElem? (i := 7) rfl))⟩ (ctX7_isDigit hj ec) ⟨Nat.le_of_ble_eq_true rfl, Nat.le_of_ble_eq_true rfl⟩ rfl rfl (Nat.le_of_ble_eq_true rfl) rfl ?_
    by_cases hc : r5.1 = 0
    · replace hf := (if_pos hc).symm.trans hf
      refine z_if_eq_t B 31 rfl 144 (by decide) hc ?_
      refine z_aload_n B 89 rfl 0 0 rfl rfl ?_
      obtain ⟨r6, ec, hf⟩ := bd_e hf
      refine z_callV 0 7 [] [] [.int r6.1] X B 90 rfl ob_0 rfl rfl miX7_ends ⟨(iX7_readOffer _ (List.mem_of_getElem? (i := 8) rfl)), (iX7_readOffer _ (List.mem_of_getElem? (i := 9) rfl)), (iX7_readOffer _ (List.mem_of_getElem? (i := 10) rfl))⟩ (ctX7_ends hj ec) ⟨Nat.le_of_ble_eq_true rfl, Nat.le_of_ble_eq_true rfl⟩ rfl rfl (Nat.le_of_ble_eq_true rfl) rfl ?_
      by_cases hc : r6.1 = 0
      · replace hf := (if_pos hc).symm.trans hf
        refine z_if_eq_t B 91 rfl 178 (by decide) hc ?_
        refine z_iconst 0 B 107 rfl (by decide) ?_
        cases hf
        exact z_iret B 108 rfl (by decide) hQ hr
      · replace hf := (if_neg hc).symm.trans hf
        refine z_if_eq_f B 91 rfl 178 (by decide) hc ?_
        refine z_aload_n B 92 rfl 0 0 rfl rfl ?_
        refine z_iload_n B 93 rfl 2 2 rfl rfl ?_
        obtain ⟨r7, ec, hf⟩ := bd_e hf
        refine z_callV 0 7 [.int x2] [] [.int r7] X B 94 rfl ob_0 rfl rfl miX7_stepped ⟨(iX7_readOffer _ (List.mem_of_getElem? (i := 11) rfl)), (iX7_readOffer _ (List.mem_of_getElem? (i := 12) rfl)), (iX7_readOffer _ (List.mem_of_getElem? (i := 13) rfl))⟩ (ctX7_stepped hj ec) ⟨Nat.le_of_ble_eq_true rfl, Nat.le_of_ble_eq_true rfl⟩ rfl rfl (Nat.le_of_ble_eq_true rfl) rfl ?_
        refine z_aload_n B 95 rfl 0 0 rfl rfl ?_
        refine z_iload_n B 96 rfl 2 2 rfl rfl ?_
        refine z_iconst 1 B 97 rfl (by decide) ?_
        obtain ⟨r8, ec, hf⟩ := bd_e hf
        refine z_callV 0 7 [.int x2, .int (1 : Int32)] [.int r7] [.int r8, .int r7] X B 98 rfl ob_0 rfl rfl miX7_ofResource ⟨(iX7_readOffer _ (List.mem_of_getElem? (i := 14) rfl)), (iX7_readOffer _ (List.mem_of_getElem? (i := 15) rfl)), (iX7_readOffer _ (List.mem_of_getElem? (i := 16) rfl))⟩ (ctX7_ofResource hj ec) ⟨Nat.le_of_ble_eq_true rfl, Nat.le_of_ble_eq_true rfl⟩ rfl rfl (Nat.le_of_ble_eq_true rfl) rfl ?_
        by_cases hc : r8 < r7
        · replace hf := (if_pos hc).symm.trans hf
          refine z_icmp_le_f B 99 rfl 174 (by decide) hc ?_
          refine z_aload_n B 100 rfl 0 0 rfl rfl ?_
          refine z_iconst 4 B 101 rfl (by decide) ?_
          refine z_iload_n B 102 rfl 1 1 rfl rfl ?_
          obtain ⟨r9, ec, hf⟩ := bd_e hf
          refine z_callV 0 7 [.int (4 : Int32), .int x1] [] [.int r9.1] X B 103 rfl ob_0 rfl rfl miX7_fails ⟨(iX7_readOffer _ (List.mem_of_getElem? (i := 17) rfl)), (iX7_readOffer _ (List.mem_of_getElem? (i := 18) rfl)), (iX7_readOffer _ (List.mem_of_getElem? (i := 19) rfl))⟩ (ctX7_fails hj ec) ⟨Nat.le_of_ble_eq_true rfl, Nat.le_of_ble_eq_true rfl⟩ rfl rfl (Nat.le_of_ble_eq_true rfl) rfl ?_
          by_cases hc : r9.1 = 0
          · replace hf := (if_pos hc).symm.trans hf
            refine z_if_eq_t B 104 rfl 178 (by decide) hc ?_
            refine z_iconst 0 B 107 rfl (by decide) ?_
            cases hf
            exact z_iret B 108 rfl (by decide) hQ hr
          · replace hf := (if_neg hc).symm.trans hf
            refine z_if_eq_f B 104 rfl 178 (by decide) hc ?_
            refine z_sub [] [] rfl ?_
            exact f7_readOffer_j174_ok hj X B hQ hr _ hf
        · replace hf := (if_neg hc).symm.trans hf
          refine z_icmp_le_t B 99 rfl 174 (by decide) hc ?_
          refine z_sub [] [] rfl ?_
          exact f7_readOffer_j174_ok hj X B hQ hr _ hf
    · replace hf := (if_neg hc).symm.trans hf
      refine z_if_eq_f B 31 rfl 144 (by decide) hc ?_
      refine z_aload_n B 32 rfl 0 0 rfl rfl ?_
      refine z_iload_n B 33 rfl 2 2 rfl rfl ?_
      refine z_bipush 6 B 34 rfl (by decide) ?_
      obtain ⟨r10, ec, hf⟩ := bd_e hf
      refine z_callV 0 7 [.int x2, .int (6 : Int32)] [] [.int r10] X B 35 rfl ob_0 rfl rfl miX7_ofResource ⟨(iX7_readOffer _ (List.mem_of_getElem? (i := 14) rfl)), (iX7_readOffer _ (List.mem_of_getElem? (i := 15) rfl)), (iX7_readOffer _ (List.mem_of_getElem? (i := 16) rfl))⟩ (ctX7_ofResource hj ec) ⟨Nat.le_of_ble_eq_true rfl, Nat.le_of_ble_eq_true rfl⟩ rfl rfl (Nat.le_of_ble_eq_true rfl) rfl ?_
      refine z_istore_n [(3, .int r10), (0, .ref 0), (1, .int x1), (2, .int x2)] B 36 rfl 3 rfl (by decide) rfl ?_
      refine z_iload_n B 37 rfl 3 0 rfl rfl ?_
      refine z_iconst 3 B 38 rfl (by decide) ?_
      by_cases hc : r10 = (3 : Int32)
      · replace hf := (if_pos hc).symm.trans hf
        refine z_icmp_ne_f B 39 rfl 72 (by decide) hc ?_
        refine z_aload_n B 40 rfl 0 1 rfl rfl ?_
        refine z_iconst 3 B 41 rfl (by decide) ?_
        refine z_aload_n B 42 rfl 0 1 rfl rfl ?_
        refine z_geti 7 17 0 B 43 rfl ob_0 rfl (iX7_readOffer _ (List.mem_of_getElem? (i := 23) rfl)) rfl ?_
        obtain ⟨r17, ec, hf⟩ := bd_e hf
        refine z_callV 0 7 [.int (3 : Int32), .int (r5.2 0 17)] [] [.int r17.1] X B 44 rfl ob_0 rfl rfl miX7_fails ⟨(iX7_readOffer _ (List.mem_of_getElem? (i := 17) rfl)), (iX7_readOffer _ (List.mem_of_getElem? (i := 18) rfl)), (iX7_readOffer _ (List.mem_of_getElem? (i := 19) rfl))⟩ (ctX7_fails hj ec) ⟨Nat.le_of_ble_eq_true rfl, Nat.le_of_ble_eq_true rfl⟩ rfl rfl (Nat.le_of_ble_eq_true rfl) rfl ?_
        obtain ⟨hb, hf⟩ := bok_e hf
        cases hf
        exact z_iret B 45 rfl (bok_n hb) hQ hr
      · replace hf := (if_neg hc).symm.trans hf
        refine z_icmp_ne_t B 39 rfl 72 (by decide) hc ?_
        refine z_aload_n B 46 rfl 0 1 rfl rfl ?_
        refine z_iconst 1 B 47 rfl (by decide) ?_
        refine z_iconst 1 B 48 rfl (by decide) ?_
        refine z_sipush 500 B 49 rfl (by decide) ?_
        obtain ⟨r11, ec, hf⟩ := bd_e hf
        refine z_callV 0 7 [.int (1 : Int32), .int (1 : Int32), .int (500 : Int32)] [] [.int r11.1] X B 50 rfl ob_0 rfl rfl miX7_number ⟨(iX7_readOffer _ (List.mem_of_getElem? (i := 1) rfl)), (iX7_readOffer _ (List.mem_of_getElem? (i := 2) rfl)), (iX7_readOffer _ (List.mem_of_getElem? (i := 3) rfl))⟩ (ctX7_number hj ec) ⟨Nat.le_of_ble_eq_true rfl, Nat.le_of_ble_eq_true rfl⟩ rfl rfl (Nat.le_of_ble_eq_true rfl) rfl ?_
        by_cases hc : r11.1 = 0
        · replace hf := (if_pos hc).symm.trans hf
          refine z_if_eq_t B 51 rfl 122 (by decide) hc ?_
          refine z_iconst 0 B 75 rfl (by decide) ?_
          cases hf
          exact z_iret B 76 rfl (by decide) hQ hr
        · replace hf := (if_neg hc).symm.trans hf
          refine z_if_eq_f B 51 rfl 122 (by decide) hc ?_
          refine z_aload_n B 52 rfl 0 1 rfl rfl ?_
          refine z_iconst 2 B 53 rfl (by decide) ?_
          refine z_iload_n B 54 rfl 3 0 rfl rfl ?_
          by_cases hc : r10 = 0
          · replace hf := (if_pos hc).symm.trans hf
            refine z_if_ne_f B 55 rfl 94 (by decide) hc ?_
            refine z_iconst 0 B 56 rfl (by decide) ?_
            refine z_goto B 57 rfl 113 (by decide) ?_
            refine z_sub [(0, .ref 0), (1, .int x1), (2, .int x2)] [1, 2, 3] rfl ?_
            exact f7_readOffer_j113_ok hj X B hQ hr ih _ _ _ _ _ hf
          · replace hf := (if_neg hc).symm.trans hf
            refine z_if_ne_t B 55 rfl 94 (by decide) hc ?_
            refine z_aload_n B 58 rfl 0 1 rfl rfl ?_
            refine z_getr 7 1 0 B 59 rfl ob_0 rfl (iX7_readOffer _ (List.mem_of_getElem? (i := 0) rfl)) rfl ?_
            refine z_bipush 79 B 60 rfl (by decide) ?_
            refine z_bipush 13 B 61 rfl (by decide) ?_
            refine z_iload_n B 62 rfl 2 3 rfl rfl ?_
            refine z_imul B 63 rfl ?_
            refine z_iadd B 64 rfl ?_
            refine z_bipush 6 B 65 rfl (by decide) ?_
            refine z_iadd B 66 rfl ?_
            refine z_iconst 2 B 67 rfl (by decide) ?_
            refine z_iload_n B 68 rfl 3 0 rfl rfl ?_
            refine z_imul B 69 rfl ?_
            refine z_iadd B 70 rfl ?_
            obtain ⟨hx, hf⟩ := rdc_e hf
            refine z_iald B 71 rfl ob_1 hx ?_
            obtain ⟨v12, ex, hf⟩ := nm_x hf
            refine z_top ex ?_
            refine z_sub [(0, .ref 0), (1, .int x1), (2, .int x2)] [1, 2, 3] rfl ?_
            exact f7_readOffer_j113_ok hj X B hQ hr ih _ _ _ _ _ hf
def f7_readOffer (mm : Mem) (a1 : Int32) : Option (Int32 × Mem) := rdc 1 (1 : Int32) (nm (mm 1 (1 : Int32).toNatClampNeg) (fun v1 => bd (f7_number mm (0 : Int32) (0 : Int32) (v1 - (1 : Int32))) (fun r2 => if r2.1 = 0 then some ((0 : Int32), r2.2) else rdc 13 (0 : Int32) (nm (r2.2 13 (0 : Int32).toNatClampNeg) (fun v3 => rdc 1 (((79 : Int32) + ((13 : Int32) * v3)) + (6 : Int32)) (nm (up2 r2.2 1 (((79 : Int32) + ((13 : Int32) * v3)) + (6 : Int32)).toNatClampNeg (0 : Int32)) (fun m4 => f7_readOffer_l42 FU a1 v3 m4)))))))
theorem ctX7_readOffer {l : Launch} {C : Cfg} (hj : Dj C) {mm : Mem} {a1 : Int32} {x : (Int32 × Mem)} (hf : f7_readOffer mm a1 = some x) : Ct l C yX7_readOffer cX7_readOffer 4 (some .boolean) 3 70 [.ref 0, .int a1] mm (some (.int x.1)) x.2 := by
  refine Ct.of (tb := tbX7_readOffer) hj miX7_readOffer.2.1 miX7_readOffer.1 dtX7_readOffer (Nat.le_of_ble_eq_true rfl) ?_
  intro E B hQ hr X
  unfold f7_readOffer at hf
  show G E 4 0 [(0, .ref 0), (1, .int a1)] [] mm
  refine z_aload_n B 0 rfl 0 0 rfl rfl ?_
  refine z_iconst 0 B 1 rfl (by decide) ?_
  refine z_iconst 0 B 2 rfl (by decide) ?_
  refine z_aload_n B 3 rfl 0 0 rfl rfl ?_
  refine z_getr 7 1 0 B 4 rfl ob_0 rfl (iX7_readOffer _ (List.mem_of_getElem? (i := 0) rfl)) rfl ?_
  refine z_iconst 1 B 5 rfl (by decide) ?_
  obtain ⟨hx, hf⟩ := rdc_e hf
  refine z_iald B 6 rfl ob_1 hx ?_
  obtain ⟨v1, ex, hf⟩ := nm_x hf
  refine z_top ex ?_
  refine z_iconst 1 B 7 rfl (by decide) ?_
  refine z_isub B 8 rfl ?_
  obtain ⟨r2, ec, hf⟩ := bd_e hf
  refine z_callV 0 7 [.int (0 : Int32), .int (0 : Int32), .int (v1 - (1 : Int32))] [] [.int r2.1] X B 9 rfl ob_0 rfl rfl miX7_number ⟨(iX7_readOffer _ (List.mem_of_getElem? (i := 1) rfl)), (iX7_readOffer _ (List.mem_of_getElem? (i := 2) rfl)), (iX7_readOffer _ (List.mem_of_getElem? (i := 3) rfl))⟩ (ctX7_number hj ec) ⟨Nat.le_of_ble_eq_true rfl, Nat.le_of_ble_eq_true rfl⟩ rfl rfl (Nat.le_of_ble_eq_true rfl) rfl ?_
  by_cases hc : r2.1 = 0
  · replace hf := (if_pos hc).symm.trans hf
    refine z_if_ne_f B 10 rfl 19 (by decide) hc ?_
    refine z_iconst 0 B 11 rfl (by decide) ?_
    cases hf
    exact z_iret B 12 rfl (by decide) hQ hr
  · replace hf := (if_neg hc).symm.trans hf
    refine z_if_ne_t B 10 rfl 19 (by decide) hc ?_
    refine z_aload_n B 13 rfl 0 0 rfl rfl ?_
    refine z_getr 7 22 0 B 14 rfl ob_0 rfl (iX7_readOffer _ (List.mem_of_getElem? (i := 4) rfl)) rfl ?_
    refine z_iconst 0 B 15 rfl (by decide) ?_
    obtain ⟨hx, hf⟩ := rdc_e hf
    refine z_iald B 16 rfl ob_13 hx ?_
    obtain ⟨v3, ex, hf⟩ := nm_x hf
    refine z_top ex ?_
    refine z_istore_n [(2, .int v3), (0, .ref 0), (1, .int a1)] B 17 rfl 2 rfl (by decide) rfl ?_
    refine z_aload_n B 18 rfl 0 1 rfl rfl ?_
    refine z_getr 7 1 0 B 19 rfl ob_0 rfl (iX7_readOffer _ (List.mem_of_getElem? (i := 0) rfl)) rfl ?_
    refine z_bipush 79 B 20 rfl (by decide) ?_
    refine z_bipush 13 B 21 rfl (by decide) ?_
    refine z_iload_n B 22 rfl 2 0 rfl rfl ?_
    refine z_imul B 23 rfl ?_
    refine z_iadd B 24 rfl ?_
    refine z_bipush 6 B 25 rfl (by decide) ?_
    refine z_iadd B 26 rfl ?_
    refine z_iconst 0 B 27 rfl (by decide) ?_
    obtain ⟨hx, hf⟩ := rdc_e hf
    refine z_iast B 28 rfl ob_1 hx ?_
    obtain ⟨m4, ex, hf⟩ := nm_x hf
    refine z_mem ex ?_
    refine z_sub [(0, .ref 0), (1, .int a1), (2, .int v3)] [1, 2, 0] rfl ?_
    exact f7_readOffer_l42_ok hj X B hQ hr FU _ _ _ hf
/-! ZoneCapacityModel.readSet(III)Z -/
def tbX7_readSet : Tb := [(0, .aload_n 0, 1, 1), (1, .iconst 0, 1, 2), (2, .iload_n 2, 1, 3), (3, .iload_n 3, 1, 4), (4, .invokevirtual 213, 3, 7), (7, .ifCond .eq 39, 3, 10), (10, .aload_n 0, 1, 11), (11, .iconst 1, 1, 12), (12, .iconst 0, 1, 13), (13, .sipush 9999, 3, 16), (16, .invokevirtual 213, 3, 19), (19, .ifCond .eq 27, 3, 22), (22, .iload_n 1, 1, 23), (23, .iconst 2, 1, 24), (24, .if_icmp .ne 15, 3, 27), (27, .aload_n 0, 1, 28), (28, .iconst 2, 1, 29), (29, .iconst 0, 1, 30), (30, .sipush 9999, 3, 33), (33, .invokevirtual 213, 3, 36), (36, .ifCond .eq 10, 3, 39), (39, .aload_n 0, 1, 40), (40, .invokevirtual 216, 3, 43), (43, .ifCond .ne 5, 3, 46), (46, .iconst 0, 1, 47), (47, .ireturn, 1, 48), (48, .aload_n 0, 1, 49), (49, .getfield 7, 3, 52), (52, .aload_n 0, 1, 53), (53, .iload_n 1, 1, 54), (54, .aload_n 0, 1, 55), (55, .getfield 47, 3, 58), (58, .iconst 0, 1, 59), (59, .iaload, 1, 60), (60, .aload_n 0, 1, 61), (61, .getfield 47, 3, 64), (64, .iconst 1, 1, 65), (65, .iaload, 1, 66), (66, .invokevirtual 144, 3, 69), (69, .aload_n 0, 1, 70), (70, .getfield 47, 3, 73), (73, .iconst 1, 1, 74), (74, .iaload, 1, 75), (75, .iastore, 1, 76), (76, .iload_n 1, 1, 77), (77, .iconst 2, 1, 78), (78, .if_icmp .ne 31, 3, 81), (81, .aload_n 0, 1, 82), (82, .getfield 7, 3, 85), (85, .aload_n 0, 1, 86), (86, .iconst 3, 1, 87), (87, .aload_n 0, 1, 88), (88, .getfield 47, 3, 91), (91, .iconst 0, 1, 92), (92, .iaload, 1, 93), (93, .aload_n 0, 1, 94), (94, .getfield 47, 3, 97), (97, .iconst 2, 1, 98), (98, .iaload, 1, 99), (99, .invokevirtual 144, 3, 102), (102, .aload_n 0, 1, 103), (103, .getfield 47, 3, 106), (106, .iconst 2, 1, 107), (107, .iaload, 1, 108), (108, .iastore, 1, 109), (109, .iconst 1, 1, 110), (110, .ireturn, 1, 111)]
theorem dtX7_readSet : ∀ q ∈ tbX7_readSet, decode cX7_readSet q.1 = .ok (q.2.1, q.2.2.1) ∧ q.1 + q.2.2.1 = q.2.2.2 := by decide +kernel
theorem miX7_readSet : MI yX7_readSet cX7_readSet 4 (some .boolean) 3 := ⟨tw_mem (List.mem_of_getElem? (i := 1347) (by decide +kernel)) rfl, by decide, by decide +kernel, tw_mem (List.mem_of_getElem? (i := 78) (by decide +kernel)) rfl⟩
abbrev rmX7_readSet : Room := { frames := 3, cells := 0, slots := 0, locals := 66 }
def wX7_readSet : List Cond := [.methodLink "ZoneCapacityModel" 213 yX7_number, .instanceMethod yX7_number, .selects "ZoneCapacityModel" yX7_number yX7_number, .methodLink "ZoneCapacityModel" 216 yX7_ends, .instanceMethod yX7_ends, .selects "ZoneCapacityModel" yX7_ends yX7_ends, .fieldLink "ZoneCapacityModel" 7 "ZoneCapacityModel" "w" "[I", .fieldLink "ZoneCapacityModel" 47 "ZoneCapacityModel" "told" "[I", .methodLink "ZoneCapacityModel" 144 yX7_placeOf, .instanceMethod yX7_placeOf, .selects "ZoneCapacityModel" yX7_placeOf yX7_placeOf]
theorem iX7_readSet : ∀ w ∈ wX7_readSet, w ∈ TW := tw_of (ids := [1313, 1315, 63, 1321, 1323, 65, 939, 960, 1091, 1093, 37]) (by decide +kernel)
def f7_readSet_j39 (x1 : Int32) (mm : Mem) : Option (Int32 × Mem) := bd (f7_ends mm) (fun r3 => if r3.1 = 0 then some ((0 : Int32), r3.2) else rdc 13 (0 : Int32) (nm (r3.2 13 (0 : Int32).toNatClampNeg) (fun v4 => rdc 13 (1 : Int32) (nm (r3.2 13 (1 : Int32).toNatClampNeg) (fun v5 => bd (f7_placeOf r3.2 x1 v4 v5) (fun r6 => rdc 13 (1 : Int32) (nm (r3.2 13 (1 : Int32).toNatClampNeg) (fun v7 => rdc 1 r6 (nm (up2 r3.2 1 r6.toNatClampNeg v7) (fun m8 => if x1 = (2 : Int32) then rdc 13 (0 : Int32) (nm (m8 13 (0 : Int32).toNatClampNeg) (fun v9 => rdc 13 (2 : Int32) (nm (m8 13 (2 : Int32).toNatClampNeg) (fun v10 => bd (f7_placeOf m8 (3 : Int32) v9 v10) (fun r11 => rdc 13 (2 : Int32) (nm (m8 13 (2 : Int32).toNatClampNeg) (fun v12 => rdc 1 r11 (nm (up2 m8 1 r11.toNatClampNeg v12) (fun m13 => some ((1 : Int32), m13)))))))))) else some ((1 : Int32), m8)))))))))))
theorem f7_readSet_j39_ok {E : Ev} {l : Launch} {C : Cfg} {x : (Int32 × Mem)} (hj : Dj C) (X : Ec E l C rmX7_readSet) (B : Bx E RX7 tbX7_readSet 4 (some .boolean)) (hQ : Rt E) (hr : Rs E (some (.int x.1)) x.2) (x1 : Int32) (mm : Mem) (hf : f7_readSet_j39 x1 mm = some x) : G E 4 39 [(0, .ref 0), (1, .int x1)] [] mm := by
  unfold f7_readSet_j39 at hf
  refine z_aload_n B 21 rfl 0 0 rfl rfl ?_
  obtain ⟨r3, ec, hf⟩ := bd_e hf
  refine z_callV 0 7 [] [] [.int r3.1] X B 22 rfl ob_0 rfl rfl miX7_ends ⟨(iX7_readSet _ (List.mem_of_getElem? (i := 3) rfl)), (iX7_readSet _ (List.mem_of_getElem? (i := 4) rfl)), (iX7_readSet _ (List.mem_of_getElem? (i := 5) rfl))⟩ (ctX7_ends hj ec) ⟨Nat.le_of_ble_eq_true rfl, Nat.le_of_ble_eq_true rfl⟩ rfl rfl (Nat.le_of_ble_eq_true rfl) rfl ?_
  by_cases hc : r3.1 = 0
  · replace hf := (if_pos hc).symm.trans hf
    refine z_if_ne_f B 23 rfl 48 (by decide) hc ?_
    refine z_iconst 0 B 24 rfl (by decide) ?_
    cases hf
    exact z_iret B 25 rfl (by decide) hQ hr
  · replace hf := (if_neg hc).symm.trans hf
    refine z_if_ne_t B 23 rfl 48 (by decide) hc ?_
    refine z_aload_n B 26 rfl 0 0 rfl rfl ?_
    refine z_getr 7 1 0 B 27 rfl ob_0 rfl (iX7_readSet _ (List.mem_of_getElem? (i := 6) rfl)) rfl ?_
    refine z_aload_n B 28 rfl 0 0 rfl rfl ?_
    refine z_iload_n B 29 rfl 1 1 rfl rfl ?_
    refine z_aload_n B 30 rfl 0 0 rfl rfl ?_
    refine z_getr 7 22 0 B 31 rfl ob_0 rfl (iX7_readSet _ (List.mem_of_getElem? (i := 7) rfl)) rfl ?_
    refine z_iconst 0 B 32 rfl (by decide) ?_
    obtain ⟨hx, hf⟩ := rdc_e hf
    refine z_iald B 33 rfl ob_13 hx ?_
    obtain ⟨v4, ex, hf⟩ := nm_x hf
    refine z_top ex ?_
    refine z_aload_n B 34 rfl 0 0 rfl rfl ?_
    refine z_getr 7 22 0 B 35 rfl ob_0 rfl (iX7_readSet _ (List.mem_of_getElem? (i := 7) rfl)) rfl ?_
    refine z_iconst 1 B 36 rfl (by decide) ?_
    obtain ⟨hx, hf⟩ := rdc_e hf
    refine z_iald B 37 rfl ob_13 hx ?_
    obtain ⟨v5, ex, hf⟩ := nm_x hf
    refine z_top ex ?_
    obtain ⟨r6, ec, hf⟩ := bd_e hf
    refine z_callV 0 7 [.int x1, .int v4, .int v5] [.ref 1] [.int r6, .ref 1] X B 38 rfl ob_0 rfl rfl miX7_placeOf ⟨(iX7_readSet _ (List.mem_of_getElem? (i := 8) rfl)), (iX7_readSet _ (List.mem_of_getElem? (i := 9) rfl)), (iX7_readSet _ (List.mem_of_getElem? (i := 10) rfl))⟩ (ctX7_placeOf hj ec) ⟨Nat.le_of_ble_eq_true rfl, Nat.le_of_ble_eq_true rfl⟩ rfl rfl (Nat.le_of_ble_eq_true rfl) rfl ?_
    refine z_aload_n B 39 rfl 0 0 rfl rfl ?_
    refine z_getr 7 22 0 B 40 rfl ob_0 rfl (iX7_readSet _ (List.mem_of_getElem? (i := 7) rfl)) rfl ?_
    refine z_iconst 1 B 41 rfl (by decide) ?_
    obtain ⟨hx, hf⟩ := rdc_e hf
    refine z_iald B 42 rfl ob_13 hx ?_
    obtain ⟨v7, ex, hf⟩ := nm_x hf
    refine z_top ex ?_
    obtain ⟨hx, hf⟩ := rdc_e hf
    refine z_iast B 43 rfl ob_1 hx ?_
    obtain ⟨m8, ex, hf⟩ := nm_x hf
    refine z_mem ex ?_
    refine z_iload_n B 44 rfl 1 1 rfl rfl ?_
    refine z_iconst 2 B 45 rfl (by decide) ?_
    by_cases hc : x1 = (2 : Int32)
    · replace hf := (if_pos hc).symm.trans hf
      refine z_icmp_ne_f B 46 rfl 109 (by decide) hc ?_
      refine z_aload_n B 47 rfl 0 0 rfl rfl ?_
      refine z_getr 7 1 0 B 48 rfl ob_0 rfl (iX7_readSet _ (List.mem_of_getElem? (i := 6) rfl)) rfl ?_
      refine z_aload_n B 49 rfl 0 0 rfl rfl ?_
      refine z_iconst 3 B 50 rfl (by decide) ?_
      refine z_aload_n B 51 rfl 0 0 rfl rfl ?_
      refine z_getr 7 22 0 B 52 rfl ob_0 rfl (iX7_readSet _ (List.mem_of_getElem? (i := 7) rfl)) rfl ?_
      refine z_iconst 0 B 53 rfl (by decide) ?_
      obtain ⟨hx, hf⟩ := rdc_e hf
      refine z_iald B 54 rfl ob_13 hx ?_
      obtain ⟨v9, ex, hf⟩ := nm_x hf
      refine z_top ex ?_
      refine z_aload_n B 55 rfl 0 0 rfl rfl ?_
      refine z_getr 7 22 0 B 56 rfl ob_0 rfl (iX7_readSet _ (List.mem_of_getElem? (i := 7) rfl)) rfl ?_
      refine z_iconst 2 B 57 rfl (by decide) ?_
      obtain ⟨hx, hf⟩ := rdc_e hf
      refine z_iald B 58 rfl ob_13 hx ?_
      obtain ⟨v10, ex, hf⟩ := nm_x hf
      refine z_top ex ?_
      obtain ⟨r11, ec, hf⟩ := bd_e hf
      refine z_callV 0 7 [.int (3 : Int32), .int v9, .int v10] [.ref 1] [.int r11, .ref 1] X B 59 rfl ob_0 rfl rfl miX7_placeOf ⟨(iX7_readSet _ (List.mem_of_getElem? (i := 8) rfl)), (iX7_readSet _ (List.mem_of_getElem? (i := 9) rfl)), (iX7_readSet _ (List.mem_of_getElem? (i := 10) rfl))⟩ (ctX7_placeOf hj ec) ⟨Nat.le_of_ble_eq_true rfl, Nat.le_of_ble_eq_true rfl⟩ rfl rfl (Nat.le_of_ble_eq_true rfl) rfl ?_
      refine z_aload_n B 60 rfl 0 0 rfl rfl ?_
      refine z_getr 7 22 0 B 61 rfl ob_0 rfl (iX7_readSet _ (List.mem_of_getElem? (i := 7) rfl)) rfl ?_
      refine z_iconst 2 B 62 rfl (by decide) ?_
      obtain ⟨hx, hf⟩ := rdc_e hf
      refine z_iald B 63 rfl ob_13 hx ?_
      obtain ⟨v12, ex, hf⟩ := nm_x hf
      refine z_top ex ?_
      obtain ⟨hx, hf⟩ := rdc_e hf
      refine z_iast B 64 rfl ob_1 hx ?_
      obtain ⟨m13, ex, hf⟩ := nm_x hf
      refine z_mem ex ?_
      refine z_iconst 1 B 65 rfl (by decide) ?_
      cases hf
      exact z_iret B 66 rfl (by decide) hQ hr
    · replace hf := (if_neg hc).symm.trans hf
      refine z_icmp_ne_t B 46 rfl 109 (by decide) hc ?_
      refine z_iconst 1 B 65 rfl (by decide) ?_
      cases hf
      exact z_iret B 66 rfl (by decide) hQ hr
def f7_readSet (mm : Mem) (a1 : Int32) (a2 : Int32) (a3 : Int32) : Option (Int32 × Mem) := bd (f7_number mm (0 : Int32) a2 a3) (fun r1 => if r1.1 = 0 then some ((0 : Int32), r1.2) else bd (f7_number r1.2 (1 : Int32) (0 : Int32) (9999 : Int32)) (fun r2 => if r2.1 = 0 then some ((0 : Int32), r2.2) else if a1 = (2 : Int32) then bd (f7_number r2.2 (2 : Int32) (0 : Int32) (9999 : Int32)) (fun r14 => if r14.1 = 0 then some ((0 : Int32), r14.2) else f7_readSet_j39 a1 r14.2) else f7_readSet_j39 a1 r2.2))
theorem ctX7_readSet {l : Launch} {C : Cfg} (hj : Dj C) {mm : Mem} {a1 : Int32} {a2 : Int32} {a3 : Int32} {x : (Int32 × Mem)} (hf : f7_readSet mm a1 a2 a3 = some x) : Ct l C yX7_readSet cX7_readSet 4 (some .boolean) 3 66 [.ref 0, .int a1, .int a2, .int a3] mm (some (.int x.1)) x.2 := by
  refine Ct.of (tb := tbX7_readSet) hj miX7_readSet.2.1 miX7_readSet.1 dtX7_readSet (Nat.le_of_ble_eq_true rfl) ?_
  intro E B hQ hr X
  unfold f7_readSet at hf
  show G E 4 0 [(0, .ref 0), (1, .int a1), (2, .int a2), (3, .int a3)] [] mm
  refine z_aload_n B 0 rfl 0 0 rfl rfl ?_
  refine z_iconst 0 B 1 rfl (by decide) ?_
  refine z_iload_n B 2 rfl 2 2 rfl rfl ?_
  refine z_iload_n B 3 rfl 3 3 rfl rfl ?_
  obtain ⟨r1, ec, hf⟩ := bd_e hf
  refine z_callV 0 7 [.int (0 : Int32), .int a2, .int a3] [] [.int r1.1] X B 4 rfl ob_0 rfl rfl miX7_number ⟨(iX7_readSet _ (List.mem_of_getElem? (i := 0) rfl)), (iX7_readSet _ (List.mem_of_getElem? (i := 1) rfl)), (iX7_readSet _ (List.mem_of_getElem? (i := 2) rfl))⟩ (ctX7_number hj ec) ⟨Nat.le_of_ble_eq_true rfl, Nat.le_of_ble_eq_true rfl⟩ rfl rfl (Nat.le_of_ble_eq_true rfl) rfl ?_
  by_cases hc : r1.1 = 0
  · replace hf := (if_pos hc).symm.trans hf
    refine z_if_eq_t B 5 rfl 46 (by decide) hc ?_
    refine z_iconst 0 B 24 rfl (by decide) ?_
    cases hf
    exact z_iret B 25 rfl (by decide) hQ hr
  · replace hf := (if_neg hc).symm.trans hf
    refine z_if_eq_f B 5 rfl 46 (by decide) hc ?_
    refine z_aload_n B 6 rfl 0 0 rfl rfl ?_
    refine z_iconst 1 B 7 rfl (by decide) ?_
    refine z_iconst 0 B 8 rfl (by decide) ?_
    refine z_sipush 9999 B 9 rfl (by decide) ?_
    obtain ⟨r2, ec, hf⟩ := bd_e hf
    refine z_callV 0 7 [.int (1 : Int32), .int (0 : Int32), .int (9999 : Int32)] [] [.int r2.1] X B 10 rfl ob_0 rfl rfl miX7_number ⟨(iX7_readSet _ (List.mem_of_getElem? (i := 0) rfl)), (iX7_readSet _ (List.mem_of_getElem? (i := 1) rfl)), (iX7_readSet _ (List.mem_of_getElem? (i := 2) rfl))⟩ (ctX7_number hj ec) ⟨Nat.le_of_ble_eq_true rfl, Nat.le_of_ble_eq_true rfl⟩ rfl rfl (Nat.le_of_ble_eq_true rfl) rfl ?_
    by_cases hc : r2.1 = 0
    · replace hf := (if_pos hc).symm.trans hf
      refine z_if_eq_t B 11 rfl 46 (by decide) hc ?_
      refine z_iconst 0 B 24 rfl (by decide) ?_
      cases hf
      exact z_iret B 25 rfl (by decide) hQ hr
    · replace hf := (if_neg hc).symm.trans hf
      refine z_if_eq_f B 11 rfl 46 (by decide) hc ?_
      refine z_iload_n B 12 rfl 1 1 rfl rfl ?_
      refine z_iconst 2 B 13 rfl (by decide) ?_
      by_cases hc : a1 = (2 : Int32)
      · replace hf := (if_pos hc).symm.trans hf
        refine z_icmp_ne_f B 14 rfl 39 (by decide) hc ?_
        refine z_aload_n B 15 rfl 0 0 rfl rfl ?_
        refine z_iconst 2 B 16 rfl (by decide) ?_
        refine z_iconst 0 B 17 rfl (by decide) ?_
        refine z_sipush 9999 B 18 rfl (by decide) ?_
        obtain ⟨r14, ec, hf⟩ := bd_e hf
        refine z_callV 0 7 [.int (2 : Int32), .int (0 : Int32), .int (9999 : Int32)] [] [.int r14.1] X B 19 rfl ob_0 rfl rfl miX7_number ⟨(iX7_readSet _ (List.mem_of_getElem? (i := 0) rfl)), (iX7_readSet _ (List.mem_of_getElem? (i := 1) rfl)), (iX7_readSet _ (List.mem_of_getElem? (i := 2) rfl))⟩ (ctX7_number hj ec) ⟨Nat.le_of_ble_eq_true rfl, Nat.le_of_ble_eq_true rfl⟩ rfl rfl (Nat.le_of_ble_eq_true rfl) rfl ?_
        by_cases hc : r14.1 = 0
        · replace hf := (if_pos hc).symm.trans hf
          refine z_if_eq_t B 20 rfl 46 (by decide) hc ?_
          refine z_iconst 0 B 24 rfl (by decide) ?_
          cases hf
          exact z_iret B 25 rfl (by decide) hQ hr
        · replace hf := (if_neg hc).symm.trans hf
          refine z_if_eq_f B 20 rfl 46 (by decide) hc ?_
          refine z_sub [(0, .ref 0), (1, .int a1)] [0, 1] rfl ?_
          exact f7_readSet_j39_ok hj X B hQ hr _ _ hf
      · replace hf := (if_neg hc).symm.trans hf
        refine z_icmp_ne_t B 14 rfl 39 (by decide) hc ?_
        refine z_sub [(0, .ref 0), (1, .int a1)] [0, 1] rfl ?_
        exact f7_readSet_j39_ok hj X B hQ hr _ _ hf
/-! ZoneCapacityModel.readStatement()Z -/
def tbX7_readStatement : Tb := [(0, .aload_n 0, 1, 1), (1, .invokevirtual 222, 3, 4), (4, .ifCond .ne 13, 3, 7), (7, .aload_n 0, 1, 8), (8, .iconst 1, 1, 9), (9, .aload_n 0, 1, 10), (10, .getfield 184, 3, 13), (13, .invokevirtual 198, 3, 16), (16, .ireturn, 1, 17), (17, .aload_n 0, 1, 18), (18, .invokevirtual 225, 3, 21), (21, .lstore_n 1, 1, 22), (22, .aload_n 0, 1, 23), (23, .getfield 201, 3, 26), (26, .istore_n 3, 1, 27), (27, .lload_n 1, 1, 28), (28, .ldc2_w 232, 3, 31), (31, .lcmp, 1, 32), (32, .ifCond .ne 9, 3, 35), (35, .aload_n 0, 1, 36), (36, .iload_n 3, 1, 37), (37, .invokevirtual 234, 3, 40), (40, .ireturn, 1, 41), (41, .lload_n 1, 1, 42), (42, .ldc2_w 237, 3, 45), (45, .lcmp, 1, 46), (46, .ifCond .ne 8, 3, 49), (49, .aload_n 0, 1, 50), (50, .invokevirtual 239, 3, 53), (53, .ireturn, 1, 54), (54, .lload_n 1, 1, 55), (55, .ldc2_w 242, 3, 58), (58, .lcmp, 1, 59), (59, .ifCond .ne 9, 3, 62), (62, .aload_n 0, 1, 63), (63, .iload_n 3, 1, 64), (64, .invokevirtual 244, 3, 67), (67, .ireturn, 1, 68), (68, .lload_n 1, 1, 69), (69, .ldc2_w 247, 3, 72), (72, .lcmp, 1, 73), (73, .ifCond .ne 9, 3, 76), (76, .aload_n 0, 1, 77), (77, .iload_n 3, 1, 78), (78, .invokevirtual 249, 3, 81), (81, .ireturn, 1, 82), (82, .lload_n 1, 1, 83), (83, .ldc2_w 252, 3, 86), (86, .lcmp, 1, 87), (87, .ifCond .ne 11, 3, 90), (90, .aload_n 0, 1, 91), (91, .iconst 0, 1, 92), (92, .iconst 0, 1, 93), (93, .iconst 3, 1, 94), (94, .invokevirtual 254, 3, 97), (97, .ireturn, 1, 98), (98, .lload_n 1, 1, 99), (99, .ldc2_w 257, 3, 102), (102, .lcmp, 1, 103), (103, .ifCond .ne 18, 3, 106), (106, .aload_n 0, 1, 107), (107, .iconst 2, 1, 108), (108, .iconst 1, 1, 109), (109, .aload_n 0, 1, 110), (110, .getfield 7, 3, 113), (113, .iconst 0, 1, 114), (114, .iaload, 1, 115), (115, .iconst 1, 1, 116), (116, .isub, 1, 117), (117, .invokevirtual 254, 3, 120), (120, .ireturn, 1, 121), (121, .lload_n 1, 1, 122), (122, .ldc2_w 259, 3, 125), (125, .lcmp, 1, 126), (126, .ifCond .eq 10, 3, 129), (129, .aload_n 0, 1, 130), (130, .iconst 1, 1, 131), (131, .iload_n 3, 1, 132), (132, .invokevirtual 198, 3, 135), (135, .ireturn, 1, 136), (136, .aload_n 0, 1, 137), (137, .iconst 0, 1, 138), (138, .iconst 0, 1, 139), (139, .sipush 9999, 3, 142), (142, .invokevirtual 213, 3, 145), (145, .ifCond .eq 10, 3, 148), (148, .aload_n 0, 1, 149), (149, .invokevirtual 216, 3, 152), (152, .ifCond .ne 5, 3, 155), (155, .iconst 0, 1, 156), (156, .ireturn, 1, 157), (157, .aload_n 0, 1, 158), (158, .getfield 7, 3, 161), (161, .iconst 2, 1, 162), (162, .aload_n 0, 1, 163), (163, .getfield 47, 3, 166), (166, .iconst 0, 1, 167), (167, .iaload, 1, 168), (168, .iastore, 1, 169), (169, .iconst 1, 1, 170), (170, .ireturn, 1, 171)]
theorem dtX7_readStatement : ∀ q ∈ tbX7_readStatement, decode cX7_readStatement q.1 = .ok (q.2.1, q.2.2.1) ∧ q.1 + q.2.2.1 = q.2.2.2 := by decide +kernel
theorem miX7_readStatement : MI yX7_readStatement cX7_readStatement 4 (some .boolean) 0 := ⟨tw_mem (List.mem_of_getElem? (i := 1292) (by decide +kernel)) rfl, by decide, by decide +kernel, tw_mem (List.mem_of_getElem? (i := 78) (by decide +kernel)) rfl⟩
abbrev rmX7_readStatement : Room := { frames := 4, cells := 0, slots := 0, locals := 93 }
def wX7_readStatement : List Cond := [.methodLink "ZoneCapacityModel" 222 yX7_isWord, .instanceMethod yX7_isWord, .selects "ZoneCapacityModel" yX7_isWord yX7_isWord, .methodLink "ZoneCapacityModel" 225 yX7_readWord, .instanceMethod yX7_readWord, .selects "ZoneCapacityModel" yX7_readWord yX7_readWord, .fieldLink "ZoneCapacityModel" 201 "ZoneCapacityModel" "place" "I", .constantLong "ZoneCapacityModel" 232 (523076), .constantLong "ZoneCapacityModel" 237 (2021387), .constantLong "ZoneCapacityModel" 242 (190504487498), .constantLong "ZoneCapacityModel" 247 (8094240), .constantLong "ZoneCapacityModel" 252 (3436200), .constantLong "ZoneCapacityModel" 257 (177232852), .constantLong "ZoneCapacityModel" 259 (1239032113), .methodLink "ZoneCapacityModel" 213 yX7_number, .instanceMethod yX7_number, .selects "ZoneCapacityModel" yX7_number yX7_number, .methodLink "ZoneCapacityModel" 216 yX7_ends, .instanceMethod yX7_ends, .selects "ZoneCapacityModel" yX7_ends yX7_ends, .fieldLink "ZoneCapacityModel" 7 "ZoneCapacityModel" "w" "[I", .fieldLink "ZoneCapacityModel" 47 "ZoneCapacityModel" "told" "[I", .methodLink "ZoneCapacityModel" 198 yX7_fails, .instanceMethod yX7_fails, .selects "ZoneCapacityModel" yX7_fails yX7_fails, .methodLink "ZoneCapacityModel" 254 yX7_readSet, .instanceMethod yX7_readSet, .selects "ZoneCapacityModel" yX7_readSet yX7_readSet, .methodLink "ZoneCapacityModel" 249 yX7_readOffer, .instanceMethod yX7_readOffer, .selects "ZoneCapacityModel" yX7_readOffer yX7_readOffer, .methodLink "ZoneCapacityModel" 244 yX7_readResource, .instanceMethod yX7_readResource, .selects "ZoneCapacityModel" yX7_readResource yX7_readResource, .methodLink "ZoneCapacityModel" 239 yX7_readCurve, .instanceMethod yX7_readCurve, .selects "ZoneCapacityModel" yX7_readCurve yX7_readCurve, .methodLink "ZoneCapacityModel" 234 yX7_readZone, .instanceMethod yX7_readZone, .selects "ZoneCapacityModel" yX7_readZone yX7_readZone, .fieldLink "ZoneCapacityModel" 184 "ZoneCapacityModel" "at" "I"]
theorem iX7_readStatement : ∀ w ∈ wX7_readStatement, w ∈ TW := tw_of (ids := [1293, 1295, 59, 1301, 1303, 61, 958, 1308, 1326, 1331, 1338, 1343, 1348, 1349, 1313, 1315, 63, 1321, 1323, 65, 939, 960, 1297, 1299, 60, 1344, 1346, 69, 1339, 1341, 68, 1332, 1334, 67, 1327, 1329, 66, 1309, 1311, 62, 955]) (by decide +kernel)
def f7_readStatement (mm : Mem) : Option (Int32 × Mem) := bd (f7_isWord mm) (fun r1 => if r1.1 = 0 then bd (f7_fails r1.2 (1 : Int32) (r1.2 0 17)) (fun r16 => bok r16.1 (some (r16.1, r16.2))) else bd (f7_readWord r1.2) (fun r2 => nm (r2.2 0 20) (fun v3 => if (lg_cmp r2.1 (523076 : Int64)) = 0 then bd (f7_readZone r2.2 v3) (fun r15 => bok r15.1 (some (r15.1, r15.2))) else if (lg_cmp r2.1 (2021387 : Int64)) = 0 then bd (f7_readCurve r2.2) (fun r14 => bok r14.1 (some (r14.1, r14.2))) else if (lg_cmp r2.1 (190504487498 : Int64)) = 0 then bd (f7_readResource r2.2 v3) (fun r13 => bok r13.1 (some (r13.1, r13.2))) else if (lg_cmp r2.1 (8094240 : Int64)) = 0 then bd (f7_readOffer r2.2 v3) (fun r12 => bok r12.1 (some (r12.1, r12.2))) else if (lg_cmp r2.1 (3436200 : Int64)) = 0 then bd (f7_readSet r2.2 (0 : Int32) (0 : Int32) (3 : Int32)) (fun r11 => bok r11.1 (some (r11.1, r11.2))) else if (lg_cmp r2.1 (177232852 : Int64)) = 0 then rdc 1 (0 : Int32) (nm (r2.2 1 (0 : Int32).toNatClampNeg) (fun v9 => bd (f7_readSet r2.2 (2 : Int32) (1 : Int32) (v9 - (1 : Int32))) (fun r10 => bok r10.1 (some (r10.1, r10.2))))) else if (lg_cmp r2.1 (1239032113 : Int64)) = 0 then bd (f7_number r2.2 (0 : Int32) (0 : Int32) (9999 : Int32)) (fun r4 => if r4.1 = 0 then some ((0 : Int32), r4.2) else bd (f7_ends r4.2) (fun r5 => if r5.1 = 0 then some ((0 : Int32), r5.2) else rdc 13 (0 : Int32) (nm (r5.2 13 (0 : Int32).toNatClampNeg) (fun v6 => rdc 1 (2 : Int32) (nm (up2 r5.2 1 (2 : Int32).toNatClampNeg v6) (fun m7 => some ((1 : Int32), m7))))))) else bd (f7_fails r2.2 (1 : Int32) v3) (fun r8 => bok r8.1 (some (r8.1, r8.2))))))
theorem ctX7_readStatement {l : Launch} {C : Cfg} (hj : Dj C) {mm : Mem} {x : (Int32 × Mem)} (hf : f7_readStatement mm = some x) : Ct l C yX7_readStatement cX7_readStatement 4 (some .boolean) 4 93 [.ref 0] mm (some (.int x.1)) x.2 := by
  refine Ct.of (tb := tbX7_readStatement) hj miX7_readStatement.2.1 miX7_readStatement.1 dtX7_readStatement (Nat.le_of_ble_eq_true rfl) ?_
  intro E B hQ hr X
  unfold f7_readStatement at hf
  show G E 4 0 [(0, .ref 0)] [] mm
  refine z_aload_n B 0 rfl 0 0 rfl rfl ?_
  obtain ⟨r1, ec, hf⟩ := bd_e hf
  refine z_callV 0 7 [] [] [.int r1.1] X B 1 rfl ob_0 rfl rfl miX7_isWord ⟨(iX7_readStatement _ (List.mem_of_getElem? (i := 0) rfl)), (iX7_readStatement _ (List.mem_of_getElem? (i := 1) rfl)), (iX7_readStatement _ (List.mem_of_getElem? (i := 2) rfl))⟩ (ctX7_isWord hj ec) ⟨Nat.le_of_ble_eq_true rfl, Nat.le_of_ble_eq_true rfl⟩ rfl rfl (Nat.le_of_ble_eq_true rfl) rfl ?_
  by_cases hc : r1.1 = 0
  · replace hf := (if_pos hc).symm.trans hf
    refine z_if_ne_f B 2 rfl 17 (by decide) hc ?_
    refine z_aload_n B 3 rfl 0 0 rfl rfl ?_
    refine z_iconst 1 B 4 rfl (by decide) ?_
    refine z_aload_n B 5 rfl 0 0 rfl rfl ?_
    refine z_geti 7 17 0 B 6 rfl ob_0 rfl (iX7_readStatement _ (List.mem_of_getElem? (i := 40) rfl)) rfl ?_
    obtain ⟨r16, ec, hf⟩ := bd_e hf
    refine z_callV 0 7 [.int (1 : Int32), .int (r1.2 0 17)] [] [.int r16.1] X B 7 rfl ob_0 rfl rfl miX7_fails ⟨(iX7_readStatement _ (List.mem_of_getElem? (i := 22) rfl)), (iX7_readStatement _ (List.mem_of_getElem? (i := 23) rfl)), (iX7_readStatement _ (List.mem_of_getElem? (i := 24) rfl))⟩ (ctX7_fails hj ec) ⟨Nat.le_of_ble_eq_true rfl, Nat.le_of_ble_eq_true rfl⟩ rfl rfl (Nat.le_of_ble_eq_true rfl) rfl ?_
    obtain ⟨hb, hf⟩ := bok_e hf
    cases hf
    exact z_iret B 8 rfl (bok_n hb) hQ hr
  · replace hf := (if_neg hc).symm.trans hf
    refine z_if_ne_t B 2 rfl 17 (by decide) hc ?_
    refine z_aload_n B 9 rfl 0 0 rfl rfl ?_
    obtain ⟨r2, ec, hf⟩ := bd_e hf
    refine z_callV 0 7 [] [] [.long r2.1] X B 10 rfl ob_0 rfl rfl miX7_readWord ⟨(iX7_readStatement _ (List.mem_of_getElem? (i := 3) rfl)), (iX7_readStatement _ (List.mem_of_getElem? (i := 4) rfl)), (iX7_readStatement _ (List.mem_of_getElem? (i := 5) rfl))⟩ (ctX7_readWord hj ec) ⟨Nat.le_of_ble_eq_true rfl, Nat.le_of_ble_eq_true rfl⟩ rfl rfl (Nat.le_of_ble_eq_true rfl) rfl ?_
    refine z_lstore_n [(1, .long r2.1), (0, .ref 0)] B 11 rfl 1 rfl (by decide) rfl ?_
    refine z_aload_n B 12 rfl 0 1 rfl rfl ?_
    refine z_geti 7 20 0 B 13 rfl ob_0 rfl (iX7_readStatement _ (List.mem_of_getElem? (i := 6) rfl)) rfl ?_
    obtain ⟨v3, ex, hf⟩ := nm_x hf
    refine z_top ex ?_
    refine z_istore_n [(3, .int v3), (1, .long r2.1), (0, .ref 0)] B 14 rfl 3 rfl (by decide) rfl ?_
    refine z_lload_n B 15 rfl 1 1 rfl rfl ?_
    refine z_ldc2 523076 B 16 rfl (iX7_readStatement _ (List.mem_of_getElem? (i := 7) rfl)) ?_
    refine z_lcmp B 17 rfl ?_
    by_cases hc : (lg_cmp r2.1 (523076 : Int64)) = 0
    · replace hf := (if_pos hc).symm.trans hf
      refine z_if_ne_f B 18 rfl 41 (by decide) hc ?_
      refine z_aload_n B 19 rfl 0 2 rfl rfl ?_
      refine z_iload_n B 20 rfl 3 0 rfl rfl ?_
      obtain ⟨r15, ec, hf⟩ := bd_e hf
      refine z_callV 0 7 [.int v3] [] [.int r15.1] X B 21 rfl ob_0 rfl rfl miX7_readZone ⟨(iX7_readStatement _ (List.mem_of_getElem? (i := 37) rfl)), (iX7_readStatement _ (List.mem_of_getElem? (i := 38) rfl)), (iX7_readStatement _ (List.mem_of_getElem? (i := 39) rfl))⟩ (ctX7_readZone hj ec) ⟨Nat.le_of_ble_eq_true rfl, Nat.le_of_ble_eq_true rfl⟩ rfl rfl (Nat.le_of_ble_eq_true rfl) rfl ?_
      obtain ⟨hb, hf⟩ := bok_e hf
      cases hf
      exact z_iret B 22 rfl (bok_n hb) hQ hr
    · replace hf := (if_neg hc).symm.trans hf
      refine z_if_ne_t B 18 rfl 41 (by decide) hc ?_
      refine z_lload_n B 23 rfl 1 1 rfl rfl ?_
      refine z_ldc2 2021387 B 24 rfl (iX7_readStatement _ (List.mem_of_getElem? (i := 8) rfl)) ?_
      refine z_lcmp B 25 rfl ?_
      by_cases hc : (lg_cmp r2.1 (2021387 : Int64)) = 0
      · replace hf := (if_pos hc).symm.trans hf
        refine z_if_ne_f B 26 rfl 54 (by decide) hc ?_
        refine z_aload_n B 27 rfl 0 2 rfl rfl ?_
        obtain ⟨r14, ec, hf⟩ := bd_e hf
        refine z_callV 0 7 [] [] [.int r14.1] X B 28 rfl ob_0 rfl rfl miX7_readCurve ⟨(iX7_readStatement _ (List.mem_of_getElem? (i := 34) rfl)), (iX7_readStatement _ (List.mem_of_getElem? (i := 35) rfl)), (iX7_readStatement _ (List.mem_of_getElem? (i := 36) rfl))⟩ (ctX7_readCurve hj ec) ⟨Nat.le_of_ble_eq_true rfl, Nat.le_of_ble_eq_true rfl⟩ rfl rfl (Nat.le_of_ble_eq_true rfl) rfl ?_
        obtain ⟨hb, hf⟩ := bok_e hf
        cases hf
        exact z_iret B 29 rfl (bok_n hb) hQ hr
      · replace hf := (if_neg hc).symm.trans hf
        refine z_if_ne_t B 26 rfl 54 (by decide) hc ?_
        refine z_lload_n B 30 rfl 1 1 rfl rfl ?_
        refine z_ldc2 190504487498 B 31 rfl (iX7_readStatement _ (List.mem_of_getElem? (i := 9) rfl)) ?_
        refine z_lcmp B 32 rfl ?_
        by_cases hc : (lg_cmp r2.1 (190504487498 : Int64)) = 0
        · replace hf := (if_pos hc).symm.trans hf
          refine z_if_ne_f B 33 rfl 68 (by decide) hc ?_
          refine z_aload_n B 34 rfl 0 2 rfl rfl ?_
          refine z_iload_n B 35 rfl 3 0 rfl rfl ?_
          obtain ⟨r13, ec, hf⟩ := bd_e hf
          refine z_callV 0 7 [.int v3] [] [.int r13.1] X B 36 rfl ob_0 rfl rfl miX7_readResource ⟨(iX7_readStatement _ (List.mem_of_getElem? (i := 31) rfl)), (iX7_readStatement _ (List.mem_of_getElem? (i := 32) rfl)), (iX7_readStatement _ (List.mem_of_getElem? (i := 33) rfl))⟩ (ctX7_readResource hj ec) ⟨Nat.le_of_ble_eq_true rfl, Nat.le_of_ble_eq_true rfl⟩ rfl rfl (Nat.le_of_ble_eq_true rfl) rfl ?_
          obtain ⟨hb, hf⟩ := bok_e hf
          cases hf
          exact z_iret B 37 rfl (bok_n hb) hQ hr
        · replace hf := (if_neg hc).symm.trans hf
          refine z_if_ne_t B 33 rfl 68 (by decide) hc ?_
          refine z_lload_n B 38 rfl 1 1 rfl rfl ?_
          refine z_ldc2 8094240 B 39 rfl (iX7_readStatement _ (List.mem_of_getElem? (i := 10) rfl)) ?_
          refine z_lcmp B 40 rfl ?_
          by_cases hc : (lg_cmp r2.1 (8094240 : Int64)) = 0
          · replace hf := (if_pos hc).symm.trans hf
            refine z_if_ne_f B 41 rfl 82 (by decide) hc ?_
            refine z_aload_n B 42 rfl 0 2 rfl rfl ?_
            refine z_iload_n B 43 rfl 3 0 rfl rfl ?_
            obtain ⟨r12, ec, hf⟩ := bd_e hf
            refine z_callV 0 7 [.int v3] [] [.int r12.1] X B 44 rfl ob_0 rfl rfl miX7_readOffer ⟨(iX7_readStatement _ (List.mem_of_getElem? (i := 28) rfl)), (iX7_readStatement _ (List.mem_of_getElem? (i := 29) rfl)), (iX7_readStatement _ (List.mem_of_getElem? (i := 30) rfl))⟩ (ctX7_readOffer hj ec) ⟨Nat.le_of_ble_eq_true rfl, Nat.le_of_ble_eq_true rfl⟩ rfl rfl (Nat.le_of_ble_eq_true rfl) rfl ?_
            obtain ⟨hb, hf⟩ := bok_e hf
            cases hf
            exact z_iret B 45 rfl (bok_n hb) hQ hr
          · replace hf := (if_neg hc).symm.trans hf
            refine z_if_ne_t B 41 rfl 82 (by decide) hc ?_
            refine z_lload_n B 46 rfl 1 1 rfl rfl ?_
            refine z_ldc2 3436200 B 47 rfl (iX7_readStatement _ (List.mem_of_getElem? (i := 11) rfl)) ?_
            refine z_lcmp B 48 rfl ?_
            by_cases hc : (lg_cmp r2.1 (3436200 : Int64)) = 0
            · replace hf := (if_pos hc).symm.trans hf
              refine z_if_ne_f B 49 rfl 98 (by decide) hc ?_
              refine z_aload_n B 50 rfl 0 2 rfl rfl ?_
              refine z_iconst 0 B 51 rfl (by decide) ?_
              refine z_iconst 0 B 52 rfl (by decide) ?_
              refine z_iconst 3 B 53 rfl (by decide) ?_
              obtain ⟨r11, ec, hf⟩ := bd_e hf
              refine z_callV 0 7 [.int (0 : Int32), .int (0 : Int32), .int (3 : Int32)] [] [.int r11.1] X B 54 rfl ob_0 rfl rfl miX7_readSet ⟨(iX7_readStatement _ (List.mem_of_getElem? (i := 25) rfl)), (iX7_readStatement _ (List.mem_of_getElem? (i := 26) rfl)), (iX7_readStatement _ (List.mem_of_getElem? (i := 27) rfl))⟩ (ctX7_readSet hj ec) ⟨Nat.le_of_ble_eq_true rfl, Nat.le_of_ble_eq_true rfl⟩ rfl rfl (Nat.le_of_ble_eq_true rfl) rfl ?_
              obtain ⟨hb, hf⟩ := bok_e hf
              cases hf
              exact z_iret B 55 rfl (bok_n hb) hQ hr
            · replace hf := (if_neg hc).symm.trans hf
              refine z_if_ne_t B 49 rfl 98 (by decide) hc ?_
              refine z_lload_n B 56 rfl 1 1 rfl rfl ?_
              refine z_ldc2 177232852 B 57 rfl (iX7_readStatement _ (List.mem_of_getElem? (i := 12) rfl)) ?_
              refine z_lcmp B 58 rfl ?_
              by_cases hc : (lg_cmp r2.1 (177232852 : Int64)) = 0
              · replace hf := (if_pos hc).symm.trans hf
                refine z_if_ne_f B 59 rfl 121 (by decide) hc ?_
                refine z_aload_n B 60 rfl 0 2 rfl rfl ?_
                refine z_iconst 2 B 61 rfl (by decide) ?_
                refine z_iconst 1 B 62 rfl (by decide) ?_
                refine z_aload_n B 63 rfl 0 2 rfl rfl ?_
                refine z_getr 7 1 0 B 64 rfl ob_0 rfl (iX7_readStatement _ (List.mem_of_getElem? (i := 20) rfl)) rfl ?_
                refine z_iconst 0 B 65 rfl (by decide) ?_
                obtain ⟨hx, hf⟩ := rdc_e hf
                refine z_iald B 66 rfl ob_1 hx ?_
                obtain ⟨v9, ex, hf⟩ := nm_x hf
                refine z_top ex ?_
                refine z_iconst 1 B 67 rfl (by decide) ?_
                refine z_isub B 68 rfl ?_
                obtain ⟨r10, ec, hf⟩ := bd_e hf
                refine z_callV 0 7 [.int (2 : Int32), .int (1 : Int32), .int (v9 - (1 : Int32))] [] [.int r10.1] X B 69 rfl ob_0 rfl rfl miX7_readSet ⟨(iX7_readStatement _ (List.mem_of_getElem? (i := 25) rfl)), (iX7_readStatement _ (List.mem_of_getElem? (i := 26) rfl)), (iX7_readStatement _ (List.mem_of_getElem? (i := 27) rfl))⟩ (ctX7_readSet hj ec) ⟨Nat.le_of_ble_eq_true rfl, Nat.le_of_ble_eq_true rfl⟩ rfl rfl (Nat.le_of_ble_eq_true rfl) rfl ?_
                obtain ⟨hb, hf⟩ := bok_e hf
                cases hf
                exact z_iret B 70 rfl (bok_n hb) hQ hr
              · replace hf := (if_neg hc).symm.trans hf
                refine z_if_ne_t B 59 rfl 121 (by decide) hc ?_
                refine z_lload_n B 71 rfl 1 1 rfl rfl ?_
                refine z_ldc2 1239032113 B 72 rfl (iX7_readStatement _ (List.mem_of_getElem? (i := 13) rfl)) ?_
                refine z_lcmp B 73 rfl ?_
                by_cases hc : (lg_cmp r2.1 (1239032113 : Int64)) = 0
                · replace hf := (if_pos hc).symm.trans hf
                  refine z_if_eq_t B 74 rfl 136 (by decide) hc ?_
                  refine z_aload_n B 80 rfl 0 2 rfl rfl ?_
                  refine z_iconst 0 B 81 rfl (by decide) ?_
                  refine z_iconst 0 B 82 rfl (by decide) ?_
                  refine z_sipush 9999 B 83 rfl (by decide) ?_
                  obtain ⟨r4, ec, hf⟩ := bd_e hf
                  refine z_callV 0 7 [.int (0 : Int32), .int (0 : Int32), .int (9999 : Int32)] [] [.int r4.1] X B 84 rfl ob_0 rfl rfl miX7_number ⟨(iX7_readStatement _ (List.mem_of_getElem? (i := 14) rfl)), (iX7_readStatement _ (List.mem_of_getElem? (i := 15) rfl)), (iX7_readStatement _ (List.mem_of_getElem? (i := 16) rfl))⟩ (ctX7_number hj ec) ⟨Nat.le_of_ble_eq_true rfl, Nat.le_of_ble_eq_true rfl⟩ rfl rfl (Nat.le_of_ble_eq_true rfl) rfl ?_
                  by_cases hc : r4.1 = 0
                  · replace hf := (if_pos hc).symm.trans hf
                    refine z_if_eq_t B 85 rfl 155 (by decide) hc ?_
                    refine z_iconst 0 B 89 rfl (by decide) ?_
                    cases hf
                    exact z_iret B 90 rfl (by decide) hQ hr
                  · replace hf := (if_neg hc).symm.trans hf
                    refine z_if_eq_f B 85 rfl 155 (by decide) hc ?_
                    refine z_aload_n B 86 rfl 0 2 rfl rfl ?_
                    obtain ⟨r5, ec, hf⟩ := bd_e hf
                    refine z_callV 0 7 [] [] [.int r5.1] X B 87 rfl ob_0 rfl rfl miX7_ends ⟨(iX7_readStatement _ (List.mem_of_getElem? (i := 17) rfl)), (iX7_readStatement _ (List.mem_of_getElem? (i := 18) rfl)), (iX7_readStatement _ (List.mem_of_getElem? (i := 19) rfl))⟩ (ctX7_ends hj ec) ⟨Nat.le_of_ble_eq_true rfl, Nat.le_of_ble_eq_true rfl⟩ rfl rfl (Nat.le_of_ble_eq_true rfl) rfl ?_
                    by_cases hc : r5.1 = 0
                    · replace hf := (if_pos hc).symm.trans hf
                      refine z_if_ne_f B 88 rfl 157 (by decide) hc ?_
                      refine z_iconst 0 B 89 rfl (by decide) ?_
                      cases hf
                      exact z_iret B 90 rfl (by decide) hQ hr
                    · replace hf := (if_neg hc).symm.trans hf
                      refine z_if_ne_t B 88 rfl 157 (by decide) hc ?_
                      refine z_aload_n B 91 rfl 0 2 rfl rfl ?_
                      refine z_getr 7 1 0 B 92 rfl ob_0 rfl (iX7_readStatement _ (List.mem_of_getElem? (i := 20) rfl)) rfl ?_
                      refine z_iconst 2 B 93 rfl (by decide) ?_
                      refine z_aload_n B 94 rfl 0 2 rfl rfl ?_
                      refine z_getr 7 22 0 B 95 rfl ob_0 rfl (iX7_readStatement _ (List.mem_of_getElem? (i := 21) rfl)) rfl ?_
                      refine z_iconst 0 B 96 rfl (by decide) ?_
                      obtain ⟨hx, hf⟩ := rdc_e hf
                      refine z_iald B 97 rfl ob_13 hx ?_
                      obtain ⟨v6, ex, hf⟩ := nm_x hf
                      refine z_top ex ?_
                      obtain ⟨hx, hf⟩ := rdc_e hf
                      refine z_iast B 98 rfl ob_1 hx ?_
                      obtain ⟨m7, ex, hf⟩ := nm_x hf
                      refine z_mem ex ?_
                      refine z_iconst 1 B 99 rfl (by decide) ?_
                      cases hf
                      exact z_iret B 100 rfl (by decide) hQ hr
                · replace hf := (if_neg hc).symm.trans hf
                  refine z_if_eq_f B 74 rfl 136 (by decide) hc ?_
                  refine z_aload_n B 75 rfl 0 2 rfl rfl ?_
                  refine z_iconst 1 B 76 rfl (by decide) ?_
                  refine z_iload_n B 77 rfl 3 0 rfl rfl ?_
                  obtain ⟨r8, ec, hf⟩ := bd_e hf
                  refine z_callV 0 7 [.int (1 : Int32), .int v3] [] [.int r8.1] X B 78 rfl ob_0 rfl rfl miX7_fails ⟨(iX7_readStatement _ (List.mem_of_getElem? (i := 22) rfl)), (iX7_readStatement _ (List.mem_of_getElem? (i := 23) rfl)), (iX7_readStatement _ (List.mem_of_getElem? (i := 24) rfl))⟩ (ctX7_fails hj ec) ⟨Nat.le_of_ble_eq_true rfl, Nat.le_of_ble_eq_true rfl⟩ rfl rfl (Nat.le_of_ble_eq_true rfl) rfl ?_
                  obtain ⟨hb, hf⟩ := bok_e hf
                  cases hf
                  exact z_iret B 79 rfl (bok_n hb) hQ hr
/-! ZoneCapacityModel.tell()I -/
def tbX7_tell : Tb := [(0, .aload_n 0, 1, 1), (1, .iconst 0, 1, 2), (2, .putfield 50, 3, 5), (5, .iconst 0, 1, 6), (6, .istore_n 1, 1, 7), (7, .iload_n 1, 1, 8), (8, .sipush 235, 3, 11), (11, .if_icmp .ge 21, 3, 14), (14, .aload_n 0, 1, 15), (15, .getfield 20, 3, 18), (18, .iload_n 1, 1, 19), (19, .aload_n 0, 1, 20), (20, .getfield 7, 3, 23), (23, .iload_n 1, 1, 24), (24, .iaload, 1, 25), (25, .iastore, 1, 26), (26, .iinc 1 1, 3, 29), (29, .goto (-22), 3, 32), (32, .aload_n 0, 1, 33), (33, .iconst 0, 1, 34), (34, .putfield 261, 3, 37), (37, .aload_n 0, 1, 38), (38, .iconst 0, 1, 39), (39, .putfield 184, 3, 42), (42, .aload_n 0, 1, 43), (43, .iconst 0, 1, 44), (44, .putfield 187, 3, 47), (47, .iconst 1, 1, 48), (48, .istore_n 1, 1, 49), (49, .iload_n 1, 1, 50), (50, .ifCond .eq 29, 3, 53), (53, .aload_n 0, 1, 54), (54, .invokevirtual 190, 3, 57), (57, .iconst (-1), 1, 58), (58, .if_icmp .eq 21, 3, 61), (61, .aload_n 0, 1, 62), (62, .invokevirtual 264, 3, 65), (65, .istore_n 1, 1, 66), (66, .aload_n 0, 1, 67), (67, .dup, 1, 68), (68, .getfield 261, 3, 71), (71, .iconst 1, 1, 72), (72, .iadd, 1, 73), (73, .putfield 261, 3, 76), (76, .goto (-27), 3, 79), (79, .aload_n 0, 1, 80), (80, .iconst 0, 1, 81), (81, .putfield 148, 3, 84), (84, .aload_n 0, 1, 85), (85, .aload_n 0, 1, 86), (86, .getfield 187, 3, 89), (89, .putfield 267, 3, 92), (92, .iconst 0, 1, 93), (93, .istore_n 2, 1, 94), (94, .iload_n 2, 1, 95), (95, .sipush 235, 3, 98), (98, .if_icmp .ge 25, 3, 101), (101, .iload_n 1, 1, 102), (102, .ifCond .ne 21, 3, 105), (105, .aload_n 0, 1, 106), (106, .getfield 7, 3, 109), (109, .iload_n 2, 1, 110), (110, .aload_n 0, 1, 111), (111, .getfield 20, 3, 114), (114, .iload_n 2, 1, 115), (115, .iaload, 1, 116), (116, .iastore, 1, 117), (117, .iinc 2 1, 3, 120), (120, .goto (-26), 3, 123), (123, .iload_n 1, 1, 124), (124, .ifCond .eq 10, 3, 127), (127, .aload_n 0, 1, 128), (128, .getfield 261, 3, 131), (131, .goto 4, 3, 134), (134, .iconst (-1), 1, 135), (135, .ireturn, 1, 136)]
theorem dtX7_tell : ∀ q ∈ tbX7_tell, decode cX7_tell q.1 = .ok (q.2.1, q.2.2.1) ∧ q.1 + q.2.2.1 = q.2.2.2 := by decide +kernel
theorem miX7_tell : MI yX7_tell cX7_tell 3 (some .int) 0 := ⟨tw_mem (List.mem_of_getElem? (i := 1284) (by decide +kernel)) rfl, by decide, by decide +kernel, tw_mem (List.mem_of_getElem? (i := 78) (by decide +kernel)) rfl⟩
abbrev rmX7_tell : Room := { frames := 5, cells := 0, slots := 0, locals := 116 }
def wX7_tell : List Cond := [.fieldLink "ZoneCapacityModel" 50 "ZoneCapacityModel" "raised" "I", .fieldLink "ZoneCapacityModel" 261 "ZoneCapacityModel" "statements" "I", .fieldLink "ZoneCapacityModel" 184 "ZoneCapacityModel" "at" "I", .fieldLink "ZoneCapacityModel" 187 "ZoneCapacityModel" "wrong" "I", .fieldLink "ZoneCapacityModel" 148 "ZoneCapacityModel" "taped" "I", .fieldLink "ZoneCapacityModel" 267 "ZoneCapacityModel" "fault" "I", .fieldLink "ZoneCapacityModel" 7 "ZoneCapacityModel" "w" "[I", .fieldLink "ZoneCapacityModel" 20 "ZoneCapacityModel" "draft" "[I", .methodLink "ZoneCapacityModel" 190 yX7_here, .instanceMethod yX7_here, .selects "ZoneCapacityModel" yX7_here yX7_here, .methodLink "ZoneCapacityModel" 264 yX7_readStatement, .instanceMethod yX7_readStatement, .selects "ZoneCapacityModel" yX7_readStatement yX7_readStatement]
theorem iX7_tell : ∀ w ∈ wX7_tell, w ∈ TW := tw_of (ids := [938, 959, 955, 956, 953, 954, 939, 942, 1285, 1287, 57, 1289, 1291, 58]) (by decide +kernel)
def f7_tell_j123 (x1 : Int32) (mm : Mem) : Option (Int32 × Mem) := if x1 = 0 then some ((-1 : Int32), mm) else some (mm 0 21, mm)
theorem f7_tell_j123_ok {E : Ev} {l : Launch} {C : Cfg} {x : (Int32 × Mem)} (hj : Dj C) (X : Ec E l C rmX7_tell) (B : Bx E RX7 tbX7_tell 3 (some .int)) (hQ : Rt E) (hr : Rs E (some (.int x.1)) x.2) (x1 : Int32) (mm : Mem) (hf : f7_tell_j123 x1 mm = some x) : G E 3 123 [(0, .ref 0), (1, .int x1)] [] mm := by
  unfold f7_tell_j123 at hf
  refine z_iload_n B 69 rfl 1 1 rfl rfl ?_
  by_cases hc : x1 = 0
  · replace hf := (if_pos hc).symm.trans hf
    refine z_if_eq_t B 70 rfl 134 (by decide) hc ?_
    refine z_iconst (-1) B 74 rfl (by decide) ?_
    cases hf
    exact z_iret B 75 rfl rfl hQ hr
  · replace hf := (if_neg hc).symm.trans hf
    refine z_if_eq_f B 70 rfl 134 (by decide) hc ?_
    refine z_aload_n B 71 rfl 0 0 rfl rfl ?_
    refine z_geti 7 21 0 B 72 rfl ob_0 rfl (iX7_tell _ (List.mem_of_getElem? (i := 1) rfl)) rfl ?_
    refine z_goto B 73 rfl 135 (by decide) ?_
    cases hf
    exact z_iret B 75 rfl rfl hQ hr
def f7_tell_l94 : Nat → Int32 → Int32 → Mem → Option (Int32 × Mem)
  | 0, _, _, _ => none
  | n + 1, x1, x2, mm => if x2 < (235 : Int32) then if x1 = 0 then rdc 4 x2 (nm (mm 4 x2.toNatClampNeg) (fun v7 => rdc 1 x2 (nm (up2 mm 1 x2.toNatClampNeg v7) (fun m8 => nm (x2 + 1) (fun v9 => f7_tell_l94 n x1 v9 m8))))) else f7_tell_j123 x1 mm else f7_tell_j123 x1 mm
theorem f7_tell_l94_ok {E : Ev} {l : Launch} {C : Cfg} {x : (Int32 × Mem)} (hj : Dj C) (X : Ec E l C rmX7_tell) (B : Bx E RX7 tbX7_tell 3 (some .int)) (hQ : Rt E) (hr : Rs E (some (.int x.1)) x.2) (n : Nat) : ∀ (x1 : Int32) (x2 : Int32) (mm : Mem), f7_tell_l94 n x1 x2 mm = some x → G E 3 94 [(0, .ref 0), (1, .int x1), (2, .int x2)] [] mm := by
  induction n with
  | zero =>
    intro x1 x2 mm hf
    rw [f7_tell_l94] at hf
    cases hf
  | succ n ih =>
    intro x1 x2 mm hf
    rw [f7_tell_l94] at hf
    refine z_iload_n B 54 rfl 2 2 rfl rfl ?_
    refine z_sipush 235 B 55 rfl (by decide) ?_
    by_cases hc : x2 < (235 : Int32)
    · replace hf := (if_pos hc).symm.trans hf
      refine z_icmp_ge_f B 56 rfl 123 (by decide) hc ?_
      refine z_iload_n B 57 rfl 1 1 rfl rfl ?_
      by_cases hc : x1 = 0
      · replace hf := (if_pos hc).symm.trans hf
        refine z_if_ne_f B 58 rfl 123 (by decide) hc ?_
        refine z_aload_n B 59 rfl 0 0 rfl rfl ?_
        refine z_getr 7 1 0 B 60 rfl ob_0 rfl (iX7_tell _ (List.mem_of_getElem? (i := 6) rfl)) rfl ?_
        refine z_iload_n B 61 rfl 2 2 rfl rfl ?_
        refine z_aload_n B 62 rfl 0 0 rfl rfl ?_
        refine z_getr 7 4 0 B 63 rfl ob_0 rfl (iX7_tell _ (List.mem_of_getElem? (i := 7) rfl)) rfl ?_
        refine z_iload_n B 64 rfl 2 2 rfl rfl ?_
        obtain ⟨hx, hf⟩ := rdc_e hf
        refine z_iald B 65 rfl ob_4 hx ?_
        obtain ⟨v7, ex, hf⟩ := nm_x hf
        refine z_top ex ?_
        obtain ⟨hx, hf⟩ := rdc_e hf
        refine z_iast B 66 rfl ob_1 hx ?_
        obtain ⟨m8, ex, hf⟩ := nm_x hf
        refine z_mem ex ?_
        obtain ⟨v9, ex, hf⟩ := nm_x hf
        refine z_iinc v9 [(2, .int v9), (0, .ref 0), (1, .int x1)] B 67 rfl 2 rfl (ex.symm) (by decide) rfl ?_
        refine z_goto B 68 rfl 94 (by decide) ?_
        refine z_sub [(0, .ref 0), (1, .int x1), (2, .int v9)] [1, 2, 0] rfl ?_
        exact ih _ _ _ hf
      · replace hf := (if_neg hc).symm.trans hf
        refine z_if_ne_t B 58 rfl 123 (by decide) hc ?_
        refine z_sub [(0, .ref 0), (1, .int x1)] [0, 1] rfl ?_
        exact f7_tell_j123_ok hj X B hQ hr _ _ hf
    · replace hf := (if_neg hc).symm.trans hf
      refine z_icmp_ge_t B 56 rfl 123 (by decide) hc ?_
      refine z_sub [(0, .ref 0), (1, .int x1)] [0, 1] rfl ?_
      exact f7_tell_j123_ok hj X B hQ hr _ _ hf
def f7_tell_j79 (x1 : Int32) (mm : Mem) : Option (Int32 × Mem) := nm (up2 mm 0 15 (0 : Int32)) (fun m5 => nm (up2 m5 0 16 (m5 0 18)) (fun m6 => f7_tell_l94 FU x1 (0 : Int32) m6))
theorem f7_tell_j79_ok {E : Ev} {l : Launch} {C : Cfg} {x : (Int32 × Mem)} (hj : Dj C) (X : Ec E l C rmX7_tell) (B : Bx E RX7 tbX7_tell 3 (some .int)) (hQ : Rt E) (hr : Rs E (some (.int x.1)) x.2) (x1 : Int32) (mm : Mem) (hf : f7_tell_j79 x1 mm = some x) : G E 3 79 [(0, .ref 0), (1, .int x1)] [] mm := by
  unfold f7_tell_j79 at hf
  refine z_aload_n B 45 rfl 0 0 rfl rfl ?_
  refine z_iconst 0 B 46 rfl (by decide) ?_
  refine z_puti 7 15 0 B 47 rfl ob_0 rfl (iX7_tell _ (List.mem_of_getElem? (i := 4) rfl)) rfl (ty := .int) (by decide) rfl rfl rfl ?_
  obtain ⟨m5, ex, hf⟩ := nm_x hf
  refine z_mem ex ?_
  refine z_aload_n B 48 rfl 0 0 rfl rfl ?_
  refine z_aload_n B 49 rfl 0 0 rfl rfl ?_
  refine z_geti 7 18 0 B 50 rfl ob_0 rfl (iX7_tell _ (List.mem_of_getElem? (i := 3) rfl)) rfl ?_
  refine z_puti 7 16 0 B 51 rfl ob_0 rfl (iX7_tell _ (List.mem_of_getElem? (i := 5) rfl)) rfl (ty := .int) (by decide) rfl rfl rfl ?_
  obtain ⟨m6, ex, hf⟩ := nm_x hf
  refine z_mem ex ?_
  refine z_iconst 0 B 52 rfl (by decide) ?_
  refine z_istore_n [(2, .int (0 : Int32)), (0, .ref 0), (1, .int x1)] B 53 rfl 2 rfl (by decide) rfl ?_
  refine z_sub [(0, .ref 0), (1, .int x1), (2, .int (0 : Int32))] [1, 2, 0] rfl ?_
  exact f7_tell_l94_ok hj X B hQ hr FU _ _ _ hf
def f7_tell_l49 : Nat → Int32 → Mem → Option (Int32 × Mem)
  | 0, _, _ => none
  | n + 1, x1, mm => if x1 = 0 then f7_tell_j79 x1 mm else bd (f7_here mm) (fun r10 => if r10.1 = (-1 : Int32) then f7_tell_j79 x1 r10.2 else bd (f7_readStatement r10.2) (fun r11 => nm (up2 r11.2 0 21 ((r11.2 0 21) + (1 : Int32))) (fun m12 => f7_tell_l49 n r11.1 m12)))
theorem f7_tell_l49_ok {E : Ev} {l : Launch} {C : Cfg} {x : (Int32 × Mem)} (hj : Dj C) (X : Ec E l C rmX7_tell) (B : Bx E RX7 tbX7_tell 3 (some .int)) (hQ : Rt E) (hr : Rs E (some (.int x.1)) x.2) (n : Nat) : ∀ (x1 : Int32) (mm : Mem), f7_tell_l49 n x1 mm = some x → G E 3 49 [(0, .ref 0), (1, .int x1)] [] mm := by
  induction n with
  | zero =>
    intro x1 mm hf
    rw [f7_tell_l49] at hf
    cases hf
  | succ n ih =>
    intro x1 mm hf
    rw [f7_tell_l49] at hf
    refine z_iload_n B 29 rfl 1 1 rfl rfl ?_
    by_cases hc : x1 = 0
    · replace hf := (if_pos hc).symm.trans hf
      refine z_if_eq_t B 30 rfl 79 (by decide) hc ?_
      exact f7_tell_j79_ok hj X B hQ hr _ _ hf
    · replace hf := (if_neg hc).symm.trans hf
      refine z_if_eq_f B 30 rfl 79 (by decide) hc ?_
      refine z_aload_n B 31 rfl 0 0 rfl rfl ?_
      obtain ⟨r10, ec, hf⟩ := bd_e hf
      refine z_callV 0 7 [] [] [.int r10.1] X B 32 rfl ob_0 rfl rfl miX7_here ⟨(iX7_tell _ (List.mem_of_getElem? (i := 8) rfl)), (iX7_tell _ (List.mem_of_getElem? (i := 9) rfl)), (iX7_tell _ (List.mem_of_getElem? (i := 10) rfl))⟩ (ctX7_here hj ec) ⟨Nat.le_of_ble_eq_true rfl, Nat.le_of_ble_eq_true rfl⟩ rfl rfl (Nat.le_of_ble_eq_true rfl) rfl ?_
      refine z_iconst (-1) B 33 rfl (by decide) ?_
      by_cases hc : r10.1 = (-1 : Int32)
      · replace hf := (if_pos hc).symm.trans hf
        refine z_icmp_eq_t B 34 rfl 79 (by decide) hc ?_
        exact f7_tell_j79_ok hj X B hQ hr _ _ hf
      · replace hf := (if_neg hc).symm.trans hf
        refine z_icmp_eq_f B 34 rfl 79 (by decide) hc ?_
        refine z_aload_n B 35 rfl 0 0 rfl rfl ?_
        obtain ⟨r11, ec, hf⟩ := bd_e hf
        refine z_callV 0 7 [] [] [.int r11.1] X B 36 rfl ob_0 rfl rfl miX7_readStatement ⟨(iX7_tell _ (List.mem_of_getElem? (i := 11) rfl)), (iX7_tell _ (List.mem_of_getElem? (i := 12) rfl)), (iX7_tell _ (List.mem_of_getElem? (i := 13) rfl))⟩ (ctX7_readStatement hj ec) ⟨Nat.le_of_ble_eq_true rfl, Nat.le_of_ble_eq_true rfl⟩ rfl rfl (Nat.le_of_ble_eq_true rfl) rfl ?_
        refine z_istore_n [(1, .int r11.1), (0, .ref 0)] B 37 rfl 1 rfl (by decide) rfl ?_
        refine z_aload_n B 38 rfl 0 1 rfl rfl ?_
        refine z_dup B 39 rfl rfl ?_
        refine z_geti 7 21 0 B 40 rfl ob_0 rfl (iX7_tell _ (List.mem_of_getElem? (i := 1) rfl)) rfl ?_
        refine z_iconst 1 B 41 rfl (by decide) ?_
        refine z_iadd B 42 rfl ?_
        refine z_puti 7 21 0 B 43 rfl ob_0 rfl (iX7_tell _ (List.mem_of_getElem? (i := 1) rfl)) rfl (ty := .int) (by decide) rfl rfl rfl ?_
        obtain ⟨m12, ex, hf⟩ := nm_x hf
        refine z_mem ex ?_
        refine z_goto B 44 rfl 49 (by decide) ?_
        refine z_sub [(0, .ref 0), (1, .int r11.1)] [1, 0] rfl ?_
        exact ih _ _ hf
def f7_tell_l7 : Nat → Int32 → Mem → Option (Int32 × Mem)
  | 0, _, _ => none
  | n + 1, x1, mm => if x1 < (235 : Int32) then rdc 1 x1 (nm (mm 1 x1.toNatClampNeg) (fun v13 => rdc 4 x1 (nm (up2 mm 4 x1.toNatClampNeg v13) (fun m14 => nm (x1 + 1) (fun v15 => f7_tell_l7 n v15 m14))))) else nm (up2 mm 0 21 (0 : Int32)) (fun m2 => nm (up2 m2 0 17 (0 : Int32)) (fun m3 => nm (up2 m3 0 18 (0 : Int32)) (fun m4 => f7_tell_l49 FU (1 : Int32) m4)))
theorem f7_tell_l7_ok {E : Ev} {l : Launch} {C : Cfg} {x : (Int32 × Mem)} (hj : Dj C) (X : Ec E l C rmX7_tell) (B : Bx E RX7 tbX7_tell 3 (some .int)) (hQ : Rt E) (hr : Rs E (some (.int x.1)) x.2) (n : Nat) : ∀ (x1 : Int32) (mm : Mem), f7_tell_l7 n x1 mm = some x → G E 3 7 [(0, .ref 0), (1, .int x1)] [] mm := by
  induction n with
  | zero =>
    intro x1 mm hf
    rw [f7_tell_l7] at hf
    cases hf
  | succ n ih =>
    intro x1 mm hf
    rw [f7_tell_l7] at hf
    refine z_iload_n B 5 rfl 1 1 rfl rfl ?_
    refine z_sipush 235 B 6 rfl (by decide) ?_
    by_cases hc : x1 < (235 : Int32)
    · replace hf := (if_pos hc).symm.trans hf
      refine z_icmp_ge_f B 7 rfl 32 (by decide) hc ?_
      refine z_aload_n B 8 rfl 0 0 rfl rfl ?_
      refine z_getr 7 4 0 B 9 rfl ob_0 rfl (iX7_tell _ (List.mem_of_getElem? (i := 7) rfl)) rfl ?_
      refine z_iload_n B 10 rfl 1 1 rfl rfl ?_
      refine z_aload_n B 11 rfl 0 0 rfl rfl ?_
      refine z_getr 7 1 0 B 12 rfl ob_0 rfl (iX7_tell _ (List.mem_of_getElem? (i := 6) rfl)) rfl ?_
      refine z_iload_n B 13 rfl 1 1 rfl rfl ?_
      obtain ⟨hx, hf⟩ := rdc_e hf
      refine z_iald B 14 rfl ob_1 hx ?_
      obtain ⟨v13, ex, hf⟩ := nm_x hf
      refine z_top ex ?_
      obtain ⟨hx, hf⟩ := rdc_e hf
      refine z_iast B 15 rfl ob_4 hx ?_
      obtain ⟨m14, ex, hf⟩ := nm_x hf
      refine z_mem ex ?_
      obtain ⟨v15, ex, hf⟩ := nm_x hf
      refine z_iinc v15 [(1, .int v15), (0, .ref 0)] B 16 rfl 1 rfl (ex.symm) (by decide) rfl ?_
      refine z_goto B 17 rfl 7 (by decide) ?_
      refine z_sub [(0, .ref 0), (1, .int v15)] [1, 0] rfl ?_
      exact ih _ _ hf
    · replace hf := (if_neg hc).symm.trans hf
      refine z_icmp_ge_t B 7 rfl 32 (by decide) hc ?_
      refine z_aload_n B 18 rfl 0 0 rfl rfl ?_
      refine z_iconst 0 B 19 rfl (by decide) ?_
      refine z_puti 7 21 0 B 20 rfl ob_0 rfl (iX7_tell _ (List.mem_of_getElem? (i := 1) rfl)) rfl (ty := .int) (by decide) rfl rfl rfl ?_
      obtain ⟨m2, ex, hf⟩ := nm_x hf
      refine z_mem ex ?_
      refine z_aload_n B 21 rfl 0 0 rfl rfl ?_
      refine z_iconst 0 B 22 rfl (by decide) ?_
      refine z_puti 7 17 0 B 23 rfl ob_0 rfl (iX7_tell _ (List.mem_of_getElem? (i := 2) rfl)) rfl (ty := .int) (by decide) rfl rfl rfl ?_
      obtain ⟨m3, ex, hf⟩ := nm_x hf
      refine z_mem ex ?_
      refine z_aload_n B 24 rfl 0 0 rfl rfl ?_
      refine z_iconst 0 B 25 rfl (by decide) ?_
      refine z_puti 7 18 0 B 26 rfl ob_0 rfl (iX7_tell _ (List.mem_of_getElem? (i := 3) rfl)) rfl (ty := .int) (by decide) rfl rfl rfl ?_
      obtain ⟨m4, ex, hf⟩ := nm_x hf
      refine z_mem ex ?_
      refine z_iconst 1 B 27 rfl (by decide) ?_
      refine z_istore_n [(1, .int (1 : Int32)), (0, .ref 0)] B 28 rfl 1 rfl (by decide) rfl ?_
      refine z_sub [(0, .ref 0), (1, .int (1 : Int32))] [1, 0] rfl ?_
      exact f7_tell_l49_ok hj X B hQ hr FU _ _ hf
def f7_tell (mm : Mem) : Option (Int32 × Mem) := nm (up2 mm 0 0 (0 : Int32)) (fun m1 => f7_tell_l7 FU (0 : Int32) m1)
theorem ctX7_tell {l : Launch} {C : Cfg} (hj : Dj C) {mm : Mem} {x : (Int32 × Mem)} (hf : f7_tell mm = some x) : Ct l C yX7_tell cX7_tell 3 (some .int) 5 116 [.ref 0] mm (some (.int x.1)) x.2 := by
  refine Ct.of (tb := tbX7_tell) hj miX7_tell.2.1 miX7_tell.1 dtX7_tell (Nat.le_of_ble_eq_true rfl) ?_
  intro E B hQ hr X
  unfold f7_tell at hf
  show G E 3 0 [(0, .ref 0)] [] mm
  refine z_aload_n B 0 rfl 0 0 rfl rfl ?_
  refine z_iconst 0 B 1 rfl (by decide) ?_
  refine z_puti 7 0 0 B 2 rfl ob_0 rfl (iX7_tell _ (List.mem_of_getElem? (i := 0) rfl)) rfl (ty := .int) (by decide) rfl rfl rfl ?_
  obtain ⟨m1, ex, hf⟩ := nm_x hf
  refine z_mem ex ?_
  refine z_iconst 0 B 3 rfl (by decide) ?_
  refine z_istore_n [(1, .int (0 : Int32)), (0, .ref 0)] B 4 rfl 1 rfl (by decide) rfl ?_
  refine z_sub [(0, .ref 0), (1, .int (0 : Int32))] [1, 0] rfl ?_
  exact f7_tell_l7_ok hj X B hQ hr FU _ _ hf
