/-! ZoneCapacityModel.paid(I)J -/
def tbX7_paid : Tb := [(0, .aload_n 0, 1, 1), (1, .iconst 0, 1, 2), (2, .putfield 50, 3, 5), (5, .aload_n 0, 1, 6), (6, .iload_n 1, 1, 7), (7, .invokevirtual 135, 3, 10), (10, .ifCond .ne 18, 3, 13), (13, .iload_n 1, 1, 14), (14, .bipush 100, 2, 16), (16, .bipush 105, 2, 18), (18, .invokestatic 54, 3, 21), (21, .ifCond .ne 7, 3, 24), (24, .ldc2_w 166, 3, 27), (27, .lreturn, 1, 28), (28, .aload_n 0, 1, 29), (29, .invokevirtual 156, 3, 32), (32, .iload_n 1, 1, 33), (33, .bipush 100, 2, 35), (35, .if_icmp .ge 9, 3, 38), (38, .aload_n 0, 1, 39), (39, .iload_n 1, 1, 40), (40, .invokevirtual 168, 3, 43), (43, .lreturn, 1, 44), (44, .lconst 0, 1, 45), (45, .lstore_n 2, 1, 46), (46, .iconst 0, 1, 47), (47, .istore 4, 2, 49), (49, .iload 4, 2, 51), (51, .aload_n 0, 1, 52), (52, .getfield 7, 3, 55), (55, .iconst 1, 1, 56), (56, .iaload, 1, 57), (57, .if_icmp .ge 36, 3, 60), (60, .lload_n 2, 1, 61), (61, .aload_n 0, 1, 62), (62, .iload 4, 2, 64), (64, .iconst 3, 1, 65), (65, .invokevirtual 75, 3, 68), (68, .iload_n 1, 1, 69), (69, .bipush 100, 2, 71), (71, .isub, 1, 72), (72, .if_icmp .ne 12, 3, 75), (75, .aload_n 0, 1, 76), (76, .iload 4, 2, 78), (78, .invokevirtual 168, 3, 81), (81, .goto 4, 3, 84), (84, .lconst 0, 1, 85), (85, .ladd, 1, 86), (86, .lstore_n 2, 1, 87), (87, .iinc 4 1, 3, 90), (90, .goto (-41), 3, 93), (93, .lload_n 2, 1, 94), (94, .lreturn, 1, 95)]
theorem dtX7_paid : ∀ q ∈ tbX7_paid, decode cX7_paid q.1 = .ok (q.2.1, q.2.2.1) ∧ q.1 + q.2.2.1 = q.2.2.2 := by decide +kernel
theorem miX7_paid : MI yX7_paid cX7_paid 5 (some .long) 1 := ⟨tw_mem (List.mem_of_getElem? (i := 1224) (by decide +kernel)) rfl, by decide, by decide +kernel, tw_mem (List.mem_of_getElem? (i := 78) (by decide +kernel)) rfl⟩
abbrev rmX7_paid : Room := { frames := 8, cells := 0, slots := 0, locals := 191 }
def wX7_paid : List Cond := [.fieldLink "ZoneCapacityModel" 50 "ZoneCapacityModel" "raised" "I", .methodLink "ZoneCapacityModel" 135 yX7_isResource, .instanceMethod yX7_isResource, .selects "ZoneCapacityModel" yX7_isResource yX7_isResource, .methodLink "ZoneCapacityModel" 156 yX7_clearsAll, .instanceMethod yX7_clearsAll, .selects "ZoneCapacityModel" yX7_clearsAll yX7_clearsAll, .fieldLink "ZoneCapacityModel" 7 "ZoneCapacityModel" "w" "[I", .methodLink "ZoneCapacityModel" 75 yX7_ofResource, .instanceMethod yX7_ofResource, .selects "ZoneCapacityModel" yX7_ofResource yX7_ofResource, .methodLink "ZoneCapacityModel" 168 yX7_paidTo, .instanceMethod yX7_paidTo, .selects "ZoneCapacityModel" yX7_paidTo yX7_paidTo, .methodLink "ZoneCapacityModel" 54 yX7_in, .static yX7_in, .constantLong "ZoneCapacityModel" 166 (-1000000000000000)]
theorem iX7_paid : ∀ w ∈ wX7_paid, w ∈ TW := tw_of (ids := [938, 1063, 1065, 32, 1168, 1170, 46, 939, 1067, 1069, 33, 1225, 1227, 53, 1021, 1022, 1220]) (by decide +kernel)
def f7_paid_j85 (k49 : Int32 → Int64 → Int32 → Mem → Option (Int64 × Mem)) (x1 : Int32) (x4 : Int32) (s0 : Int64) (s1 : Int64) (mm : Mem) : Option (Int64 × Mem) := nm (s1 + s0) (fun v6 => nm (x4 + 1) (fun v7 => k49 x1 v6 v7 mm))
theorem f7_paid_j85_ok {E : Ev} {l : Launch} {C : Cfg} {x : (Int64 × Mem)} {k49 : Int32 → Int64 → Int32 → Mem → Option (Int64 × Mem)} (hj : Dj C) (X : Ec E l C rmX7_paid) (B : Bx E RX7 tbX7_paid 5 (some .long)) (hQ : Rt E) (hr : Rs E (some (.long x.1)) x.2) (hk49 : ∀ (x1 : Int32) (x2 : Int64) (x4 : Int32) (mm : Mem), k49 x1 x2 x4 mm = some x → G E 5 49 [(0, .ref 0), (1, .int x1), (2, .long x2), (4, .int x4)] [] mm) (x1 : Int32) (x4 : Int32) (s0 : Int64) (s1 : Int64) (mm : Mem) (hf : f7_paid_j85 k49 x1 x4 s0 s1 mm = some x) : G E 5 85 [(0, .ref 0), (1, .int x1), (4, .int x4)] [.long s0, .long s1] mm := by
  unfold f7_paid_j85 at hf
  refine z_ladd B 47 rfl ?_
  obtain ⟨v6, ex, hf⟩ := nm_x hf
  refine z_topl ex ?_
  refine z_lstore_n [(2, .long v6), (0, .ref 0), (1, .int x1), (4, .int x4)] B 48 rfl 2 rfl (by decide) rfl ?_
  obtain ⟨v7, ex, hf⟩ := nm_x hf
  refine z_iinc v7 [(4, .int v7), (2, .long v6), (0, .ref 0), (1, .int x1)] B 49 rfl 3 rfl (ex.symm) (by decide) rfl ?_
  refine z_goto B 50 rfl 49 (by decide) ?_
  refine z_sub [(0, .ref 0), (1, .int x1), (2, .long v6), (4, .int v7)] [2, 3, 1, 0] rfl ?_
  exact hk49 _ _ _ _ hf
def f7_paid_l49 : Nat → Int32 → Int64 → Int32 → Mem → Option (Int64 × Mem)
  | 0, _, _, _, _ => none
  | n + 1, x1, x2, x4, mm => rdc 1 (1 : Int32) (nm (mm 1 (1 : Int32).toNatClampNeg) (fun v4 => if x4 < v4 then bd (f7_ofResource mm x4 (3 : Int32)) (fun r5 => if r5 = (x1 - (100 : Int32)) then bd (f7_paidTo mm x4) (fun r8 => f7_paid_j85 (fun x1 x2 x4 mm => f7_paid_l49 n x1 x2 x4 mm) x1 x4 r8 x2 mm) else f7_paid_j85 (fun x1 x2 x4 mm => f7_paid_l49 n x1 x2 x4 mm) x1 x4 (0 : Int64) x2 mm) else some (x2, mm)))
theorem f7_paid_l49_ok {E : Ev} {l : Launch} {C : Cfg} {x : (Int64 × Mem)} (hj : Dj C) (X : Ec E l C rmX7_paid) (B : Bx E RX7 tbX7_paid 5 (some .long)) (hQ : Rt E) (hr : Rs E (some (.long x.1)) x.2) (n : Nat) : ∀ (x1 : Int32) (x2 : Int64) (x4 : Int32) (mm : Mem), f7_paid_l49 n x1 x2 x4 mm = some x → G E 5 49 [(0, .ref 0), (1, .int x1), (2, .long x2), (4, .int x4)] [] mm := by
  induction n with
  | zero =>
    intro x1 x2 x4 mm hf
    rw [f7_paid_l49] at hf
    cases hf
  | succ n ih =>
    intro x1 x2 x4 mm hf
    rw [f7_paid_l49] at hf
    refine z_iload B 27 rfl 3 rfl ?_
    refine z_aload_n B 28 rfl 0 0 rfl rfl ?_
    refine z_getr 7 1 0 B 29 rfl ob_0 rfl (iX7_paid _ (List.mem_of_getElem? (i := 7) rfl)) rfl ?_
    refine z_iconst 1 B 30 rfl (by decide) ?_
    obtain ⟨hx, hf⟩ := rdc_e hf
    refine z_iald B 31 rfl ob_1 hx ?_
    obtain ⟨v4, ex, hf⟩ := nm_x hf
    refine z_top ex ?_
    by_cases hc : x4 < v4
    · replace hf := (if_pos hc).symm.trans hf
      refine z_icmp_ge_f B 32 rfl 93 (by decide) hc ?_
      refine z_lload_n B 33 rfl 2 2 rfl rfl ?_
      refine z_aload_n B 34 rfl 0 0 rfl rfl ?_
      refine z_iload B 35 rfl 3 rfl ?_
      refine z_iconst 3 B 36 rfl (by decide) ?_
      obtain ⟨r5, ec, hf⟩ := bd_e hf
      refine z_callV 0 7 [.int x4, .int (3 : Int32)] [.long x2] [.int r5, .long x2] X B 37 rfl ob_0 rfl rfl miX7_ofResource ⟨(iX7_paid _ (List.mem_of_getElem? (i := 8) rfl)), (iX7_paid _ (List.mem_of_getElem? (i := 9) rfl)), (iX7_paid _ (List.mem_of_getElem? (i := 10) rfl))⟩ (ctX7_ofResource hj ec) ⟨Nat.le_of_ble_eq_true rfl, Nat.le_of_ble_eq_true rfl⟩ rfl rfl (Nat.le_of_ble_eq_true rfl) rfl ?_
      refine z_iload_n B 38 rfl 1 1 rfl rfl ?_
      refine z_bipush 100 B 39 rfl (by decide) ?_
      refine z_isub B 40 rfl ?_
      by_cases hc : r5 = (x1 - (100 : Int32))
      · replace hf := (if_pos hc).symm.trans hf
        refine z_icmp_ne_f B 41 rfl 84 (by decide) hc ?_
        refine z_aload_n B 42 rfl 0 0 rfl rfl ?_
        refine z_iload B 43 rfl 3 rfl ?_
        obtain ⟨r8, ec, hf⟩ := bd_e hf
        refine z_callV 0 7 [.int x4] [.long x2] [.long r8, .long x2] X B 44 rfl ob_0 rfl rfl miX7_paidTo ⟨(iX7_paid _ (List.mem_of_getElem? (i := 11) rfl)), (iX7_paid _ (List.mem_of_getElem? (i := 12) rfl)), (iX7_paid _ (List.mem_of_getElem? (i := 13) rfl))⟩ (ctX7_paidTo hj ec) ⟨Nat.le_of_ble_eq_true rfl, Nat.le_of_ble_eq_true rfl⟩ rfl rfl (Nat.le_of_ble_eq_true rfl) rfl ?_
        refine z_goto B 45 rfl 85 (by decide) ?_
        refine z_sub [(0, .ref 0), (1, .int x1), (4, .int x4)] [0, 1, 3] rfl ?_
        exact f7_paid_j85_ok hj X B hQ hr ih _ _ _ _ _ hf
      · replace hf := (if_neg hc).symm.trans hf
        refine z_icmp_ne_t B 41 rfl 84 (by decide) hc ?_
        refine z_lconst 0 B 46 rfl (by decide) ?_
        refine z_sub [(0, .ref 0), (1, .int x1), (4, .int x4)] [0, 1, 3] rfl ?_
        exact f7_paid_j85_ok hj X B hQ hr ih _ _ _ _ _ hf
    · replace hf := (if_neg hc).symm.trans hf
      refine z_icmp_ge_t B 32 rfl 93 (by decide) hc ?_
      refine z_lload_n B 51 rfl 2 2 rfl rfl ?_
      cases hf
      exact z_lret B 52 rfl hQ hr
def f7_paid_j28 (x1 : Int32) (mm : Mem) : Option (Int64 × Mem) := bd (f7_clearsAll mm) (fun r3 => if x1 < (100 : Int32) then bd (f7_paidTo r3 x1) (fun r9 => some (r9, r3)) else f7_paid_l49 FU x1 (0 : Int64) (0 : Int32) r3)
theorem f7_paid_j28_ok {E : Ev} {l : Launch} {C : Cfg} {x : (Int64 × Mem)} (hj : Dj C) (X : Ec E l C rmX7_paid) (B : Bx E RX7 tbX7_paid 5 (some .long)) (hQ : Rt E) (hr : Rs E (some (.long x.1)) x.2) (x1 : Int32) (mm : Mem) (hf : f7_paid_j28 x1 mm = some x) : G E 5 28 [(0, .ref 0), (1, .int x1)] [] mm := by
  unfold f7_paid_j28 at hf
  refine z_aload_n B 14 rfl 0 0 rfl rfl ?_
  obtain ⟨r3, ec, hf⟩ := bd_e hf
  refine z_callV 0 7 [] [] [] X B 15 rfl ob_0 rfl rfl miX7_clearsAll ⟨(iX7_paid _ (List.mem_of_getElem? (i := 4) rfl)), (iX7_paid _ (List.mem_of_getElem? (i := 5) rfl)), (iX7_paid _ (List.mem_of_getElem? (i := 6) rfl))⟩ (ctX7_clearsAll hj ec) ⟨Nat.le_of_ble_eq_true rfl, Nat.le_of_ble_eq_true rfl⟩ rfl rfl (Nat.le_of_ble_eq_true rfl) rfl ?_
  refine z_iload_n B 16 rfl 1 1 rfl rfl ?_
  refine z_bipush 100 B 17 rfl (by decide) ?_
  by_cases hc : x1 < (100 : Int32)
  · replace hf := (if_pos hc).symm.trans hf
    refine z_icmp_ge_f B 18 rfl 44 (by decide) hc ?_
    refine z_aload_n B 19 rfl 0 0 rfl rfl ?_
    refine z_iload_n B 20 rfl 1 1 rfl rfl ?_
    obtain ⟨r9, ec, hf⟩ := bd_e hf
    refine z_callV 0 7 [.int x1] [] [.long r9] X B 21 rfl ob_0 rfl rfl miX7_paidTo ⟨(iX7_paid _ (List.mem_of_getElem? (i := 11) rfl)), (iX7_paid _ (List.mem_of_getElem? (i := 12) rfl)), (iX7_paid _ (List.mem_of_getElem? (i := 13) rfl))⟩ (ctX7_paidTo hj ec) ⟨Nat.le_of_ble_eq_true rfl, Nat.le_of_ble_eq_true rfl⟩ rfl rfl (Nat.le_of_ble_eq_true rfl) rfl ?_
    cases hf
    exact z_lret B 22 rfl hQ hr
  · replace hf := (if_neg hc).symm.trans hf
    refine z_icmp_ge_t B 18 rfl 44 (by decide) hc ?_
    refine z_lconst 0 B 23 rfl (by decide) ?_
    refine z_lstore_n [(2, .long (0 : Int64)), (0, .ref 0), (1, .int x1)] B 24 rfl 2 rfl (by decide) rfl ?_
    refine z_iconst 0 B 25 rfl (by decide) ?_
    refine z_istore [(4, .int (0 : Int32)), (2, .long (0 : Int64)), (0, .ref 0), (1, .int x1)] B 26 rfl (by decide) rfl ?_
    refine z_sub [(0, .ref 0), (1, .int x1), (2, .long (0 : Int64)), (4, .int (0 : Int32))] [2, 3, 1, 0] rfl ?_
    exact f7_paid_l49_ok hj X B hQ hr FU _ _ _ _ hf
def f7_paid (mm : Mem) (a1 : Int32) : Option (Int64 × Mem) := nm (up2 mm 0 0 (0 : Int32)) (fun m1 => bd (f7_isResource m1 a1) (fun r2 => if r2 = 0 then bd (f7_in m1 a1 (100 : Int32) (105 : Int32)) (fun r10 => if r10 = 0 then some ((-1000000000000000 : Int64), m1) else f7_paid_j28 a1 m1) else f7_paid_j28 a1 m1))
theorem ctX7_paid {l : Launch} {C : Cfg} (hj : Dj C) {mm : Mem} {a1 : Int32} {x : (Int64 × Mem)} (hf : f7_paid mm a1 = some x) : Ct l C yX7_paid cX7_paid 5 (some .long) 8 191 [.ref 0, .int a1] mm (some (.long x.1)) x.2 := by
  refine Ct.of (tb := tbX7_paid) hj miX7_paid.2.1 miX7_paid.1 dtX7_paid (Nat.le_of_ble_eq_true rfl) ?_
  intro E B hQ hr X
  unfold f7_paid at hf
  show G E 5 0 [(0, .ref 0), (1, .int a1)] [] mm
  refine z_aload_n B 0 rfl 0 0 rfl rfl ?_
  refine z_iconst 0 B 1 rfl (by decide) ?_
  refine z_puti 7 0 0 B 2 rfl ob_0 rfl (iX7_paid _ (List.mem_of_getElem? (i := 0) rfl)) rfl (ty := .int) (by decide) rfl rfl rfl ?_
  obtain ⟨m1, ex, hf⟩ := nm_x hf
  refine z_mem ex ?_
  refine z_aload_n B 3 rfl 0 0 rfl rfl ?_
  refine z_iload_n B 4 rfl 1 1 rfl rfl ?_
  obtain ⟨r2, ec, hf⟩ := bd_e hf
  refine z_callV 0 7 [.int a1] [] [.int r2] X B 5 rfl ob_0 rfl rfl miX7_isResource ⟨(iX7_paid _ (List.mem_of_getElem? (i := 1) rfl)), (iX7_paid _ (List.mem_of_getElem? (i := 2) rfl)), (iX7_paid _ (List.mem_of_getElem? (i := 3) rfl))⟩ (ctX7_isResource hj ec) ⟨Nat.le_of_ble_eq_true rfl, Nat.le_of_ble_eq_true rfl⟩ rfl rfl (Nat.le_of_ble_eq_true rfl) rfl ?_
  by_cases hc : r2 = 0
  · replace hf := (if_pos hc).symm.trans hf
    refine z_if_ne_f B 6 rfl 28 (by decide) hc ?_
    refine z_iload_n B 7 rfl 1 1 rfl rfl ?_
    refine z_bipush 100 B 8 rfl (by decide) ?_
    refine z_bipush 105 B 9 rfl (by decide) ?_
    obtain ⟨r10, ec, hf⟩ := bd_e hf
    refine z_callS [.int a1, .int (100 : Int32), .int (105 : Int32)] [] [.int r10] X B 10 rfl miX7_in ⟨(iX7_paid _ (List.mem_of_getElem? (i := 14) rfl)), (iX7_paid _ (List.mem_of_getElem? (i := 15) rfl))⟩ (ctX7_in hj ec) ⟨Nat.le_of_ble_eq_true rfl, Nat.le_of_ble_eq_true rfl⟩ rfl rfl (Nat.le_of_ble_eq_true rfl) rfl ?_
    by_cases hc : r10 = 0
    · replace hf := (if_pos hc).symm.trans hf
      refine z_if_ne_f B 11 rfl 28 (by decide) hc ?_
      refine z_ldc2 (-1000000000000000) B 12 rfl (iX7_paid _ (List.mem_of_getElem? (i := 16) rfl)) ?_
      cases hf
      exact z_lret B 13 rfl hQ hr
    · replace hf := (if_neg hc).symm.trans hf
      refine z_if_ne_t B 11 rfl 28 (by decide) hc ?_
      exact f7_paid_j28_ok hj X B hQ hr _ _ hf
  · replace hf := (if_neg hc).symm.trans hf
    refine z_if_ne_t B 6 rfl 28 (by decide) hc ?_
    exact f7_paid_j28_ok hj X B hQ hr _ _ hf
/-! ZoneCapacityModel.charged(I)J -/
def tbX7_charged : Tb := [(0, .aload_n 0, 1, 1), (1, .iconst 0, 1, 2), (2, .putfield 50, 3, 5), (5, .aload_n 0, 1, 6), (6, .iload_n 1, 1, 7), (7, .invokevirtual 117, 3, 10), (10, .ifCond .ne 7, 3, 13), (13, .ldc2_w 166, 3, 16), (16, .lreturn, 1, 17), (17, .aload_n 0, 1, 18), (18, .invokevirtual 156, 3, 21), (21, .aload_n 0, 1, 22), (22, .getfield 29, 3, 25), (25, .iload_n 1, 1, 26), (26, .iaload, 1, 27), (27, .i2l, 1, 28), (28, .aload_n 0, 1, 29), (29, .getfield 35, 3, 32), (32, .iload_n 1, 1, 33), (33, .iaload, 1, 34), (34, .i2l, 1, 35), (35, .lmul, 1, 36), (36, .lreturn, 1, 37)]
theorem dtX7_charged : ∀ q ∈ tbX7_charged, decode cX7_charged q.1 = .ok (q.2.1, q.2.2.1) ∧ q.1 + q.2.2.1 = q.2.2.2 := by decide +kernel
theorem miX7_charged : MI yX7_charged cX7_charged 2 (some .long) 1 := ⟨tw_mem (List.mem_of_getElem? (i := 1232) (by decide +kernel)) rfl, by decide, by decide +kernel, tw_mem (List.mem_of_getElem? (i := 78) (by decide +kernel)) rfl⟩
abbrev rmX7_charged : Room := { frames := 8, cells := 0, slots := 0, locals := 191 }
def wX7_charged : List Cond := [.fieldLink "ZoneCapacityModel" 50 "ZoneCapacityModel" "raised" "I", .methodLink "ZoneCapacityModel" 117 yX7_isZone, .instanceMethod yX7_isZone, .selects "ZoneCapacityModel" yX7_isZone yX7_isZone, .methodLink "ZoneCapacityModel" 156 yX7_clearsAll, .instanceMethod yX7_clearsAll, .selects "ZoneCapacityModel" yX7_clearsAll yX7_clearsAll, .fieldLink "ZoneCapacityModel" 29 "ZoneCapacityModel" "prices" "[I", .fieldLink "ZoneCapacityModel" 35 "ZoneCapacityModel" "serves" "[I", .constantLong "ZoneCapacityModel" 166 (-1000000000000000)]
theorem iX7_charged : ∀ w ∈ wX7_charged, w ∈ TW := tw_of (ids := [938, 1017, 1019, 25, 1168, 1170, 46, 947, 949, 1220]) (by decide +kernel)
def f7_charged (mm : Mem) (a1 : Int32) : Option (Int64 × Mem) := nm (up2 mm 0 0 (0 : Int32)) (fun m1 => bd (f7_isZone m1 a1) (fun r2 => if r2 = 0 then some ((-1000000000000000 : Int64), m1) else bd (f7_clearsAll m1) (fun r3 => rdc 7 a1 (nm (r3 7 a1.toNatClampNeg) (fun v4 => rdc 9 a1 (nm (r3 9 a1.toNatClampNeg) (fun v5 => some (v4.toInt64 * v5.toInt64, r3))))))))
theorem ctX7_charged {l : Launch} {C : Cfg} (hj : Dj C) {mm : Mem} {a1 : Int32} {x : (Int64 × Mem)} (hf : f7_charged mm a1 = some x) : Ct l C yX7_charged cX7_charged 2 (some .long) 8 191 [.ref 0, .int a1] mm (some (.long x.1)) x.2 := by
  refine Ct.of (tb := tbX7_charged) hj miX7_charged.2.1 miX7_charged.1 dtX7_charged (Nat.le_of_ble_eq_true rfl) ?_
  intro E B hQ hr X
  unfold f7_charged at hf
  show G E 2 0 [(0, .ref 0), (1, .int a1)] [] mm
  refine z_aload_n B 0 rfl 0 0 rfl rfl ?_
  refine z_iconst 0 B 1 rfl (by decide) ?_
  refine z_puti 7 0 0 B 2 rfl ob_0 rfl (iX7_charged _ (List.mem_of_getElem? (i := 0) rfl)) rfl (ty := .int) (by decide) rfl rfl rfl ?_
  obtain ⟨m1, ex, hf⟩ := nm_x hf
  refine z_mem ex ?_
  refine z_aload_n B 3 rfl 0 0 rfl rfl ?_
  refine z_iload_n B 4 rfl 1 1 rfl rfl ?_
  obtain ⟨r2, ec, hf⟩ := bd_e hf
  refine z_callV 0 7 [.int a1] [] [.int r2] X B 5 rfl ob_0 rfl rfl miX7_isZone ⟨(iX7_charged _ (List.mem_of_getElem? (i := 1) rfl)), (iX7_charged _ (List.mem_of_getElem? (i := 2) rfl)), (iX7_charged _ (List.mem_of_getElem? (i := 3) rfl))⟩ (ctX7_isZone hj ec) ⟨Nat.le_of_ble_eq_true rfl, Nat.le_of_ble_eq_true rfl⟩ rfl rfl (Nat.le_of_ble_eq_true rfl) rfl ?_
  by_cases hc : r2 = 0
  · replace hf := (if_pos hc).symm.trans hf
    refine z_if_ne_f B 6 rfl 17 (by decide) hc ?_
    refine z_ldc2 (-1000000000000000) B 7 rfl (iX7_charged _ (List.mem_of_getElem? (i := 9) rfl)) ?_
    cases hf
    exact z_lret B 8 rfl hQ hr
  · replace hf := (if_neg hc).symm.trans hf
    refine z_if_ne_t B 6 rfl 17 (by decide) hc ?_
    refine z_aload_n B 9 rfl 0 0 rfl rfl ?_
    obtain ⟨r3, ec, hf⟩ := bd_e hf
    refine z_callV 0 7 [] [] [] X B 10 rfl ob_0 rfl rfl miX7_clearsAll ⟨(iX7_charged _ (List.mem_of_getElem? (i := 4) rfl)), (iX7_charged _ (List.mem_of_getElem? (i := 5) rfl)), (iX7_charged _ (List.mem_of_getElem? (i := 6) rfl))⟩ (ctX7_clearsAll hj ec) ⟨Nat.le_of_ble_eq_true rfl, Nat.le_of_ble_eq_true rfl⟩ rfl rfl (Nat.le_of_ble_eq_true rfl) rfl ?_
    refine z_aload_n B 11 rfl 0 0 rfl rfl ?_
    refine z_getr 7 9 0 B 12 rfl ob_0 rfl (iX7_charged _ (List.mem_of_getElem? (i := 7) rfl)) rfl ?_
    refine z_iload_n B 13 rfl 1 1 rfl rfl ?_
    obtain ⟨hx, hf⟩ := rdc_e hf
    refine z_iald B 14 rfl ob_7 hx ?_
    obtain ⟨v4, ex, hf⟩ := nm_x hf
    refine z_top ex ?_
    refine z_i2l B 15 rfl ?_
    refine z_aload_n B 16 rfl 0 0 rfl rfl ?_
    refine z_getr 7 11 0 B 17 rfl ob_0 rfl (iX7_charged _ (List.mem_of_getElem? (i := 8) rfl)) rfl ?_
    refine z_iload_n B 18 rfl 1 1 rfl rfl ?_
    obtain ⟨hx, hf⟩ := rdc_e hf
    refine z_iald B 19 rfl ob_9 hx ?_
    obtain ⟨v5, ex, hf⟩ := nm_x hf
    refine z_top ex ?_
    refine z_i2l B 20 rfl ?_
    refine z_lmul B 21 rfl ?_
    cases hf
    exact z_lret B 22 rfl hQ hr
/-! ZoneCapacityModel.without(II)I -/
def tbX7_without : Tb := [(0, .aload_n 0, 1, 1), (1, .iconst 0, 1, 2), (2, .putfield 50, 3, 5), (5, .aload_n 0, 1, 6), (6, .iload_n 1, 1, 7), (7, .invokevirtual 135, 3, 10), (10, .ifCond .eq 11, 3, 13), (13, .aload_n 0, 1, 14), (14, .iload_n 2, 1, 15), (15, .invokevirtual 117, 3, 18), (18, .ifCond .ne 5, 3, 21), (21, .iconst (-1), 1, 22), (22, .ireturn, 1, 23), (23, .aload_n 0, 1, 24), (24, .iconst 0, 1, 25), (25, .putfield 78, 3, 28), (28, .aload_n 0, 1, 29), (29, .iconst 1, 1, 30), (30, .iload_n 1, 1, 31), (31, .ishl, 1, 32), (32, .putfield 85, 3, 35), (35, .aload_n 0, 1, 36), (36, .invokevirtual 114, 3, 39), (39, .aload_n 0, 1, 40), (40, .getfield 29, 3, 43), (43, .iload_n 2, 1, 44), (44, .iaload, 1, 45), (45, .ireturn, 1, 46)]
theorem dtX7_without : ∀ q ∈ tbX7_without, decode cX7_without q.1 = .ok (q.2.1, q.2.2.1) ∧ q.1 + q.2.2.1 = q.2.2.2 := by decide +kernel
theorem miX7_without : MI yX7_without cX7_without 3 (some .int) 2 := ⟨tw_mem (List.mem_of_getElem? (i := 1236) (by decide +kernel)) rfl, by decide, by decide +kernel, tw_mem (List.mem_of_getElem? (i := 78) (by decide +kernel)) rfl⟩
abbrev rmX7_without : Room := { frames := 7, cells := 0, slots := 0, locals := 171 }
def wX7_without : List Cond := [.fieldLink "ZoneCapacityModel" 50 "ZoneCapacityModel" "raised" "I", .methodLink "ZoneCapacityModel" 135 yX7_isResource, .instanceMethod yX7_isResource, .selects "ZoneCapacityModel" yX7_isResource yX7_isResource, .methodLink "ZoneCapacityModel" 117 yX7_isZone, .instanceMethod yX7_isZone, .selects "ZoneCapacityModel" yX7_isZone yX7_isZone, .fieldLink "ZoneCapacityModel" 78 "ZoneCapacityModel" "noFloors" "Z", .fieldLink "ZoneCapacityModel" 85 "ZoneCapacityModel" "gone" "I", .methodLink "ZoneCapacityModel" 114 yX7_clears, .instanceMethod yX7_clears, .selects "ZoneCapacityModel" yX7_clears yX7_clears, .fieldLink "ZoneCapacityModel" 29 "ZoneCapacityModel" "prices" "[I"]
theorem iX7_without : ∀ w ∈ wX7_without, w ∈ TW := tw_of (ids := [938, 1063, 1065, 32, 1017, 1019, 25, 944, 943, 1172, 1174, 47, 947]) (by decide +kernel)
def f7_without (mm : Mem) (a1 : Int32) (a2 : Int32) : Option (Int32 × Mem) := nm (up2 mm 0 0 (0 : Int32)) (fun m1 => bd (f7_isResource m1 a1) (fun r2 => if r2 = 0 then some ((-1 : Int32), m1) else bd (f7_isZone m1 a2) (fun r3 => if r3 = 0 then some ((-1 : Int32), m1) else nm (up2 m1 0 6 (0 : Int32)) (fun m4 => nm (up2 m4 0 5 ((1 : Int32) <<< (a1 &&& 31))) (fun m5 => bd (f7_clears m5) (fun r6 => rdc 7 a2 (nm (r6 7 a2.toNatClampNeg) (fun v7 => some (v7, r6)))))))))
theorem ctX7_without {l : Launch} {C : Cfg} (hj : Dj C) {mm : Mem} {a1 : Int32} {a2 : Int32} {x : (Int32 × Mem)} (hf : f7_without mm a1 a2 = some x) : Ct l C yX7_without cX7_without 3 (some .int) 7 171 [.ref 0, .int a1, .int a2] mm (some (.int x.1)) x.2 := by
  refine Ct.of (tb := tbX7_without) hj miX7_without.2.1 miX7_without.1 dtX7_without (Nat.le_of_ble_eq_true rfl) ?_
  intro E B hQ hr X
  unfold f7_without at hf
  show G E 3 0 [(0, .ref 0), (1, .int a1), (2, .int a2)] [] mm
  refine z_aload_n B 0 rfl 0 0 rfl rfl ?_
  refine z_iconst 0 B 1 rfl (by decide) ?_
  refine z_puti 7 0 0 B 2 rfl ob_0 rfl (iX7_without _ (List.mem_of_getElem? (i := 0) rfl)) rfl (ty := .int) (by decide) rfl rfl rfl ?_
  obtain ⟨m1, ex, hf⟩ := nm_x hf
  refine z_mem ex ?_
  refine z_aload_n B 3 rfl 0 0 rfl rfl ?_
  refine z_iload_n B 4 rfl 1 1 rfl rfl ?_
  obtain ⟨r2, ec, hf⟩ := bd_e hf
  refine z_callV 0 7 [.int a1] [] [.int r2] X B 5 rfl ob_0 rfl rfl miX7_isResource ⟨(iX7_without _ (List.mem_of_getElem? (i := 1) rfl)), (iX7_without _ (List.mem_of_getElem? (i := 2) rfl)), (iX7_without _ (List.mem_of_getElem? (i := 3) rfl))⟩ (ctX7_isResource hj ec) ⟨Nat.le_of_ble_eq_true rfl, Nat.le_of_ble_eq_true rfl⟩ rfl rfl (Nat.le_of_ble_eq_true rfl) rfl ?_
  by_cases hc : r2 = 0
  · replace hf := (if_pos hc).symm.trans hf
    refine z_if_eq_t B 6 rfl 21 (by decide) hc ?_
    refine z_iconst (-1) B 11 rfl (by decide) ?_
    cases hf
    exact z_iret B 12 rfl rfl hQ hr
  · replace hf := (if_neg hc).symm.trans hf
    refine z_if_eq_f B 6 rfl 21 (by decide) hc ?_
    refine z_aload_n B 7 rfl 0 0 rfl rfl ?_
    refine z_iload_n B 8 rfl 2 2 rfl rfl ?_
    obtain ⟨r3, ec, hf⟩ := bd_e hf
    refine z_callV 0 7 [.int a2] [] [.int r3] X B 9 rfl ob_0 rfl rfl miX7_isZone ⟨(iX7_without _ (List.mem_of_getElem? (i := 4) rfl)), (iX7_without _ (List.mem_of_getElem? (i := 5) rfl)), (iX7_without _ (List.mem_of_getElem? (i := 6) rfl))⟩ (ctX7_isZone hj ec) ⟨Nat.le_of_ble_eq_true rfl, Nat.le_of_ble_eq_true rfl⟩ rfl rfl (Nat.le_of_ble_eq_true rfl) rfl ?_
    by_cases hc : r3 = 0
    · replace hf := (if_pos hc).symm.trans hf
      refine z_if_ne_f B 10 rfl 23 (by decide) hc ?_
      refine z_iconst (-1) B 11 rfl (by decide) ?_
      cases hf
      exact z_iret B 12 rfl rfl hQ hr
    · replace hf := (if_neg hc).symm.trans hf
      refine z_if_ne_t B 10 rfl 23 (by decide) hc ?_
      refine z_aload_n B 13 rfl 0 0 rfl rfl ?_
      refine z_iconst 0 B 14 rfl (by decide) ?_
      refine z_puti 7 6 0 B 15 rfl ob_0 rfl (iX7_without _ (List.mem_of_getElem? (i := 7) rfl)) rfl (ty := .boolean) (by decide) rfl (by decide) (by decide) ?_
      obtain ⟨m4, ex, hf⟩ := nm_x hf
      refine z_mem ex ?_
      refine z_aload_n B 16 rfl 0 0 rfl rfl ?_
      refine z_iconst 1 B 17 rfl (by decide) ?_
      refine z_iload_n B 18 rfl 1 1 rfl rfl ?_
      refine z_ishl B 19 rfl ?_
      refine z_puti 7 5 0 B 20 rfl ob_0 rfl (iX7_without _ (List.mem_of_getElem? (i := 8) rfl)) rfl (ty := .int) (by decide) rfl rfl rfl ?_
      obtain ⟨m5, ex, hf⟩ := nm_x hf
      refine z_mem ex ?_
      refine z_aload_n B 21 rfl 0 0 rfl rfl ?_
      obtain ⟨r6, ec, hf⟩ := bd_e hf
      refine z_callV 0 7 [] [] [] X B 22 rfl ob_0 rfl rfl miX7_clears ⟨(iX7_without _ (List.mem_of_getElem? (i := 9) rfl)), (iX7_without _ (List.mem_of_getElem? (i := 10) rfl)), (iX7_without _ (List.mem_of_getElem? (i := 11) rfl))⟩ (ctX7_clears hj ec) ⟨Nat.le_of_ble_eq_true rfl, Nat.le_of_ble_eq_true rfl⟩ rfl rfl (Nat.le_of_ble_eq_true rfl) rfl ?_
      refine z_aload_n B 23 rfl 0 0 rfl rfl ?_
      refine z_getr 7 9 0 B 24 rfl ob_0 rfl (iX7_without _ (List.mem_of_getElem? (i := 12) rfl)) rfl ?_
      refine z_iload_n B 25 rfl 2 2 rfl rfl ?_
      obtain ⟨hx, hf⟩ := rdc_e hf
      refine z_iald B 26 rfl ob_7 hx ?_
      obtain ⟨v7, ex, hf⟩ := nm_x hf
      refine z_top ex ?_
      cases hf
      exact z_iret B 27 rfl rfl hQ hr
/-! ZoneCapacityModel.pivotal(II)I -/
def tbX7_pivotal : Tb := [(0, .aload_n 0, 1, 1), (1, .iconst 0, 1, 2), (2, .putfield 50, 3, 5), (5, .iload_n 1, 1, 6), (6, .iconst 0, 1, 7), (7, .iconst 5, 1, 8), (8, .invokestatic 54, 3, 11), (11, .ifCond .eq 11, 3, 14), (14, .aload_n 0, 1, 15), (15, .iload_n 2, 1, 16), (16, .invokevirtual 117, 3, 19), (19, .ifCond .ne 5, 3, 22), (22, .iconst (-1), 1, 23), (23, .ireturn, 1, 24), (24, .aload_n 0, 1, 25), (25, .invokevirtual 156, 3, 28), (28, .aload_n 0, 1, 29), (29, .getfield 29, 3, 32), (32, .iload_n 2, 1, 33), (33, .iaload, 1, 34), (34, .aload_n 0, 1, 35), (35, .getfield 7, 3, 38), (38, .iconst 2, 1, 39), (39, .iaload, 1, 40), (40, .if_icmp .le 7, 3, 43), (43, .iconst 1, 1, 44), (44, .goto 4, 3, 47), (47, .iconst 0, 1, 48), (48, .istore_n 3, 1, 49), (49, .iconst 0, 1, 50), (50, .istore 4, 2, 52), (52, .iload 4, 2, 54), (54, .aload_n 0, 1, 55), (55, .getfield 7, 3, 58), (58, .iconst 1, 1, 59), (59, .iaload, 1, 60), (60, .if_icmp .ge 37, 3, 63), (63, .aload_n 0, 1, 64), (64, .dup, 1, 65), (65, .getfield 85, 3, 68), (68, .aload_n 0, 1, 69), (69, .iload 4, 2, 71), (71, .iconst 3, 1, 72), (72, .invokevirtual 75, 3, 75), (75, .iload_n 1, 1, 76), (76, .if_icmp .ne 10, 3, 79), (79, .iconst 1, 1, 80), (80, .iload 4, 2, 82), (82, .ishl, 1, 83), (83, .goto 4, 3, 86), (86, .iconst 0, 1, 87), (87, .ior, 1, 88), (88, .putfield 85, 3, 91), (91, .iinc 4 1, 3, 94), (94, .goto (-42), 3, 97), (97, .aload_n 0, 1, 98), (98, .invokevirtual 114, 3, 101), (101, .iload_n 3, 1, 102), (102, .ifCond .ne 22, 3, 105), (105, .aload_n 0, 1, 106), (106, .getfield 29, 3, 109), (109, .iload_n 2, 1, 110), (110, .iaload, 1, 111), (111, .aload_n 0, 1, 112), (112, .getfield 7, 3, 115), (115, .iconst 2, 1, 116), (116, .iaload, 1, 117), (117, .if_icmp .le 7, 3, 120), (120, .iconst 1, 1, 121), (121, .goto 4, 3, 124), (124, .iconst 0, 1, 125), (125, .ireturn, 1, 126)]
theorem dtX7_pivotal : ∀ q ∈ tbX7_pivotal, decode cX7_pivotal q.1 = .ok (q.2.1, q.2.2.1) ∧ q.1 + q.2.2.1 = q.2.2.2 := by decide +kernel
theorem miX7_pivotal : MI yX7_pivotal cX7_pivotal 5 (some .int) 2 := ⟨tw_mem (List.mem_of_getElem? (i := 1240) (by decide +kernel)) rfl, by decide, by decide +kernel, tw_mem (List.mem_of_getElem? (i := 78) (by decide +kernel)) rfl⟩
abbrev rmX7_pivotal : Room := { frames := 8, cells := 0, slots := 0, locals := 191 }
def wX7_pivotal : List Cond := [.fieldLink "ZoneCapacityModel" 50 "ZoneCapacityModel" "raised" "I", .methodLink "ZoneCapacityModel" 54 yX7_in, .static yX7_in, .methodLink "ZoneCapacityModel" 117 yX7_isZone, .instanceMethod yX7_isZone, .selects "ZoneCapacityModel" yX7_isZone yX7_isZone, .methodLink "ZoneCapacityModel" 156 yX7_clearsAll, .instanceMethod yX7_clearsAll, .selects "ZoneCapacityModel" yX7_clearsAll yX7_clearsAll, .fieldLink "ZoneCapacityModel" 29 "ZoneCapacityModel" "prices" "[I", .fieldLink "ZoneCapacityModel" 7 "ZoneCapacityModel" "w" "[I", .methodLink "ZoneCapacityModel" 114 yX7_clears, .instanceMethod yX7_clears, .selects "ZoneCapacityModel" yX7_clears yX7_clears, .fieldLink "ZoneCapacityModel" 85 "ZoneCapacityModel" "gone" "I", .methodLink "ZoneCapacityModel" 75 yX7_ofResource, .instanceMethod yX7_ofResource, .selects "ZoneCapacityModel" yX7_ofResource yX7_ofResource]
theorem iX7_pivotal : ∀ w ∈ wX7_pivotal, w ∈ TW := tw_of (ids := [938, 1021, 1022, 1017, 1019, 25, 1168, 1170, 46, 947, 939, 1172, 1174, 47, 943, 1067, 1069, 33]) (by decide +kernel)
def f7_pivotal_j87 (k52 : Int32 → Int32 → Int32 → Int32 → Mem → Option (Int32 × Mem)) (x1 : Int32) (x2 : Int32) (x3 : Int32) (x4 : Int32) (s0 : Int32) (s1 : Int32) (mm : Mem) : Option (Int32 × Mem) := nm (up2 mm 0 5 (s1 ||| s0)) (fun m12 => nm (x4 + 1) (fun v13 => k52 x1 x2 x3 v13 m12))
theorem f7_pivotal_j87_ok {E : Ev} {l : Launch} {C : Cfg} {x : (Int32 × Mem)} {k52 : Int32 → Int32 → Int32 → Int32 → Mem → Option (Int32 × Mem)} (hj : Dj C) (X : Ec E l C rmX7_pivotal) (B : Bx E RX7 tbX7_pivotal 5 (some .int)) (hQ : Rt E) (hr : Rs E (some (.int x.1)) x.2) (hk52 : ∀ (x1 : Int32) (x2 : Int32) (x3 : Int32) (x4 : Int32) (mm : Mem), k52 x1 x2 x3 x4 mm = some x → G E 5 52 [(0, .ref 0), (1, .int x1), (2, .int x2), (3, .int x3), (4, .int x4)] [] mm) (x1 : Int32) (x2 : Int32) (x3 : Int32) (x4 : Int32) (s0 : Int32) (s1 : Int32) (mm : Mem) (hf : f7_pivotal_j87 k52 x1 x2 x3 x4 s0 s1 mm = some x) : G E 5 87 [(0, .ref 0), (1, .int x1), (2, .int x2), (3, .int x3), (4, .int x4)] [.int s0, .int s1, .ref 0] mm := by
  unfold f7_pivotal_j87 at hf
  refine z_ior B 51 rfl ?_
  refine z_puti 7 5 0 B 52 rfl ob_0 rfl (iX7_pivotal _ (List.mem_of_getElem? (i := 14) rfl)) rfl (ty := .int) (by decide) rfl rfl rfl ?_
  obtain ⟨m12, ex, hf⟩ := nm_x hf
  refine z_mem ex ?_
  obtain ⟨v13, ex, hf⟩ := nm_x hf
  refine z_iinc v13 [(4, .int v13), (0, .ref 0), (1, .int x1), (2, .int x2), (3, .int x3)] B 53 rfl 4 rfl (ex.symm) (by decide) rfl ?_
  refine z_goto B 54 rfl 52 (by decide) ?_
  refine z_sub [(0, .ref 0), (1, .int x1), (2, .int x2), (3, .int x3), (4, .int v13)] [1, 2, 3, 4, 0] rfl ?_
  exact hk52 _ _ _ _ _ hf
def f7_pivotal_l52 : Nat → Int32 → Int32 → Int32 → Int32 → Mem → Option (Int32 × Mem)
  | 0, _, _, _, _, _ => none
  | n + 1, x1, x2, x3, x4, mm => rdc 1 (1 : Int32) (nm (mm 1 (1 : Int32).toNatClampNeg) (fun v7 => if x4 < v7 then bd (f7_ofResource mm x4 (3 : Int32)) (fun r11 => if r11 = x1 then f7_pivotal_j87 (fun x1 x2 x3 x4 mm => f7_pivotal_l52 n x1 x2 x3 x4 mm) x1 x2 x3 x4 ((1 : Int32) <<< (x4 &&& 31)) (mm 0 5) mm else f7_pivotal_j87 (fun x1 x2 x3 x4 mm => f7_pivotal_l52 n x1 x2 x3 x4 mm) x1 x2 x3 x4 (0 : Int32) (mm 0 5) mm) else bd (f7_clears mm) (fun r8 => if x3 = 0 then rdc 7 x2 (nm (r8 7 x2.toNatClampNeg) (fun v9 => rdc 1 (2 : Int32) (nm (r8 1 (2 : Int32).toNatClampNeg) (fun v10 => if v10 < v9 then some ((1 : Int32), r8) else some ((0 : Int32), r8))))) else some ((0 : Int32), r8))))
theorem f7_pivotal_l52_ok {E : Ev} {l : Launch} {C : Cfg} {x : (Int32 × Mem)} (hj : Dj C) (X : Ec E l C rmX7_pivotal) (B : Bx E RX7 tbX7_pivotal 5 (some .int)) (hQ : Rt E) (hr : Rs E (some (.int x.1)) x.2) (n : Nat) : ∀ (x1 : Int32) (x2 : Int32) (x3 : Int32) (x4 : Int32) (mm : Mem), f7_pivotal_l52 n x1 x2 x3 x4 mm = some x → G E 5 52 [(0, .ref 0), (1, .int x1), (2, .int x2), (3, .int x3), (4, .int x4)] [] mm := by
  induction n with
  | zero =>
    intro x1 x2 x3 x4 mm hf
    rw [f7_pivotal_l52] at hf
    cases hf
  | succ n ih =>
    intro x1 x2 x3 x4 mm hf
    rw [f7_pivotal_l52] at hf
    refine z_iload B 31 rfl 4 rfl ?_
    refine z_aload_n B 32 rfl 0 0 rfl rfl ?_
    refine z_getr 7 1 0 B 33 rfl ob_0 rfl (iX7_pivotal _ (List.mem_of_getElem? (i := 10) rfl)) rfl ?_
    refine z_iconst 1 B 34 rfl (by decide) ?_
    obtain ⟨hx, hf⟩ := rdc_e hf
    refine z_iald B 35 rfl ob_1 hx ?_
    obtain ⟨v7, ex, hf⟩ := nm_x hf
    refine z_top ex ?_
    by_cases hc : x4 < v7
    · replace hf := (if_pos hc).symm.trans hf
      refine z_icmp_ge_f B 36 rfl 97 (by decide) hc ?_
      refine z_aload_n B 37 rfl 0 0 rfl rfl ?_
      refine z_dup B 38 rfl rfl ?_
      refine z_geti 7 5 0 B 39 rfl ob_0 rfl (iX7_pivotal _ (List.mem_of_getElem? (i := 14) rfl)) rfl ?_
      refine z_aload_n B 40 rfl 0 0 rfl rfl ?_
      refine z_iload B 41 rfl 4 rfl ?_
      refine z_iconst 3 B 42 rfl (by decide) ?_
      obtain ⟨r11, ec, hf⟩ := bd_e hf
      refine z_callV 0 7 [.int x4, .int (3 : Int32)] [.int (mm 0 5), .ref 0] [.int r11, .int (mm 0 5), .ref 0] X B 43 rfl ob_0 rfl rfl miX7_ofResource ⟨(iX7_pivotal _ (List.mem_of_getElem? (i := 15) rfl)), (iX7_pivotal _ (List.mem_of_getElem? (i := 16) rfl)), (iX7_pivotal _ (List.mem_of_getElem? (i := 17) rfl))⟩ (ctX7_ofResource hj ec) ⟨Nat.le_of_ble_eq_true rfl, Nat.le_of_ble_eq_true rfl⟩ rfl rfl (Nat.le_of_ble_eq_true rfl) rfl ?_
      refine z_iload_n B 44 rfl 1 1 rfl rfl ?_
      by_cases hc : r11 = x1
      · replace hf := (if_pos hc).symm.trans hf
        refine z_icmp_ne_f B 45 rfl 86 (by decide) hc ?_
        refine z_iconst 1 B 46 rfl (by decide) ?_
        refine z_iload B 47 rfl 4 rfl ?_
        refine z_ishl B 48 rfl ?_
        refine z_goto B 49 rfl 87 (by decide) ?_
        exact f7_pivotal_j87_ok hj X B hQ hr ih _ _ _ _ _ _ _ hf
      · replace hf := (if_neg hc).symm.trans hf
        refine z_icmp_ne_t B 45 rfl 86 (by decide) hc ?_
        refine z_iconst 0 B 50 rfl (by decide) ?_
        exact f7_pivotal_j87_ok hj X B hQ hr ih _ _ _ _ _ _ _ hf
    · replace hf := (if_neg hc).symm.trans hf
      refine z_icmp_ge_t B 36 rfl 97 (by decide) hc ?_
      refine z_aload_n B 55 rfl 0 0 rfl rfl ?_
      obtain ⟨r8, ec, hf⟩ := bd_e hf
      refine z_callV 0 7 [] [] [] X B 56 rfl ob_0 rfl rfl miX7_clears ⟨(iX7_pivotal _ (List.mem_of_getElem? (i := 11) rfl)), (iX7_pivotal _ (List.mem_of_getElem? (i := 12) rfl)), (iX7_pivotal _ (List.mem_of_getElem? (i := 13) rfl))⟩ (ctX7_clears hj ec) ⟨Nat.le_of_ble_eq_true rfl, Nat.le_of_ble_eq_true rfl⟩ rfl rfl (Nat.le_of_ble_eq_true rfl) rfl ?_
      refine z_iload_n B 57 rfl 3 3 rfl rfl ?_
      by_cases hc : x3 = 0
      · replace hf := (if_pos hc).symm.trans hf
        refine z_if_ne_f B 58 rfl 124 (by decide) hc ?_
        refine z_aload_n B 59 rfl 0 0 rfl rfl ?_
        refine z_getr 7 9 0 B 60 rfl ob_0 rfl (iX7_pivotal _ (List.mem_of_getElem? (i := 9) rfl)) rfl ?_
        refine z_iload_n B 61 rfl 2 2 rfl rfl ?_
        obtain ⟨hx, hf⟩ := rdc_e hf
        refine z_iald B 62 rfl ob_7 hx ?_
        obtain ⟨v9, ex, hf⟩ := nm_x hf
        refine z_top ex ?_
        refine z_aload_n B 63 rfl 0 0 rfl rfl ?_
        refine z_getr 7 1 0 B 64 rfl ob_0 rfl (iX7_pivotal _ (List.mem_of_getElem? (i := 10) rfl)) rfl ?_
        refine z_iconst 2 B 65 rfl (by decide) ?_
        obtain ⟨hx, hf⟩ := rdc_e hf
        refine z_iald B 66 rfl ob_1 hx ?_
        obtain ⟨v10, ex, hf⟩ := nm_x hf
        refine z_top ex ?_
        by_cases hc : v10 < v9
        · replace hf := (if_pos hc).symm.trans hf
          refine z_icmp_le_f B 67 rfl 124 (by decide) hc ?_
          refine z_iconst 1 B 68 rfl (by decide) ?_
          refine z_goto B 69 rfl 125 (by decide) ?_
          cases hf
          exact z_iret B 71 rfl rfl hQ hr
        · replace hf := (if_neg hc).symm.trans hf
          refine z_icmp_le_t B 67 rfl 124 (by decide) hc ?_
          refine z_iconst 0 B 70 rfl (by decide) ?_
          cases hf
          exact z_iret B 71 rfl rfl hQ hr
      · replace hf := (if_neg hc).symm.trans hf
        refine z_if_ne_t B 58 rfl 124 (by decide) hc ?_
        refine z_iconst 0 B 70 rfl (by decide) ?_
        cases hf
        exact z_iret B 71 rfl rfl hQ hr
def f7_pivotal_j48 (x1 : Int32) (x2 : Int32) (s0 : Int32) (mm : Mem) : Option (Int32 × Mem) := f7_pivotal_l52 FU x1 x2 s0 (0 : Int32) mm
theorem f7_pivotal_j48_ok {E : Ev} {l : Launch} {C : Cfg} {x : (Int32 × Mem)} (hj : Dj C) (X : Ec E l C rmX7_pivotal) (B : Bx E RX7 tbX7_pivotal 5 (some .int)) (hQ : Rt E) (hr : Rs E (some (.int x.1)) x.2) (x1 : Int32) (x2 : Int32) (s0 : Int32) (mm : Mem) (hf : f7_pivotal_j48 x1 x2 s0 mm = some x) : G E 5 48 [(0, .ref 0), (1, .int x1), (2, .int x2)] [.int s0] mm := by
  unfold f7_pivotal_j48 at hf
  refine z_istore_n [(3, .int s0), (0, .ref 0), (1, .int x1), (2, .int x2)] B 28 rfl 3 rfl (by decide) rfl ?_
  refine z_iconst 0 B 29 rfl (by decide) ?_
  refine z_istore [(4, .int (0 : Int32)), (3, .int s0), (0, .ref 0), (1, .int x1), (2, .int x2)] B 30 rfl (by decide) rfl ?_
  refine z_sub [(0, .ref 0), (1, .int x1), (2, .int x2), (3, .int s0), (4, .int (0 : Int32))] [2, 3, 4, 1, 0] rfl ?_
  exact f7_pivotal_l52_ok hj X B hQ hr FU _ _ _ _ _ hf
def f7_pivotal (mm : Mem) (a1 : Int32) (a2 : Int32) : Option (Int32 × Mem) := nm (up2 mm 0 0 (0 : Int32)) (fun m1 => bd (f7_in m1 a1 (0 : Int32) (5 : Int32)) (fun r2 => if r2 = 0 then some ((-1 : Int32), m1) else bd (f7_isZone m1 a2) (fun r3 => if r3 = 0 then some ((-1 : Int32), m1) else bd (f7_clearsAll m1) (fun r4 => rdc 7 a2 (nm (r4 7 a2.toNatClampNeg) (fun v5 => rdc 1 (2 : Int32) (nm (r4 1 (2 : Int32).toNatClampNeg) (fun v6 => if v6 < v5 then f7_pivotal_j48 a1 a2 (1 : Int32) r4 else f7_pivotal_j48 a1 a2 (0 : Int32) r4))))))))
theorem ctX7_pivotal {l : Launch} {C : Cfg} (hj : Dj C) {mm : Mem} {a1 : Int32} {a2 : Int32} {x : (Int32 × Mem)} (hf : f7_pivotal mm a1 a2 = some x) : Ct l C yX7_pivotal cX7_pivotal 5 (some .int) 8 191 [.ref 0, .int a1, .int a2] mm (some (.int x.1)) x.2 := by
  refine Ct.of (tb := tbX7_pivotal) hj miX7_pivotal.2.1 miX7_pivotal.1 dtX7_pivotal (Nat.le_of_ble_eq_true rfl) ?_
  intro E B hQ hr X
  unfold f7_pivotal at hf
  show G E 5 0 [(0, .ref 0), (1, .int a1), (2, .int a2)] [] mm
  refine z_aload_n B 0 rfl 0 0 rfl rfl ?_
  refine z_iconst 0 B 1 rfl (by decide) ?_
  refine z_puti 7 0 0 B 2 rfl ob_0 rfl (iX7_pivotal _ (List.mem_of_getElem? (i := 0) rfl)) rfl (ty := .int) (by decide) rfl rfl rfl ?_
  obtain ⟨m1, ex, hf⟩ := nm_x hf
  refine z_mem ex ?_
  refine z_iload_n B 3 rfl 1 1 rfl rfl ?_
  refine z_iconst 0 B 4 rfl (by decide) ?_
  refine z_iconst 5 B 5 rfl (by decide) ?_
  obtain ⟨r2, ec, hf⟩ := bd_e hf
  refine z_callS [.int a1, .int (0 : Int32), .int (5 : Int32)] [] [.int r2] X B 6 rfl miX7_in ⟨(iX7_pivotal _ (List.mem_of_getElem? (i := 1) rfl)), (iX7_pivotal _ (List.mem_of_getElem? (i := 2) rfl))⟩ (ctX7_in hj ec) ⟨Nat.le_of_ble_eq_true rfl, Nat.le_of_ble_eq_true rfl⟩ rfl rfl (Nat.le_of_ble_eq_true rfl) rfl ?_
  by_cases hc : r2 = 0
  · replace hf := (if_pos hc).symm.trans hf
    refine z_if_eq_t B 7 rfl 22 (by decide) hc ?_
    refine z_iconst (-1) B 12 rfl (by decide) ?_
    cases hf
    exact z_iret B 13 rfl rfl hQ hr
  · replace hf := (if_neg hc).symm.trans hf
    refine z_if_eq_f B 7 rfl 22 (by decide) hc ?_
    refine z_aload_n B 8 rfl 0 0 rfl rfl ?_
    refine z_iload_n B 9 rfl 2 2 rfl rfl ?_
    obtain ⟨r3, ec, hf⟩ := bd_e hf
    refine z_callV 0 7 [.int a2] [] [.int r3] X B 10 rfl ob_0 rfl rfl miX7_isZone ⟨(iX7_pivotal _ (List.mem_of_getElem? (i := 3) rfl)), (iX7_pivotal _ (List.mem_of_getElem? (i := 4) rfl)), (iX7_pivotal _ (List.mem_of_getElem? (i := 5) rfl))⟩ (ctX7_isZone hj ec) ⟨Nat.le_of_ble_eq_true rfl, Nat.le_of_ble_eq_true rfl⟩ rfl rfl (Nat.le_of_ble_eq_true rfl) rfl ?_
    by_cases hc : r3 = 0
    · replace hf := (if_pos hc).symm.trans hf
      refine z_if_ne_f B 11 rfl 24 (by decide) hc ?_
      refine z_iconst (-1) B 12 rfl (by decide) ?_
      cases hf
      exact z_iret B 13 rfl rfl hQ hr
    · replace hf := (if_neg hc).symm.trans hf
      refine z_if_ne_t B 11 rfl 24 (by decide) hc ?_
      refine z_aload_n B 14 rfl 0 0 rfl rfl ?_
      obtain ⟨r4, ec, hf⟩ := bd_e hf
      refine z_callV 0 7 [] [] [] X B 15 rfl ob_0 rfl rfl miX7_clearsAll ⟨(iX7_pivotal _ (List.mem_of_getElem? (i := 6) rfl)), (iX7_pivotal _ (List.mem_of_getElem? (i := 7) rfl)), (iX7_pivotal _ (List.mem_of_getElem? (i := 8) rfl))⟩ (ctX7_clearsAll hj ec) ⟨Nat.le_of_ble_eq_true rfl, Nat.le_of_ble_eq_true rfl⟩ rfl rfl (Nat.le_of_ble_eq_true rfl) rfl ?_
      refine z_aload_n B 16 rfl 0 0 rfl rfl ?_
      refine z_getr 7 9 0 B 17 rfl ob_0 rfl (iX7_pivotal _ (List.mem_of_getElem? (i := 9) rfl)) rfl ?_
      refine z_iload_n B 18 rfl 2 2 rfl rfl ?_
      obtain ⟨hx, hf⟩ := rdc_e hf
      refine z_iald B 19 rfl ob_7 hx ?_
      obtain ⟨v5, ex, hf⟩ := nm_x hf
      refine z_top ex ?_
      refine z_aload_n B 20 rfl 0 0 rfl rfl ?_
      refine z_getr 7 1 0 B 21 rfl ob_0 rfl (iX7_pivotal _ (List.mem_of_getElem? (i := 10) rfl)) rfl ?_
      refine z_iconst 2 B 22 rfl (by decide) ?_
      obtain ⟨hx, hf⟩ := rdc_e hf
      refine z_iald B 23 rfl ob_1 hx ?_
      obtain ⟨v6, ex, hf⟩ := nm_x hf
      refine z_top ex ?_
      by_cases hc : v6 < v5
      · replace hf := (if_pos hc).symm.trans hf
        refine z_icmp_le_f B 24 rfl 47 (by decide) hc ?_
        refine z_iconst 1 B 25 rfl (by decide) ?_
        refine z_goto B 26 rfl 48 (by decide) ?_
        exact f7_pivotal_j48_ok hj X B hQ hr _ _ _ _ hf
      · replace hf := (if_neg hc).symm.trans hf
        refine z_icmp_le_t B 24 rfl 47 (by decide) hc ?_
        refine z_iconst 0 B 27 rfl (by decide) ?_
        exact f7_pivotal_j48_ok hj X B hQ hr _ _ _ _ hf
/-! ZoneCapacityModel.wider(IIZ)J -/
def tbX7_wider : Tb := [(0, .aload_n 0, 1, 1), (1, .iconst 0, 1, 2), (2, .putfield 50, 3, 5), (5, .iload_n 1, 1, 6), (6, .ifCond .eq 22, 3, 9), (9, .aload_n 0, 1, 10), (10, .iload_n 1, 1, 11), (11, .invokevirtual 117, 3, 14), (14, .ifCond .eq 14, 3, 17), (17, .iload_n 2, 1, 18), (18, .iconst 1, 1, 19), (19, .sipush 9999, 3, 22), (22, .invokestatic 54, 3, 25), (25, .ifCond .ne 7, 3, 28), (28, .ldc2_w 166, 3, 31), (31, .lreturn, 1, 32), (32, .aload_n 0, 1, 33), (33, .invokevirtual 156, 3, 36), (36, .aload_n 0, 1, 37), (37, .invokevirtual 162, 3, 40), (40, .lstore 4, 2, 42), (42, .bipush 7, 2, 44), (44, .bipush 12, 2, 46), (46, .iload_n 1, 1, 47), (47, .imul, 1, 48), (48, .iadd, 1, 49), (49, .iload_n 3, 1, 50), (50, .ifCond .eq 7, 3, 53), (53, .iconst 2, 1, 54), (54, .goto 4, 3, 57), (57, .iconst 1, 1, 58), (58, .iadd, 1, 59), (59, .istore 6, 2, 61), (61, .aload_n 0, 1, 62), (62, .getfield 7, 3, 65), (65, .iload 6, 2, 67), (67, .iaload, 1, 68), (68, .istore 7, 2, 70), (70, .aload_n 0, 1, 71), (71, .getfield 7, 3, 74), (74, .iload 6, 2, 76), (76, .iload 7, 2, 78), (78, .iload_n 2, 1, 79), (79, .iadd, 1, 80), (80, .sipush 9999, 3, 83), (83, .if_icmp .le 9, 3, 86), (86, .sipush 9999, 3, 89), (89, .goto 7, 3, 92), (92, .iload 7, 2, 94), (94, .iload_n 2, 1, 95), (95, .iadd, 1, 96), (96, .iastore, 1, 97), (97, .aload_n 0, 1, 98), (98, .invokevirtual 114, 3, 101), (101, .aload_n 0, 1, 102), (102, .getfield 7, 3, 105), (105, .iload 6, 2, 107), (107, .iload 7, 2, 109), (109, .iastore, 1, 110), (110, .aload_n 0, 1, 111), (111, .invokevirtual 162, 3, 114), (114, .lload 4, 2, 116), (116, .lsub, 1, 117), (117, .lreturn, 1, 118)]
theorem dtX7_wider : ∀ q ∈ tbX7_wider, decode cX7_wider q.1 = .ok (q.2.1, q.2.2.1) ∧ q.1 + q.2.2.1 = q.2.2.2 := by decide +kernel
theorem miX7_wider : MI yX7_wider cX7_wider 8 (some .long) 3 := ⟨tw_mem (List.mem_of_getElem? (i := 1244) (by decide +kernel)) rfl, by decide, by decide +kernel, tw_mem (List.mem_of_getElem? (i := 78) (by decide +kernel)) rfl⟩
abbrev rmX7_wider : Room := { frames := 8, cells := 0, slots := 0, locals := 191 }
def wX7_wider : List Cond := [.fieldLink "ZoneCapacityModel" 50 "ZoneCapacityModel" "raised" "I", .constantLong "ZoneCapacityModel" 166 (-1000000000000000), .methodLink "ZoneCapacityModel" 117 yX7_isZone, .instanceMethod yX7_isZone, .selects "ZoneCapacityModel" yX7_isZone yX7_isZone, .methodLink "ZoneCapacityModel" 54 yX7_in, .static yX7_in, .methodLink "ZoneCapacityModel" 156 yX7_clearsAll, .instanceMethod yX7_clearsAll, .selects "ZoneCapacityModel" yX7_clearsAll yX7_clearsAll, .methodLink "ZoneCapacityModel" 162 yX7_surplusNow, .instanceMethod yX7_surplusNow, .selects "ZoneCapacityModel" yX7_surplusNow yX7_surplusNow, .fieldLink "ZoneCapacityModel" 7 "ZoneCapacityModel" "w" "[I", .methodLink "ZoneCapacityModel" 114 yX7_clears, .instanceMethod yX7_clears, .selects "ZoneCapacityModel" yX7_clears yX7_clears]
theorem iX7_wider : ∀ w ∈ wX7_wider, w ∈ TW := tw_of (ids := [938, 1220, 1017, 1019, 25, 1021, 1022, 1168, 1170, 46, 1212, 1214, 52, 939, 1172, 1174, 47]) (by decide +kernel)
def f7_wider_j96 (x4 : Int64) (x6 : Int32) (x7 : Int32) (s0 : Int32) (s1 : Int32) (mm : Mem) : Option (Int64 × Mem) := rdc 1 s1 (nm (up2 mm 1 s1.toNatClampNeg s0) (fun m8 => bd (f7_clears m8) (fun r9 => rdc 1 x6 (nm (up2 r9 1 x6.toNatClampNeg x7) (fun m10 => bd (f7_surplusNow m10) (fun r11 => some (r11 - x4, m10)))))))
theorem f7_wider_j96_ok {E : Ev} {l : Launch} {C : Cfg} {x : (Int64 × Mem)} (hj : Dj C) (X : Ec E l C rmX7_wider) (B : Bx E RX7 tbX7_wider 8 (some .long)) (hQ : Rt E) (hr : Rs E (some (.long x.1)) x.2) (x4 : Int64) (x6 : Int32) (x7 : Int32) (s0 : Int32) (s1 : Int32) (mm : Mem) (hf : f7_wider_j96 x4 x6 x7 s0 s1 mm = some x) : G E 8 96 [(0, .ref 0), (4, .long x4), (6, .int x6), (7, .int x7)] [.int s0, .int s1, .ref 1] mm := by
  unfold f7_wider_j96 at hf
  obtain ⟨hx, hf⟩ := rdc_e hf
  refine z_iast B 51 rfl ob_1 hx ?_
  obtain ⟨m8, ex, hf⟩ := nm_x hf
  refine z_mem ex ?_
  refine z_aload_n B 52 rfl 0 0 rfl rfl ?_
  obtain ⟨r9, ec, hf⟩ := bd_e hf
  refine z_callV 0 7 [] [] [] X B 53 rfl ob_0 rfl rfl miX7_clears ⟨(iX7_wider _ (List.mem_of_getElem? (i := 14) rfl)), (iX7_wider _ (List.mem_of_getElem? (i := 15) rfl)), (iX7_wider _ (List.mem_of_getElem? (i := 16) rfl))⟩ (ctX7_clears hj ec) ⟨Nat.le_of_ble_eq_true rfl, Nat.le_of_ble_eq_true rfl⟩ rfl rfl (Nat.le_of_ble_eq_true rfl) rfl ?_
  refine z_aload_n B 54 rfl 0 0 rfl rfl ?_
  refine z_getr 7 1 0 B 55 rfl ob_0 rfl (iX7_wider _ (List.mem_of_getElem? (i := 13) rfl)) rfl ?_
  refine z_iload B 56 rfl 2 rfl ?_
  refine z_iload B 57 rfl 3 rfl ?_
  obtain ⟨hx, hf⟩ := rdc_e hf
  refine z_iast B 58 rfl ob_1 hx ?_
  obtain ⟨m10, ex, hf⟩ := nm_x hf
  refine z_mem ex ?_
  refine z_aload_n B 59 rfl 0 0 rfl rfl ?_
  obtain ⟨r11, ec, hf⟩ := bd_e hf
  refine z_callV 0 7 [] [] [.long r11] X B 60 rfl ob_0 rfl rfl miX7_surplusNow ⟨(iX7_wider _ (List.mem_of_getElem? (i := 10) rfl)), (iX7_wider _ (List.mem_of_getElem? (i := 11) rfl)), (iX7_wider _ (List.mem_of_getElem? (i := 12) rfl))⟩ (ctX7_surplusNow hj ec) ⟨Nat.le_of_ble_eq_true rfl, Nat.le_of_ble_eq_true rfl⟩ rfl rfl (Nat.le_of_ble_eq_true rfl) rfl ?_
  refine z_lload B 61 rfl 1 rfl ?_
  refine z_lsub B 62 rfl ?_
  cases hf
  exact z_lret B 63 rfl hQ hr
def f7_wider_j58 (x2 : Int32) (x4 : Int64) (s0 : Int32) (s1 : Int32) (mm : Mem) : Option (Int64 × Mem) := nm (s1 + s0) (fun v6 => rdc 1 v6 (nm (mm 1 v6.toNatClampNeg) (fun v7 => if (9999 : Int32) < (v7 + x2) then f7_wider_j96 x4 v6 v7 (9999 : Int32) v6 mm else f7_wider_j96 x4 v6 v7 (v7 + x2) v6 mm)))
theorem f7_wider_j58_ok {E : Ev} {l : Launch} {C : Cfg} {x : (Int64 × Mem)} (hj : Dj C) (X : Ec E l C rmX7_wider) (B : Bx E RX7 tbX7_wider 8 (some .long)) (hQ : Rt E) (hr : Rs E (some (.long x.1)) x.2) (x2 : Int32) (x4 : Int64) (s0 : Int32) (s1 : Int32) (mm : Mem) (hf : f7_wider_j58 x2 x4 s0 s1 mm = some x) : G E 8 58 [(0, .ref 0), (2, .int x2), (4, .long x4)] [.int s0, .int s1] mm := by
  unfold f7_wider_j58 at hf
  refine z_iadd B 31 rfl ?_
  obtain ⟨v6, ex, hf⟩ := nm_x hf
  refine z_top ex ?_
  refine z_istore [(6, .int v6), (0, .ref 0), (2, .int x2), (4, .long x4)] B 32 rfl (by decide) rfl ?_
  refine z_aload_n B 33 rfl 0 1 rfl rfl ?_
  refine z_getr 7 1 0 B 34 rfl ob_0 rfl (iX7_wider _ (List.mem_of_getElem? (i := 13) rfl)) rfl ?_
  refine z_iload B 35 rfl 0 rfl ?_
  obtain ⟨hx, hf⟩ := rdc_e hf
  refine z_iald B 36 rfl ob_1 hx ?_
  obtain ⟨v7, ex, hf⟩ := nm_x hf
  refine z_top ex ?_
  refine z_istore [(7, .int v7), (6, .int v6), (0, .ref 0), (2, .int x2), (4, .long x4)] B 37 rfl (by decide) rfl ?_
  refine z_aload_n B 38 rfl 0 2 rfl rfl ?_
  refine z_getr 7 1 0 B 39 rfl ob_0 rfl (iX7_wider _ (List.mem_of_getElem? (i := 13) rfl)) rfl ?_
  refine z_iload B 40 rfl 1 rfl ?_
  refine z_iload B 41 rfl 0 rfl ?_
  refine z_iload_n B 42 rfl 2 3 rfl rfl ?_
  refine z_iadd B 43 rfl ?_
  refine z_sipush 9999 B 44 rfl (by decide) ?_
  by_cases hc : (9999 : Int32) < (v7 + x2)
  · replace hf := (if_pos hc).symm.trans hf
    refine z_icmp_le_f B 45 rfl 92 (by decide) hc ?_
    refine z_sipush 9999 B 46 rfl (by decide) ?_
    refine z_goto B 47 rfl 96 (by decide) ?_
    refine z_sub [(0, .ref 0), (4, .long x4), (6, .int v6), (7, .int v7)] [2, 4, 1, 0] rfl ?_
    exact f7_wider_j96_ok hj X B hQ hr _ _ _ _ _ _ hf
  · replace hf := (if_neg hc).symm.trans hf
    refine z_icmp_le_t B 45 rfl 92 (by decide) hc ?_
    refine z_iload B 48 rfl 0 rfl ?_
    refine z_iload_n B 49 rfl 2 3 rfl rfl ?_
    refine z_iadd B 50 rfl ?_
    refine z_sub [(0, .ref 0), (4, .long x4), (6, .int v6), (7, .int v7)] [2, 4, 1, 0] rfl ?_
    exact f7_wider_j96_ok hj X B hQ hr _ _ _ _ _ _ hf
def f7_wider (mm : Mem) (a1 : Int32) (a2 : Int32) (a3 : Int32) : Option (Int64 × Mem) := nm (up2 mm 0 0 (0 : Int32)) (fun m1 => if a1 = 0 then some ((-1000000000000000 : Int64), m1) else bd (f7_isZone m1 a1) (fun r2 => if r2 = 0 then some ((-1000000000000000 : Int64), m1) else bd (f7_in m1 a2 (1 : Int32) (9999 : Int32)) (fun r3 => if r3 = 0 then some ((-1000000000000000 : Int64), m1) else bd (f7_clearsAll m1) (fun r4 => bd (f7_surplusNow r4) (fun r5 => if a3 = 0 then f7_wider_j58 a2 r5 (1 : Int32) ((7 : Int32) + ((12 : Int32) * a1)) r4 else f7_wider_j58 a2 r5 (2 : Int32) ((7 : Int32) + ((12 : Int32) * a1)) r4)))))
theorem ctX7_wider {l : Launch} {C : Cfg} (hj : Dj C) {mm : Mem} {a1 : Int32} {a2 : Int32} {a3 : Int32} {x : (Int64 × Mem)} (hf : f7_wider mm a1 a2 a3 = some x) : Ct l C yX7_wider cX7_wider 8 (some .long) 8 191 [.ref 0, .int a1, .int a2, .int a3] mm (some (.long x.1)) x.2 := by
  refine Ct.of (tb := tbX7_wider) hj miX7_wider.2.1 miX7_wider.1 dtX7_wider (Nat.le_of_ble_eq_true rfl) ?_
  intro E B hQ hr X
  unfold f7_wider at hf
  show G E 8 0 [(0, .ref 0), (1, .int a1), (2, .int a2), (3, .int a3)] [] mm
  refine z_aload_n B 0 rfl 0 0 rfl rfl ?_
  refine z_iconst 0 B 1 rfl (by decide) ?_
  refine z_puti 7 0 0 B 2 rfl ob_0 rfl (iX7_wider _ (List.mem_of_getElem? (i := 0) rfl)) rfl (ty := .int) (by decide) rfl rfl rfl ?_
  obtain ⟨m1, ex, hf⟩ := nm_x hf
  refine z_mem ex ?_
  refine z_iload_n B 3 rfl 1 1 rfl rfl ?_
  by_cases hc : a1 = 0
  · replace hf := (if_pos hc).symm.trans hf
    refine z_if_eq_t B 4 rfl 28 (by decide) hc ?_
    refine z_ldc2 (-1000000000000000) B 14 rfl (iX7_wider _ (List.mem_of_getElem? (i := 1) rfl)) ?_
    cases hf
    exact z_lret B 15 rfl hQ hr
  · replace hf := (if_neg hc).symm.trans hf
    refine z_if_eq_f B 4 rfl 28 (by decide) hc ?_
    refine z_aload_n B 5 rfl 0 0 rfl rfl ?_
    refine z_iload_n B 6 rfl 1 1 rfl rfl ?_
    obtain ⟨r2, ec, hf⟩ := bd_e hf
    refine z_callV 0 7 [.int a1] [] [.int r2] X B 7 rfl ob_0 rfl rfl miX7_isZone ⟨(iX7_wider _ (List.mem_of_getElem? (i := 2) rfl)), (iX7_wider _ (List.mem_of_getElem? (i := 3) rfl)), (iX7_wider _ (List.mem_of_getElem? (i := 4) rfl))⟩ (ctX7_isZone hj ec) ⟨Nat.le_of_ble_eq_true rfl, Nat.le_of_ble_eq_true rfl⟩ rfl rfl (Nat.le_of_ble_eq_true rfl) rfl ?_
    by_cases hc : r2 = 0
    · replace hf := (if_pos hc).symm.trans hf
      refine z_if_eq_t B 8 rfl 28 (by decide) hc ?_
      refine z_ldc2 (-1000000000000000) B 14 rfl (iX7_wider _ (List.mem_of_getElem? (i := 1) rfl)) ?_
      cases hf
      exact z_lret B 15 rfl hQ hr
    · replace hf := (if_neg hc).symm.trans hf
      refine z_if_eq_f B 8 rfl 28 (by decide) hc ?_
      refine z_iload_n B 9 rfl 2 2 rfl rfl ?_
      refine z_iconst 1 B 10 rfl (by decide) ?_
      refine z_sipush 9999 B 11 rfl (by decide) ?_
      obtain ⟨r3, ec, hf⟩ := bd_e hf
      refine z_callS [.int a2, .int (1 : Int32), .int (9999 : Int32)] [] [.int r3] X B 12 rfl miX7_in ⟨(iX7_wider _ (List.mem_of_getElem? (i := 5) rfl)), (iX7_wider _ (List.mem_of_getElem? (i := 6) rfl))⟩ (ctX7_in hj ec) ⟨Nat.le_of_ble_eq_true rfl, Nat.le_of_ble_eq_true rfl⟩ rfl rfl (Nat.le_of_ble_eq_true rfl) rfl ?_
      by_cases hc : r3 = 0
      · replace hf := (if_pos hc).symm.trans hf
        refine z_if_ne_f B 13 rfl 32 (by decide) hc ?_
        refine z_ldc2 (-1000000000000000) B 14 rfl (iX7_wider _ (List.mem_of_getElem? (i := 1) rfl)) ?_
        cases hf
        exact z_lret B 15 rfl hQ hr
      · replace hf := (if_neg hc).symm.trans hf
        refine z_if_ne_t B 13 rfl 32 (by decide) hc ?_
        refine z_aload_n B 16 rfl 0 0 rfl rfl ?_
        obtain ⟨r4, ec, hf⟩ := bd_e hf
        refine z_callV 0 7 [] [] [] X B 17 rfl ob_0 rfl rfl miX7_clearsAll ⟨(iX7_wider _ (List.mem_of_getElem? (i := 7) rfl)), (iX7_wider _ (List.mem_of_getElem? (i := 8) rfl)), (iX7_wider _ (List.mem_of_getElem? (i := 9) rfl))⟩ (ctX7_clearsAll hj ec) ⟨Nat.le_of_ble_eq_true rfl, Nat.le_of_ble_eq_true rfl⟩ rfl rfl (Nat.le_of_ble_eq_true rfl) rfl ?_
        refine z_aload_n B 18 rfl 0 0 rfl rfl ?_
        obtain ⟨r5, ec, hf⟩ := bd_e hf
        refine z_callV 0 7 [] [] [.long r5] X B 19 rfl ob_0 rfl rfl miX7_surplusNow ⟨(iX7_wider _ (List.mem_of_getElem? (i := 10) rfl)), (iX7_wider _ (List.mem_of_getElem? (i := 11) rfl)), (iX7_wider _ (List.mem_of_getElem? (i := 12) rfl))⟩ (ctX7_surplusNow hj ec) ⟨Nat.le_of_ble_eq_true rfl, Nat.le_of_ble_eq_true rfl⟩ rfl rfl (Nat.le_of_ble_eq_true rfl) rfl ?_
        refine z_lstore [(4, .long r5), (0, .ref 0), (1, .int a1), (2, .int a2), (3, .int a3)] B 20 rfl (by decide) rfl ?_
        refine z_bipush 7 B 21 rfl (by decide) ?_
        refine z_bipush 12 B 22 rfl (by decide) ?_
        refine z_iload_n B 23 rfl 1 2 rfl rfl ?_
        refine z_imul B 24 rfl ?_
        refine z_iadd B 25 rfl ?_
        refine z_iload_n B 26 rfl 3 4 rfl rfl ?_
        by_cases hc : a3 = 0
        · replace hf := (if_pos hc).symm.trans hf
          refine z_if_eq_t B 27 rfl 57 (by decide) hc ?_
          refine z_iconst 1 B 30 rfl (by decide) ?_
          refine z_sub [(0, .ref 0), (2, .int a2), (4, .long r5)] [1, 3, 0] rfl ?_
          exact f7_wider_j58_ok hj X B hQ hr _ _ _ _ _ hf
        · replace hf := (if_neg hc).symm.trans hf
          refine z_if_eq_f B 27 rfl 57 (by decide) hc ?_
          refine z_iconst 2 B 28 rfl (by decide) ?_
          refine z_goto B 29 rfl 58 (by decide) ?_
          refine z_sub [(0, .ref 0), (2, .int a2), (4, .long r5)] [1, 3, 0] rfl ?_
          exact f7_wider_j58_ok hj X B hQ hr _ _ _ _ _ hf
/-! ZoneCapacityModel.needs(I)I -/
def tbX7_needs : Tb := [(0, .aload_n 0, 1, 1), (1, .iconst 0, 1, 2), (2, .putfield 50, 3, 5), (5, .iload_n 1, 1, 6), (6, .ifCond .eq 11, 3, 9), (9, .aload_n 0, 1, 10), (10, .iload_n 1, 1, 11), (11, .invokevirtual 117, 3, 14), (14, .ifCond .ne 5, 3, 17), (17, .iconst (-1), 1, 18), (18, .ireturn, 1, 19), (19, .bipush 7, 2, 21), (21, .bipush 12, 2, 23), (23, .iload_n 1, 1, 24), (24, .imul, 1, 25), (25, .iadd, 1, 26), (26, .iconst 1, 1, 27), (27, .iadd, 1, 28), (28, .istore_n 2, 1, 29), (29, .aload_n 0, 1, 30), (30, .getfield 7, 3, 33), (33, .iload_n 2, 1, 34), (34, .iaload, 1, 35), (35, .istore_n 3, 1, 36), (36, .iconst (-1), 1, 37), (37, .istore 4, 2, 39), (39, .iconst 0, 1, 40), (40, .istore 5, 2, 42), (42, .iload 5, 2, 44), (44, .sipush 9999, 3, 47), (47, .if_icmp .gt 55, 3, 50), (50, .iload 4, 2, 52), (52, .iconst (-1), 1, 53), (53, .if_icmp .ne 49, 3, 56), (56, .aload_n 0, 1, 57), (57, .getfield 7, 3, 60), (60, .iload_n 2, 1, 61), (61, .iload 5, 2, 63), (63, .iastore, 1, 64), (64, .aload_n 0, 1, 65), (65, .invokevirtual 156, 3, 68), (68, .aload_n 0, 1, 69), (69, .getfield 29, 3, 72), (72, .iload_n 1, 1, 73), (73, .iaload, 1, 74), (74, .aload_n 0, 1, 75), (75, .getfield 29, 3, 78), (78, .aload_n 0, 1, 79), (79, .iload_n 1, 1, 80), (80, .iconst 0, 1, 81), (81, .invokevirtual 58, 3, 84), (84, .iaload, 1, 85), (85, .if_icmp .gt 8, 3, 88), (88, .iload 5, 2, 90), (90, .goto 4, 3, 93), (93, .iconst (-1), 1, 94), (94, .istore 4, 2, 96), (96, .iinc 5 1, 3, 99), (99, .goto (-57), 3, 102), (102, .aload_n 0, 1, 103), (103, .getfield 7, 3, 106), (106, .iload_n 2, 1, 107), (107, .iload_n 3, 1, 108), (108, .iastore, 1, 109), (109, .iload 4, 2, 111), (111, .ireturn, 1, 112)]
theorem dtX7_needs : ∀ q ∈ tbX7_needs, decode cX7_needs q.1 = .ok (q.2.1, q.2.2.1) ∧ q.1 + q.2.2.1 = q.2.2.2 := by decide +kernel
theorem miX7_needs : MI yX7_needs cX7_needs 6 (some .int) 1 := ⟨tw_mem (List.mem_of_getElem? (i := 1248) (by decide +kernel)) rfl, by decide, by decide +kernel, tw_mem (List.mem_of_getElem? (i := 78) (by decide +kernel)) rfl⟩
abbrev rmX7_needs : Room := { frames := 8, cells := 0, slots := 0, locals := 191 }
def wX7_needs : List Cond := [.fieldLink "ZoneCapacityModel" 50 "ZoneCapacityModel" "raised" "I", .methodLink "ZoneCapacityModel" 117 yX7_isZone, .instanceMethod yX7_isZone, .selects "ZoneCapacityModel" yX7_isZone yX7_isZone, .fieldLink "ZoneCapacityModel" 7 "ZoneCapacityModel" "w" "[I", .methodLink "ZoneCapacityModel" 156 yX7_clearsAll, .instanceMethod yX7_clearsAll, .selects "ZoneCapacityModel" yX7_clearsAll yX7_clearsAll, .fieldLink "ZoneCapacityModel" 29 "ZoneCapacityModel" "prices" "[I", .methodLink "ZoneCapacityModel" 58 yX7_ofZone, .instanceMethod yX7_ofZone, .selects "ZoneCapacityModel" yX7_ofZone yX7_ofZone]
theorem iX7_needs : ∀ w ∈ wX7_needs, w ∈ TW := tw_of (ids := [938, 1017, 1019, 25, 939, 1168, 1170, 46, 947, 1031, 1033, 26]) (by decide +kernel)
def f7_needs_j102 (x2 : Int32) (x3 : Int32) (x4 : Int32) (mm : Mem) : Option (Int32 × Mem) := rdc 1 x2 (nm (up2 mm 1 x2.toNatClampNeg x3) (fun m5 => some (x4, m5)))
theorem f7_needs_j102_ok {E : Ev} {l : Launch} {C : Cfg} {x : (Int32 × Mem)} (hj : Dj C) (X : Ec E l C rmX7_needs) (B : Bx E RX7 tbX7_needs 6 (some .int)) (hQ : Rt E) (hr : Rs E (some (.int x.1)) x.2) (x2 : Int32) (x3 : Int32) (x4 : Int32) (mm : Mem) (hf : f7_needs_j102 x2 x3 x4 mm = some x) : G E 6 102 [(0, .ref 0), (2, .int x2), (3, .int x3), (4, .int x4)] [] mm := by
  unfold f7_needs_j102 at hf
  refine z_aload_n B 59 rfl 0 0 rfl rfl ?_
  refine z_getr 7 1 0 B 60 rfl ob_0 rfl (iX7_needs _ (List.mem_of_getElem? (i := 4) rfl)) rfl ?_
  refine z_iload_n B 61 rfl 2 1 rfl rfl ?_
  refine z_iload_n B 62 rfl 3 2 rfl rfl ?_
  obtain ⟨hx, hf⟩ := rdc_e hf
  refine z_iast B 63 rfl ob_1 hx ?_
  obtain ⟨m5, ex, hf⟩ := nm_x hf
  refine z_mem ex ?_
  refine z_iload B 64 rfl 3 rfl ?_
  cases hf
  exact z_iret B 65 rfl rfl hQ hr
def f7_needs_j94 (k42 : Int32 → Int32 → Int32 → Int32 → Int32 → Mem → Option (Int32 × Mem)) (x1 : Int32) (x2 : Int32) (x3 : Int32) (x5 : Int32) (s0 : Int32) (mm : Mem) : Option (Int32 × Mem) := nm (x5 + 1) (fun v11 => k42 x1 x2 x3 s0 v11 mm)
theorem f7_needs_j94_ok {E : Ev} {l : Launch} {C : Cfg} {x : (Int32 × Mem)} {k42 : Int32 → Int32 → Int32 → Int32 → Int32 → Mem → Option (Int32 × Mem)} (hj : Dj C) (X : Ec E l C rmX7_needs) (B : Bx E RX7 tbX7_needs 6 (some .int)) (hQ : Rt E) (hr : Rs E (some (.int x.1)) x.2) (hk42 : ∀ (x1 : Int32) (x2 : Int32) (x3 : Int32) (x4 : Int32) (x5 : Int32) (mm : Mem), k42 x1 x2 x3 x4 x5 mm = some x → G E 6 42 [(0, .ref 0), (1, .int x1), (2, .int x2), (3, .int x3), (4, .int x4), (5, .int x5)] [] mm) (x1 : Int32) (x2 : Int32) (x3 : Int32) (x5 : Int32) (s0 : Int32) (mm : Mem) (hf : f7_needs_j94 k42 x1 x2 x3 x5 s0 mm = some x) : G E 6 94 [(0, .ref 0), (1, .int x1), (2, .int x2), (3, .int x3), (5, .int x5)] [.int s0] mm := by
  unfold f7_needs_j94 at hf
  refine z_istore [(4, .int s0), (0, .ref 0), (1, .int x1), (2, .int x2), (3, .int x3), (5, .int x5)] B 56 rfl (by decide) rfl ?_
  obtain ⟨v11, ex, hf⟩ := nm_x hf
  refine z_iinc v11 [(5, .int v11), (4, .int s0), (0, .ref 0), (1, .int x1), (2, .int x2), (3, .int x3)] B 57 rfl 5 rfl (ex.symm) (by decide) rfl ?_
  refine z_goto B 58 rfl 42 (by decide) ?_
  refine z_sub [(0, .ref 0), (1, .int x1), (2, .int x2), (3, .int x3), (4, .int s0), (5, .int v11)] [2, 3, 4, 5, 1, 0] rfl ?_
  exact hk42 _ _ _ _ _ _ hf
def f7_needs_l42 : Nat → Int32 → Int32 → Int32 → Int32 → Int32 → Mem → Option (Int32 × Mem)
  | 0, _, _, _, _, _, _ => none
  | n + 1, x1, x2, x3, x4, x5, mm => if (9999 : Int32) < x5 then f7_needs_j102 x2 x3 x4 mm else if x4 = (-1 : Int32) then rdc 1 x2 (nm (up2 mm 1 x2.toNatClampNeg x5) (fun m6 => bd (f7_clearsAll m6) (fun r7 => rdc 7 x1 (nm (r7 7 x1.toNatClampNeg) (fun v8 => bd (f7_ofZone r7 x1 (0 : Int32)) (fun r9 => rdc 7 r9 (nm (r7 7 r9.toNatClampNeg) (fun v10 => if v10 < v8 then f7_needs_j94 (fun x1 x2 x3 x4 x5 mm => f7_needs_l42 n x1 x2 x3 x4 x5 mm) x1 x2 x3 x5 (-1 : Int32) r7 else f7_needs_j94 (fun x1 x2 x3 x4 x5 mm => f7_needs_l42 n x1 x2 x3 x4 x5 mm) x1 x2 x3 x5 x5 r7)))))))) else f7_needs_j102 x2 x3 x4 mm
theorem f7_needs_l42_ok {E : Ev} {l : Launch} {C : Cfg} {x : (Int32 × Mem)} (hj : Dj C) (X : Ec E l C rmX7_needs) (B : Bx E RX7 tbX7_needs 6 (some .int)) (hQ : Rt E) (hr : Rs E (some (.int x.1)) x.2) (n : Nat) : ∀ (x1 : Int32) (x2 : Int32) (x3 : Int32) (x4 : Int32) (x5 : Int32) (mm : Mem), f7_needs_l42 n x1 x2 x3 x4 x5 mm = some x → G E 6 42 [(0, .ref 0), (1, .int x1), (2, .int x2), (3, .int x3), (4, .int x4), (5, .int x5)] [] mm := by
  induction n with
  | zero =>
    intro x1 x2 x3 x4 x5 mm hf
    rw [f7_needs_l42] at hf
    cases hf
  | succ n ih =>
    intro x1 x2 x3 x4 x5 mm hf
    rw [f7_needs_l42] at hf
    refine z_iload B 28 rfl 5 rfl ?_
    refine z_sipush 9999 B 29 rfl (by decide) ?_
    by_cases hc : (9999 : Int32) < x5
    · replace hf := (if_pos hc).symm.trans hf
      refine z_icmp_gt_t B 30 rfl 102 (by decide) hc ?_
      refine z_sub [(0, .ref 0), (2, .int x2), (3, .int x3), (4, .int x4)] [0, 2, 3, 4] rfl ?_
      exact f7_needs_j102_ok hj X B hQ hr _ _ _ _ hf
    · replace hf := (if_neg hc).symm.trans hf
      refine z_icmp_gt_f B 30 rfl 102 (by decide) hc ?_
      refine z_iload B 31 rfl 4 rfl ?_
      refine z_iconst (-1) B 32 rfl (by decide) ?_
      by_cases hc : x4 = (-1 : Int32)
      · replace hf := (if_pos hc).symm.trans hf
        refine z_icmp_ne_f B 33 rfl 102 (by decide) hc ?_
        refine z_aload_n B 34 rfl 0 0 rfl rfl ?_
        refine z_getr 7 1 0 B 35 rfl ob_0 rfl (iX7_needs _ (List.mem_of_getElem? (i := 4) rfl)) rfl ?_
        refine z_iload_n B 36 rfl 2 2 rfl rfl ?_
        refine z_iload B 37 rfl 5 rfl ?_
        obtain ⟨hx, hf⟩ := rdc_e hf
        refine z_iast B 38 rfl ob_1 hx ?_
        obtain ⟨m6, ex, hf⟩ := nm_x hf
        refine z_mem ex ?_
        refine z_aload_n B 39 rfl 0 0 rfl rfl ?_
        obtain ⟨r7, ec, hf⟩ := bd_e hf
        refine z_callV 0 7 [] [] [] X B 40 rfl ob_0 rfl rfl miX7_clearsAll ⟨(iX7_needs _ (List.mem_of_getElem? (i := 5) rfl)), (iX7_needs _ (List.mem_of_getElem? (i := 6) rfl)), (iX7_needs _ (List.mem_of_getElem? (i := 7) rfl))⟩ (ctX7_clearsAll hj ec) ⟨Nat.le_of_ble_eq_true rfl, Nat.le_of_ble_eq_true rfl⟩ rfl rfl (Nat.le_of_ble_eq_true rfl) rfl ?_
        refine z_aload_n B 41 rfl 0 0 rfl rfl ?_
        refine z_getr 7 9 0 B 42 rfl ob_0 rfl (iX7_needs _ (List.mem_of_getElem? (i := 8) rfl)) rfl ?_
        refine z_iload_n B 43 rfl 1 1 rfl rfl ?_
        obtain ⟨hx, hf⟩ := rdc_e hf
        refine z_iald B 44 rfl ob_7 hx ?_
        obtain ⟨v8, ex, hf⟩ := nm_x hf
        refine z_top ex ?_
        refine z_aload_n B 45 rfl 0 0 rfl rfl ?_
        refine z_getr 7 9 0 B 46 rfl ob_0 rfl (iX7_needs _ (List.mem_of_getElem? (i := 8) rfl)) rfl ?_
        refine z_aload_n B 47 rfl 0 0 rfl rfl ?_
        refine z_iload_n B 48 rfl 1 1 rfl rfl ?_
        refine z_iconst 0 B 49 rfl (by decide) ?_
        obtain ⟨r9, ec, hf⟩ := bd_e hf
        refine z_callV 0 7 [.int x1, .int (0 : Int32)] [.ref 7, .int v8] [.int r9, .ref 7, .int v8] X B 50 rfl ob_0 rfl rfl miX7_ofZone ⟨(iX7_needs _ (List.mem_of_getElem? (i := 9) rfl)), (iX7_needs _ (List.mem_of_getElem? (i := 10) rfl)), (iX7_needs _ (List.mem_of_getElem? (i := 11) rfl))⟩ (ctX7_ofZone hj ec) ⟨Nat.le_of_ble_eq_true rfl, Nat.le_of_ble_eq_true rfl⟩ rfl rfl (Nat.le_of_ble_eq_true rfl) rfl ?_
        obtain ⟨hx, hf⟩ := rdc_e hf
        refine z_iald B 51 rfl ob_7 hx ?_
        obtain ⟨v10, ex, hf⟩ := nm_x hf
        refine z_top ex ?_
        by_cases hc : v10 < v8
        · replace hf := (if_pos hc).symm.trans hf
          refine z_icmp_gt_t B 52 rfl 93 (by decide) hc ?_
          refine z_iconst (-1) B 55 rfl (by decide) ?_
          refine z_sub [(0, .ref 0), (1, .int x1), (2, .int x2), (3, .int x3), (5, .int x5)] [0, 1, 2, 3, 5] rfl ?_
          exact f7_needs_j94_ok hj X B hQ hr ih _ _ _ _ _ _ hf
        · replace hf := (if_neg hc).symm.trans hf
          refine z_icmp_gt_f B 52 rfl 93 (by decide) hc ?_
          refine z_iload B 53 rfl 5 rfl ?_
          refine z_goto B 54 rfl 94 (by decide) ?_
          refine z_sub [(0, .ref 0), (1, .int x1), (2, .int x2), (3, .int x3), (5, .int x5)] [0, 1, 2, 3, 5] rfl ?_
          exact f7_needs_j94_ok hj X B hQ hr ih _ _ _ _ _ _ hf
      · replace hf := (if_neg hc).symm.trans hf
        refine z_icmp_ne_t B 33 rfl 102 (by decide) hc ?_
        refine z_sub [(0, .ref 0), (2, .int x2), (3, .int x3), (4, .int x4)] [0, 2, 3, 4] rfl ?_
        exact f7_needs_j102_ok hj X B hQ hr _ _ _ _ hf
def f7_needs (mm : Mem) (a1 : Int32) : Option (Int32 × Mem) := nm (up2 mm 0 0 (0 : Int32)) (fun m1 => if a1 = 0 then some ((-1 : Int32), m1) else bd (f7_isZone m1 a1) (fun r2 => if r2 = 0 then some ((-1 : Int32), m1) else nm (((7 : Int32) + ((12 : Int32) * a1)) + (1 : Int32)) (fun v3 => rdc 1 v3 (nm (m1 1 v3.toNatClampNeg) (fun v4 => f7_needs_l42 FU a1 v3 v4 (-1 : Int32) (0 : Int32) m1)))))
theorem ctX7_needs {l : Launch} {C : Cfg} (hj : Dj C) {mm : Mem} {a1 : Int32} {x : (Int32 × Mem)} (hf : f7_needs mm a1 = some x) : Ct l C yX7_needs cX7_needs 6 (some .int) 8 191 [.ref 0, .int a1] mm (some (.int x.1)) x.2 := by
  refine Ct.of (tb := tbX7_needs) hj miX7_needs.2.1 miX7_needs.1 dtX7_needs (Nat.le_of_ble_eq_true rfl) ?_
  intro E B hQ hr X
  unfold f7_needs at hf
  show G E 6 0 [(0, .ref 0), (1, .int a1)] [] mm
  refine z_aload_n B 0 rfl 0 0 rfl rfl ?_
  refine z_iconst 0 B 1 rfl (by decide) ?_
  refine z_puti 7 0 0 B 2 rfl ob_0 rfl (iX7_needs _ (List.mem_of_getElem? (i := 0) rfl)) rfl (ty := .int) (by decide) rfl rfl rfl ?_
  obtain ⟨m1, ex, hf⟩ := nm_x hf
  refine z_mem ex ?_
  refine z_iload_n B 3 rfl 1 1 rfl rfl ?_
  by_cases hc : a1 = 0
  · replace hf := (if_pos hc).symm.trans hf
    refine z_if_eq_t B 4 rfl 17 (by decide) hc ?_
    refine z_iconst (-1) B 9 rfl (by decide) ?_
    cases hf
    exact z_iret B 10 rfl rfl hQ hr
  · replace hf := (if_neg hc).symm.trans hf
    refine z_if_eq_f B 4 rfl 17 (by decide) hc ?_
    refine z_aload_n B 5 rfl 0 0 rfl rfl ?_
    refine z_iload_n B 6 rfl 1 1 rfl rfl ?_
    obtain ⟨r2, ec, hf⟩ := bd_e hf
    refine z_callV 0 7 [.int a1] [] [.int r2] X B 7 rfl ob_0 rfl rfl miX7_isZone ⟨(iX7_needs _ (List.mem_of_getElem? (i := 1) rfl)), (iX7_needs _ (List.mem_of_getElem? (i := 2) rfl)), (iX7_needs _ (List.mem_of_getElem? (i := 3) rfl))⟩ (ctX7_isZone hj ec) ⟨Nat.le_of_ble_eq_true rfl, Nat.le_of_ble_eq_true rfl⟩ rfl rfl (Nat.le_of_ble_eq_true rfl) rfl ?_
    by_cases hc : r2 = 0
    · replace hf := (if_pos hc).symm.trans hf
      refine z_if_ne_f B 8 rfl 19 (by decide) hc ?_
      refine z_iconst (-1) B 9 rfl (by decide) ?_
      cases hf
      exact z_iret B 10 rfl rfl hQ hr
    · replace hf := (if_neg hc).symm.trans hf
      refine z_if_ne_t B 8 rfl 19 (by decide) hc ?_
      refine z_bipush 7 B 11 rfl (by decide) ?_
      refine z_bipush 12 B 12 rfl (by decide) ?_
      refine z_iload_n B 13 rfl 1 1 rfl rfl ?_
      refine z_imul B 14 rfl ?_
      refine z_iadd B 15 rfl ?_
      refine z_iconst 1 B 16 rfl (by decide) ?_
      refine z_iadd B 17 rfl ?_
      obtain ⟨v3, ex, hf⟩ := nm_x hf
      refine z_top ex ?_
      refine z_istore_n [(2, .int v3), (0, .ref 0), (1, .int a1)] B 18 rfl 2 rfl (by decide) rfl ?_
      refine z_aload_n B 19 rfl 0 1 rfl rfl ?_
      refine z_getr 7 1 0 B 20 rfl ob_0 rfl (iX7_needs _ (List.mem_of_getElem? (i := 4) rfl)) rfl ?_
      refine z_iload_n B 21 rfl 2 0 rfl rfl ?_
      obtain ⟨hx, hf⟩ := rdc_e hf
      refine z_iald B 22 rfl ob_1 hx ?_
      obtain ⟨v4, ex, hf⟩ := nm_x hf
      refine z_top ex ?_
      refine z_istore_n [(3, .int v4), (2, .int v3), (0, .ref 0), (1, .int a1)] B 23 rfl 3 rfl (by decide) rfl ?_
      refine z_iconst (-1) B 24 rfl (by decide) ?_
      refine z_istore [(4, .int (-1 : Int32)), (3, .int v4), (2, .int v3), (0, .ref 0), (1, .int a1)] B 25 rfl (by decide) rfl ?_
      refine z_iconst 0 B 26 rfl (by decide) ?_
      refine z_istore [(5, .int (0 : Int32)), (4, .int (-1 : Int32)), (3, .int v4), (2, .int v3), (0, .ref 0), (1, .int a1)] B 27 rfl (by decide) rfl ?_
      refine z_sub [(0, .ref 0), (1, .int a1), (2, .int v3), (3, .int v4), (4, .int (-1 : Int32)), (5, .int (0 : Int32))] [4, 5, 3, 2, 1, 0] rfl ?_
      exact f7_needs_l42_ok hj X B hQ hr FU _ _ _ _ _ _ hf
/-! ZoneCapacityModel.freely(I)I -/
def tbX7_freely : Tb := [(0, .aload_n 0, 1, 1), (1, .iconst 0, 1, 2), (2, .putfield 50, 3, 5), (5, .aload_n 0, 1, 6), (6, .iload_n 1, 1, 7), (7, .invokevirtual 117, 3, 10), (10, .ifCond .ne 5, 3, 13), (13, .iconst (-1), 1, 14), (14, .ireturn, 1, 15), (15, .aload_n 0, 1, 16), (16, .iconst 0, 1, 17), (17, .putfield 85, 3, 20), (20, .aload_n 0, 1, 21), (21, .iconst 1, 1, 22), (22, .putfield 78, 3, 25), (25, .aload_n 0, 1, 26), (26, .invokevirtual 114, 3, 29), (29, .aload_n 0, 1, 30), (30, .iconst 0, 1, 31), (31, .putfield 78, 3, 34), (34, .aload_n 0, 1, 35), (35, .getfield 29, 3, 38), (38, .iload_n 1, 1, 39), (39, .iaload, 1, 40), (40, .ireturn, 1, 41)]
theorem dtX7_freely : ∀ q ∈ tbX7_freely, decode cX7_freely q.1 = .ok (q.2.1, q.2.2.1) ∧ q.1 + q.2.2.1 = q.2.2.2 := by decide +kernel
theorem miX7_freely : MI yX7_freely cX7_freely 2 (some .int) 1 := ⟨tw_mem (List.mem_of_getElem? (i := 1252) (by decide +kernel)) rfl, by decide, by decide +kernel, tw_mem (List.mem_of_getElem? (i := 78) (by decide +kernel)) rfl⟩
abbrev rmX7_freely : Room := { frames := 7, cells := 0, slots := 0, locals := 171 }
def wX7_freely : List Cond := [.fieldLink "ZoneCapacityModel" 50 "ZoneCapacityModel" "raised" "I", .methodLink "ZoneCapacityModel" 117 yX7_isZone, .instanceMethod yX7_isZone, .selects "ZoneCapacityModel" yX7_isZone yX7_isZone, .fieldLink "ZoneCapacityModel" 85 "ZoneCapacityModel" "gone" "I", .fieldLink "ZoneCapacityModel" 78 "ZoneCapacityModel" "noFloors" "Z", .methodLink "ZoneCapacityModel" 114 yX7_clears, .instanceMethod yX7_clears, .selects "ZoneCapacityModel" yX7_clears yX7_clears, .fieldLink "ZoneCapacityModel" 29 "ZoneCapacityModel" "prices" "[I"]
theorem iX7_freely : ∀ w ∈ wX7_freely, w ∈ TW := tw_of (ids := [938, 1017, 1019, 25, 943, 944, 1172, 1174, 47, 947]) (by decide +kernel)
def f7_freely (mm : Mem) (a1 : Int32) : Option (Int32 × Mem) := nm (up2 mm 0 0 (0 : Int32)) (fun m1 => bd (f7_isZone m1 a1) (fun r2 => if r2 = 0 then some ((-1 : Int32), m1) else nm (up2 m1 0 5 (0 : Int32)) (fun m3 => nm (up2 m3 0 6 (1 : Int32)) (fun m4 => bd (f7_clears m4) (fun r5 => nm (up2 r5 0 6 (0 : Int32)) (fun m6 => rdc 7 a1 (nm (m6 7 a1.toNatClampNeg) (fun v7 => some (v7, m6)))))))))
theorem ctX7_freely {l : Launch} {C : Cfg} (hj : Dj C) {mm : Mem} {a1 : Int32} {x : (Int32 × Mem)} (hf : f7_freely mm a1 = some x) : Ct l C yX7_freely cX7_freely 2 (some .int) 7 171 [.ref 0, .int a1] mm (some (.int x.1)) x.2 := by
  refine Ct.of (tb := tbX7_freely) hj miX7_freely.2.1 miX7_freely.1 dtX7_freely (Nat.le_of_ble_eq_true rfl) ?_
  intro E B hQ hr X
  unfold f7_freely at hf
  show G E 2 0 [(0, .ref 0), (1, .int a1)] [] mm
  refine z_aload_n B 0 rfl 0 0 rfl rfl ?_
  refine z_iconst 0 B 1 rfl (by decide) ?_
  refine z_puti 7 0 0 B 2 rfl ob_0 rfl (iX7_freely _ (List.mem_of_getElem? (i := 0) rfl)) rfl (ty := .int) (by decide) rfl rfl rfl ?_
  obtain ⟨m1, ex, hf⟩ := nm_x hf
  refine z_mem ex ?_
  refine z_aload_n B 3 rfl 0 0 rfl rfl ?_
  refine z_iload_n B 4 rfl 1 1 rfl rfl ?_
  obtain ⟨r2, ec, hf⟩ := bd_e hf
  refine z_callV 0 7 [.int a1] [] [.int r2] X B 5 rfl ob_0 rfl rfl miX7_isZone ⟨(iX7_freely _ (List.mem_of_getElem? (i := 1) rfl)), (iX7_freely _ (List.mem_of_getElem? (i := 2) rfl)), (iX7_freely _ (List.mem_of_getElem? (i := 3) rfl))⟩ (ctX7_isZone hj ec) ⟨Nat.le_of_ble_eq_true rfl, Nat.le_of_ble_eq_true rfl⟩ rfl rfl (Nat.le_of_ble_eq_true rfl) rfl ?_
  by_cases hc : r2 = 0
  · replace hf := (if_pos hc).symm.trans hf
    refine z_if_ne_f B 6 rfl 15 (by decide) hc ?_
    refine z_iconst (-1) B 7 rfl (by decide) ?_
    cases hf
    exact z_iret B 8 rfl rfl hQ hr
  · replace hf := (if_neg hc).symm.trans hf
    refine z_if_ne_t B 6 rfl 15 (by decide) hc ?_
    refine z_aload_n B 9 rfl 0 0 rfl rfl ?_
    refine z_iconst 0 B 10 rfl (by decide) ?_
    refine z_puti 7 5 0 B 11 rfl ob_0 rfl (iX7_freely _ (List.mem_of_getElem? (i := 4) rfl)) rfl (ty := .int) (by decide) rfl rfl rfl ?_
    obtain ⟨m3, ex, hf⟩ := nm_x hf
    refine z_mem ex ?_
    refine z_aload_n B 12 rfl 0 0 rfl rfl ?_
    refine z_iconst 1 B 13 rfl (by decide) ?_
    refine z_puti 7 6 0 B 14 rfl ob_0 rfl (iX7_freely _ (List.mem_of_getElem? (i := 5) rfl)) rfl (ty := .boolean) (by decide) rfl (by decide) (by decide) ?_
    obtain ⟨m4, ex, hf⟩ := nm_x hf
    refine z_mem ex ?_
    refine z_aload_n B 15 rfl 0 0 rfl rfl ?_
    obtain ⟨r5, ec, hf⟩ := bd_e hf
    refine z_callV 0 7 [] [] [] X B 16 rfl ob_0 rfl rfl miX7_clears ⟨(iX7_freely _ (List.mem_of_getElem? (i := 6) rfl)), (iX7_freely _ (List.mem_of_getElem? (i := 7) rfl)), (iX7_freely _ (List.mem_of_getElem? (i := 8) rfl))⟩ (ctX7_clears hj ec) ⟨Nat.le_of_ble_eq_true rfl, Nat.le_of_ble_eq_true rfl⟩ rfl rfl (Nat.le_of_ble_eq_true rfl) rfl ?_
    refine z_aload_n B 17 rfl 0 0 rfl rfl ?_
    refine z_iconst 0 B 18 rfl (by decide) ?_
    refine z_puti 7 6 0 B 19 rfl ob_0 rfl (iX7_freely _ (List.mem_of_getElem? (i := 5) rfl)) rfl (ty := .boolean) (by decide) rfl (by decide) (by decide) ?_
    obtain ⟨m6, ex, hf⟩ := nm_x hf
    refine z_mem ex ?_
    refine z_aload_n B 20 rfl 0 0 rfl rfl ?_
    refine z_getr 7 9 0 B 21 rfl ob_0 rfl (iX7_freely _ (List.mem_of_getElem? (i := 9) rfl)) rfl ?_
    refine z_iload_n B 22 rfl 1 1 rfl rfl ?_
    obtain ⟨hx, hf⟩ := rdc_e hf
    refine z_iald B 23 rfl ob_7 hx ?_
    obtain ⟨v7, ex, hf⟩ := nm_x hf
    refine z_top ex ?_
    cases hf
    exact z_iret B 24 rfl rfl hQ hr
/-! ZoneCapacityModel.offersAll(IZ)V -/
def tbX7_offersAll : Tb := [(0, .iconst 0, 1, 1), (1, .istore_n 3, 1, 2), (2, .iload_n 3, 1, 3), (3, .bipush 7, 2, 5), (5, .if_icmp .ge 62, 3, 8), (8, .iload_n 2, 1, 9), (9, .ifCond .eq 29, 3, 12), (12, .aload_n 0, 1, 13), (13, .getfield 41, 3, 16), (16, .iload_n 3, 1, 17), (17, .aload_n 0, 1, 18), (18, .getfield 7, 3, 21), (21, .bipush 79, 2, 23), (23, .bipush 13, 2, 25), (25, .iload_n 1, 1, 26), (26, .imul, 1, 27), (27, .iadd, 1, 28), (28, .bipush 6, 2, 30), (30, .iadd, 1, 31), (31, .iload_n 3, 1, 32), (32, .iadd, 1, 33), (33, .iaload, 1, 34), (34, .iastore, 1, 35), (35, .goto 26, 3, 38), (38, .aload_n 0, 1, 39), (39, .getfield 7, 3, 42), (42, .bipush 79, 2, 44), (44, .bipush 13, 2, 46), (46, .iload_n 1, 1, 47), (47, .imul, 1, 48), (48, .iadd, 1, 49), (49, .bipush 6, 2, 51), (51, .iadd, 1, 52), (52, .iload_n 3, 1, 53), (53, .iadd, 1, 54), (54, .aload_n 0, 1, 55), (55, .getfield 41, 3, 58), (58, .iload_n 3, 1, 59), (59, .iaload, 1, 60), (60, .iastore, 1, 61), (61, .iinc 3 1, 3, 64), (64, .goto (-62), 3, 67), (67, .return_, 1, 68)]
theorem dtX7_offersAll : ∀ q ∈ tbX7_offersAll, decode cX7_offersAll q.1 = .ok (q.2.1, q.2.2.1) ∧ q.1 + q.2.2.1 = q.2.2.2 := by decide +kernel
theorem miX7_offersAll : MI yX7_offersAll cX7_offersAll 4 none 2 := ⟨tw_mem (List.mem_of_getElem? (i := 1264) (by decide +kernel)) rfl, by decide, by decide +kernel, tw_mem (List.mem_of_getElem? (i := 78) (by decide +kernel)) rfl⟩
abbrev rmX7_offersAll : Room := { frames := 0, cells := 0, slots := 0, locals := 0 }
def wX7_offersAll : List Cond := [.fieldLink "ZoneCapacityModel" 7 "ZoneCapacityModel" "w" "[I", .fieldLink "ZoneCapacityModel" 41 "ZoneCapacityModel" "hadSteps" "[I"]
theorem iX7_offersAll : ∀ w ∈ wX7_offersAll, w ∈ TW := tw_of (ids := [939, 951]) (by decide +kernel)
def f7_offersAll_j61 (k2 : Int32 → Int32 → Int32 → Mem → Option Mem) (x1 : Int32) (x2 : Int32) (x3 : Int32) (mm : Mem) : Option Mem := nm (x3 + 1) (fun v3 => k2 x1 x2 v3 mm)
theorem f7_offersAll_j61_ok {E : Ev} {l : Launch} {C : Cfg} {x : Mem} {k2 : Int32 → Int32 → Int32 → Mem → Option Mem} (hj : Dj C) (X : Ec E l C rmX7_offersAll) (B : Bx E RX7 tbX7_offersAll 4 none) (hQ : Rt E) (hr : Rs E none x) (hk2 : ∀ (x1 : Int32) (x2 : Int32) (x3 : Int32) (mm : Mem), k2 x1 x2 x3 mm = some x → G E 4 2 [(0, .ref 0), (1, .int x1), (2, .int x2), (3, .int x3)] [] mm) (x1 : Int32) (x2 : Int32) (x3 : Int32) (mm : Mem) (hf : f7_offersAll_j61 k2 x1 x2 x3 mm = some x) : G E 4 61 [(0, .ref 0), (1, .int x1), (2, .int x2), (3, .int x3)] [] mm := by
  unfold f7_offersAll_j61 at hf
  obtain ⟨v3, ex, hf⟩ := nm_x hf
  refine z_iinc v3 [(3, .int v3), (0, .ref 0), (1, .int x1), (2, .int x2)] B 40 rfl 3 rfl (ex.symm) (by decide) rfl ?_
  refine z_goto B 41 rfl 2 (by decide) ?_
  refine z_sub [(0, .ref 0), (1, .int x1), (2, .int x2), (3, .int v3)] [1, 2, 3, 0] rfl ?_
  exact hk2 _ _ _ _ hf
def f7_offersAll_l2 : Nat → Int32 → Int32 → Int32 → Mem → Option Mem
  | 0, _, _, _, _ => none
  | n + 1, x1, x2, x3, mm => if x3 < (7 : Int32) then if x2 = 0 then rdc 11 x3 (nm (mm 11 x3.toNatClampNeg) (fun v1 => rdc 1 ((((79 : Int32) + ((13 : Int32) * x1)) + (6 : Int32)) + x3) (nm (up2 mm 1 ((((79 : Int32) + ((13 : Int32) * x1)) + (6 : Int32)) + x3).toNatClampNeg v1) (fun m2 => f7_offersAll_j61 (fun x1 x2 x3 mm => f7_offersAll_l2 n x1 x2 x3 mm) x1 x2 x3 m2)))) else rdc 1 ((((79 : Int32) + ((13 : Int32) * x1)) + (6 : Int32)) + x3) (nm (mm 1 ((((79 : Int32) + ((13 : Int32) * x1)) + (6 : Int32)) + x3).toNatClampNeg) (fun v4 => rdc 11 x3 (nm (up2 mm 11 x3.toNatClampNeg v4) (fun m5 => f7_offersAll_j61 (fun x1 x2 x3 mm => f7_offersAll_l2 n x1 x2 x3 mm) x1 x2 x3 m5)))) else some mm
theorem f7_offersAll_l2_ok {E : Ev} {l : Launch} {C : Cfg} {x : Mem} (hj : Dj C) (X : Ec E l C rmX7_offersAll) (B : Bx E RX7 tbX7_offersAll 4 none) (hQ : Rt E) (hr : Rs E none x) (n : Nat) : ∀ (x1 : Int32) (x2 : Int32) (x3 : Int32) (mm : Mem), f7_offersAll_l2 n x1 x2 x3 mm = some x → G E 4 2 [(0, .ref 0), (1, .int x1), (2, .int x2), (3, .int x3)] [] mm := by
  induction n with
  | zero =>
    intro x1 x2 x3 mm hf
    rw [f7_offersAll_l2] at hf
    cases hf
  | succ n ih =>
    intro x1 x2 x3 mm hf
    rw [f7_offersAll_l2] at hf
    refine z_iload_n B 2 rfl 3 3 rfl rfl ?_
    refine z_bipush 7 B 3 rfl (by decide) ?_
    by_cases hc : x3 < (7 : Int32)
    · replace hf := (if_pos hc).symm.trans hf
      refine z_icmp_ge_f B 4 rfl 67 (by decide) hc ?_
      refine z_iload_n B 5 rfl 2 2 rfl rfl ?_
      by_cases hc : x2 = 0
      · replace hf := (if_pos hc).symm.trans hf
        refine z_if_eq_t B 6 rfl 38 (by decide) hc ?_
        refine z_aload_n B 24 rfl 0 0 rfl rfl ?_
        refine z_getr 7 1 0 B 25 rfl ob_0 rfl (iX7_offersAll _ (List.mem_of_getElem? (i := 0) rfl)) rfl ?_
        refine z_bipush 79 B 26 rfl (by decide) ?_
        refine z_bipush 13 B 27 rfl (by decide) ?_
        refine z_iload_n B 28 rfl 1 1 rfl rfl ?_
        refine z_imul B 29 rfl ?_
        refine z_iadd B 30 rfl ?_
        refine z_bipush 6 B 31 rfl (by decide) ?_
        refine z_iadd B 32 rfl ?_
        refine z_iload_n B 33 rfl 3 3 rfl rfl ?_
        refine z_iadd B 34 rfl ?_
        refine z_aload_n B 35 rfl 0 0 rfl rfl ?_
        refine z_getr 7 13 0 B 36 rfl ob_0 rfl (iX7_offersAll _ (List.mem_of_getElem? (i := 1) rfl)) rfl ?_
        refine z_iload_n B 37 rfl 3 3 rfl rfl ?_
        obtain ⟨hx, hf⟩ := rdc_e hf
        refine z_iald B 38 rfl ob_11 hx ?_
        obtain ⟨v1, ex, hf⟩ := nm_x hf
        refine z_top ex ?_
        obtain ⟨hx, hf⟩ := rdc_e hf
        refine z_iast B 39 rfl ob_1 hx ?_
        obtain ⟨m2, ex, hf⟩ := nm_x hf
        refine z_mem ex ?_
        exact f7_offersAll_j61_ok hj X B hQ hr ih _ _ _ _ hf
      · replace hf := (if_neg hc).symm.trans hf
        refine z_if_eq_f B 6 rfl 38 (by decide) hc ?_
        refine z_aload_n B 7 rfl 0 0 rfl rfl ?_
        refine z_getr 7 13 0 B 8 rfl ob_0 rfl (iX7_offersAll _ (List.mem_of_getElem? (i := 1) rfl)) rfl ?_
        refine z_iload_n B 9 rfl 3 3 rfl rfl ?_
        refine z_aload_n B 10 rfl 0 0 rfl rfl ?_
        refine z_getr 7 1 0 B 11 rfl ob_0 rfl (iX7_offersAll _ (List.mem_of_getElem? (i := 0) rfl)) rfl ?_
        refine z_bipush 79 B 12 rfl (by decide) ?_
        refine z_bipush 13 B 13 rfl (by decide) ?_
        refine z_iload_n B 14 rfl 1 1 rfl rfl ?_
        refine z_imul B 15 rfl ?_
        refine z_iadd B 16 rfl ?_
        refine z_bipush 6 B 17 rfl (by decide) ?_
        refine z_iadd B 18 rfl ?_
        refine z_iload_n B 19 rfl 3 3 rfl rfl ?_
        refine z_iadd B 20 rfl ?_
        obtain ⟨hx, hf⟩ := rdc_e hf
        refine z_iald B 21 rfl ob_1 hx ?_
        obtain ⟨v4, ex, hf⟩ := nm_x hf
        refine z_top ex ?_
        obtain ⟨hx, hf⟩ := rdc_e hf
        refine z_iast B 22 rfl ob_11 hx ?_
        obtain ⟨m5, ex, hf⟩ := nm_x hf
        refine z_mem ex ?_
        refine z_goto B 23 rfl 61 (by decide) ?_
        exact f7_offersAll_j61_ok hj X B hQ hr ih _ _ _ _ hf
    · replace hf := (if_neg hc).symm.trans hf
      refine z_icmp_ge_t B 4 rfl 67 (by decide) hc ?_
      cases hf
      exact z_vret B 42 rfl hQ hr
def f7_offersAll (mm : Mem) (a1 : Int32) (a2 : Int32) : Option Mem := f7_offersAll_l2 FU a1 a2 (0 : Int32) mm
theorem ctX7_offersAll {l : Launch} {C : Cfg} (hj : Dj C) {mm : Mem} {a1 : Int32} {a2 : Int32} {x : Mem} (hf : f7_offersAll mm a1 a2 = some x) : Ct l C yX7_offersAll cX7_offersAll 4 none 0 0 [.ref 0, .int a1, .int a2] mm none x := by
  refine Ct.of (tb := tbX7_offersAll) hj miX7_offersAll.2.1 miX7_offersAll.1 dtX7_offersAll (Nat.le_of_ble_eq_true rfl) ?_
  intro E B hQ hr X
  unfold f7_offersAll at hf
  show G E 4 0 [(0, .ref 0), (1, .int a1), (2, .int a2)] [] mm
  refine z_iconst 0 B 0 rfl (by decide) ?_
  refine z_istore_n [(3, .int (0 : Int32)), (0, .ref 0), (1, .int a1), (2, .int a2)] B 1 rfl 3 rfl (by decide) rfl ?_
  refine z_sub [(0, .ref 0), (1, .int a1), (2, .int a2), (3, .int (0 : Int32))] [1, 2, 3, 0] rfl ?_
  exact f7_offersAll_l2_ok hj X B hQ hr FU _ _ _ _ hf
/-! ZoneCapacityModel.gainOf(III)J -/
def tbX7_gainOf : Tb := [(0, .aload_n 0, 1, 1), (1, .iload_n 1, 1, 2), (2, .iconst 1, 1, 3), (3, .invokevirtual 172, 3, 6), (6, .aload_n 0, 1, 7), (7, .getfield 7, 3, 10), (10, .bipush 79, 2, 12), (12, .bipush 13, 2, 14), (14, .iload_n 1, 1, 15), (15, .imul, 1, 16), (16, .iadd, 1, 17), (17, .bipush 6, 2, 19), (19, .iadd, 1, 20), (20, .iconst 0, 1, 21), (21, .iastore, 1, 22), (22, .aload_n 0, 1, 23), (23, .iload_n 1, 1, 24), (24, .aload_n 0, 1, 25), (25, .iload_n 1, 1, 26), (26, .iconst 1, 1, 27), (27, .invokevirtual 75, 3, 30), (30, .iload_n 2, 1, 31), (31, .invokevirtual 141, 3, 34), (34, .aload_n 0, 1, 35), (35, .invokevirtual 156, 3, 38), (38, .aload_n 0, 1, 39), (39, .iload_n 1, 1, 40), (40, .invokevirtual 159, 3, 43), (43, .i2l, 1, 44), (44, .aload_n 0, 1, 45), (45, .getfield 29, 3, 48), (48, .aload_n 0, 1, 49), (49, .iload_n 1, 1, 50), (50, .iconst 0, 1, 51), (51, .invokevirtual 75, 3, 54), (54, .iaload, 1, 55), (55, .iload_n 3, 1, 56), (56, .isub, 1, 57), (57, .i2l, 1, 58), (58, .lmul, 1, 59), (59, .lstore 4, 2, 61), (61, .aload_n 0, 1, 62), (62, .iload_n 1, 1, 63), (63, .iconst 0, 1, 64), (64, .invokevirtual 172, 3, 67), (67, .lload 4, 2, 69), (69, .lreturn, 1, 70)]
theorem dtX7_gainOf : ∀ q ∈ tbX7_gainOf, decode cX7_gainOf q.1 = .ok (q.2.1, q.2.2.1) ∧ q.1 + q.2.2.1 = q.2.2.2 := by decide +kernel
theorem miX7_gainOf : MI yX7_gainOf cX7_gainOf 6 (some .long) 3 := ⟨tw_mem (List.mem_of_getElem? (i := 1260) (by decide +kernel)) rfl, by decide, by decide +kernel, tw_mem (List.mem_of_getElem? (i := 78) (by decide +kernel)) rfl⟩
abbrev rmX7_gainOf : Room := { frames := 8, cells := 0, slots := 0, locals := 191 }
def wX7_gainOf : List Cond := [.methodLink "ZoneCapacityModel" 172 yX7_offersAll, .instanceMethod yX7_offersAll, .selects "ZoneCapacityModel" yX7_offersAll yX7_offersAll, .fieldLink "ZoneCapacityModel" 7 "ZoneCapacityModel" "w" "[I", .methodLink "ZoneCapacityModel" 75 yX7_ofResource, .instanceMethod yX7_ofResource, .selects "ZoneCapacityModel" yX7_ofResource yX7_ofResource, .methodLink "ZoneCapacityModel" 141 yX7_addStep, .instanceMethod yX7_addStep, .selects "ZoneCapacityModel" yX7_addStep yX7_addStep, .methodLink "ZoneCapacityModel" 156 yX7_clearsAll, .instanceMethod yX7_clearsAll, .selects "ZoneCapacityModel" yX7_clearsAll yX7_clearsAll, .methodLink "ZoneCapacityModel" 159 yX7_takenOf, .instanceMethod yX7_takenOf, .selects "ZoneCapacityModel" yX7_takenOf yX7_takenOf, .fieldLink "ZoneCapacityModel" 29 "ZoneCapacityModel" "prices" "[I"]
theorem iX7_gainOf : ∀ w ∈ wX7_gainOf, w ∈ TW := tw_of (ids := [1261, 1263, 55, 939, 1067, 1069, 33, 1079, 1081, 36, 1168, 1170, 46, 1200, 1202, 51, 947]) (by decide +kernel)
def f7_gainOf (mm : Mem) (a1 : Int32) (a2 : Int32) (a3 : Int32) : Option (Int64 × Mem) := bd (f7_offersAll mm a1 (1 : Int32)) (fun r1 => rdc 1 (((79 : Int32) + ((13 : Int32) * a1)) + (6 : Int32)) (nm (up2 r1 1 (((79 : Int32) + ((13 : Int32) * a1)) + (6 : Int32)).toNatClampNeg (0 : Int32)) (fun m2 => bd (f7_ofResource m2 a1 (1 : Int32)) (fun r3 => bd (f7_addStep m2 a1 r3 a2) (fun r4 => bd (f7_clearsAll r4) (fun r5 => bd (f7_takenOf r5 a1) (fun r6 => bd (f7_ofResource r5 a1 (0 : Int32)) (fun r7 => rdc 7 r7 (nm (r5 7 r7.toNatClampNeg) (fun v8 => nm (r6.toInt64 * ((v8 - a3).toInt64)) (fun v9 => bd (f7_offersAll r5 a1 (0 : Int32)) (fun r10 => some (v9, r10)))))))))))))
theorem ctX7_gainOf {l : Launch} {C : Cfg} (hj : Dj C) {mm : Mem} {a1 : Int32} {a2 : Int32} {a3 : Int32} {x : (Int64 × Mem)} (hf : f7_gainOf mm a1 a2 a3 = some x) : Ct l C yX7_gainOf cX7_gainOf 6 (some .long) 8 191 [.ref 0, .int a1, .int a2, .int a3] mm (some (.long x.1)) x.2 := by
  refine Ct.of (tb := tbX7_gainOf) hj miX7_gainOf.2.1 miX7_gainOf.1 dtX7_gainOf (Nat.le_of_ble_eq_true rfl) ?_
  intro E B hQ hr X
  unfold f7_gainOf at hf
  show G E 6 0 [(0, .ref 0), (1, .int a1), (2, .int a2), (3, .int a3)] [] mm
  refine z_aload_n B 0 rfl 0 0 rfl rfl ?_
  refine z_iload_n B 1 rfl 1 1 rfl rfl ?_
  refine z_iconst 1 B 2 rfl (by decide) ?_
  obtain ⟨r1, ec, hf⟩ := bd_e hf
  refine z_callV 0 7 [.int a1, .int (1 : Int32)] [] [] X B 3 rfl ob_0 rfl rfl miX7_offersAll ⟨(iX7_gainOf _ (List.mem_of_getElem? (i := 0) rfl)), (iX7_gainOf _ (List.mem_of_getElem? (i := 1) rfl)), (iX7_gainOf _ (List.mem_of_getElem? (i := 2) rfl))⟩ (ctX7_offersAll hj ec) ⟨Nat.le_of_ble_eq_true rfl, Nat.le_of_ble_eq_true rfl⟩ rfl rfl (Nat.le_of_ble_eq_true rfl) rfl ?_
  refine z_aload_n B 4 rfl 0 0 rfl rfl ?_
  refine z_getr 7 1 0 B 5 rfl ob_0 rfl (iX7_gainOf _ (List.mem_of_getElem? (i := 3) rfl)) rfl ?_
  refine z_bipush 79 B 6 rfl (by decide) ?_
  refine z_bipush 13 B 7 rfl (by decide) ?_
  refine z_iload_n B 8 rfl 1 1 rfl rfl ?_
  refine z_imul B 9 rfl ?_
  refine z_iadd B 10 rfl ?_
  refine z_bipush 6 B 11 rfl (by decide) ?_
  refine z_iadd B 12 rfl ?_
  refine z_iconst 0 B 13 rfl (by decide) ?_
  obtain ⟨hx, hf⟩ := rdc_e hf
  refine z_iast B 14 rfl ob_1 hx ?_
  obtain ⟨m2, ex, hf⟩ := nm_x hf
  refine z_mem ex ?_
  refine z_aload_n B 15 rfl 0 0 rfl rfl ?_
  refine z_iload_n B 16 rfl 1 1 rfl rfl ?_
  refine z_aload_n B 17 rfl 0 0 rfl rfl ?_
  refine z_iload_n B 18 rfl 1 1 rfl rfl ?_
  refine z_iconst 1 B 19 rfl (by decide) ?_
  obtain ⟨r3, ec, hf⟩ := bd_e hf
  refine z_callV 0 7 [.int a1, .int (1 : Int32)] [.int a1, .ref 0] [.int r3, .int a1, .ref 0] X B 20 rfl ob_0 rfl rfl miX7_ofResource ⟨(iX7_gainOf _ (List.mem_of_getElem? (i := 4) rfl)), (iX7_gainOf _ (List.mem_of_getElem? (i := 5) rfl)), (iX7_gainOf _ (List.mem_of_getElem? (i := 6) rfl))⟩ (ctX7_ofResource hj ec) ⟨Nat.le_of_ble_eq_true rfl, Nat.le_of_ble_eq_true rfl⟩ rfl rfl (Nat.le_of_ble_eq_true rfl) rfl ?_
  refine z_iload_n B 21 rfl 2 2 rfl rfl ?_
  obtain ⟨r4, ec, hf⟩ := bd_e hf
  refine z_callV 0 7 [.int a1, .int r3, .int a2] [] [] X B 22 rfl ob_0 rfl rfl miX7_addStep ⟨(iX7_gainOf _ (List.mem_of_getElem? (i := 7) rfl)), (iX7_gainOf _ (List.mem_of_getElem? (i := 8) rfl)), (iX7_gainOf _ (List.mem_of_getElem? (i := 9) rfl))⟩ (ctX7_addStep hj ec) ⟨Nat.le_of_ble_eq_true rfl, Nat.le_of_ble_eq_true rfl⟩ rfl rfl (Nat.le_of_ble_eq_true rfl) rfl ?_
  refine z_aload_n B 23 rfl 0 0 rfl rfl ?_
  obtain ⟨r5, ec, hf⟩ := bd_e hf
  refine z_callV 0 7 [] [] [] X B 24 rfl ob_0 rfl rfl miX7_clearsAll ⟨(iX7_gainOf _ (List.mem_of_getElem? (i := 10) rfl)), (iX7_gainOf _ (List.mem_of_getElem? (i := 11) rfl)), (iX7_gainOf _ (List.mem_of_getElem? (i := 12) rfl))⟩ (ctX7_clearsAll hj ec) ⟨Nat.le_of_ble_eq_true rfl, Nat.le_of_ble_eq_true rfl⟩ rfl rfl (Nat.le_of_ble_eq_true rfl) rfl ?_
  refine z_aload_n B 25 rfl 0 0 rfl rfl ?_
  refine z_iload_n B 26 rfl 1 1 rfl rfl ?_
  obtain ⟨r6, ec, hf⟩ := bd_e hf
  refine z_callV 0 7 [.int a1] [] [.int r6] X B 27 rfl ob_0 rfl rfl miX7_takenOf ⟨(iX7_gainOf _ (List.mem_of_getElem? (i := 13) rfl)), (iX7_gainOf _ (List.mem_of_getElem? (i := 14) rfl)), (iX7_gainOf _ (List.mem_of_getElem? (i := 15) rfl))⟩ (ctX7_takenOf hj ec) ⟨Nat.le_of_ble_eq_true rfl, Nat.le_of_ble_eq_true rfl⟩ rfl rfl (Nat.le_of_ble_eq_true rfl) rfl ?_
  refine z_i2l B 28 rfl ?_
  refine z_aload_n B 29 rfl 0 0 rfl rfl ?_
  refine z_getr 7 9 0 B 30 rfl ob_0 rfl (iX7_gainOf _ (List.mem_of_getElem? (i := 16) rfl)) rfl ?_
  refine z_aload_n B 31 rfl 0 0 rfl rfl ?_
  refine z_iload_n B 32 rfl 1 1 rfl rfl ?_
  refine z_iconst 0 B 33 rfl (by decide) ?_
  obtain ⟨r7, ec, hf⟩ := bd_e hf
  refine z_callV 0 7 [.int a1, .int (0 : Int32)] [.ref 7, .long r6.toInt64] [.int r7, .ref 7, .long r6.toInt64] X B 34 rfl ob_0 rfl rfl miX7_ofResource ⟨(iX7_gainOf _ (List.mem_of_getElem? (i := 4) rfl)), (iX7_gainOf _ (List.mem_of_getElem? (i := 5) rfl)), (iX7_gainOf _ (List.mem_of_getElem? (i := 6) rfl))⟩ (ctX7_ofResource hj ec) ⟨Nat.le_of_ble_eq_true rfl, Nat.le_of_ble_eq_true rfl⟩ rfl rfl (Nat.le_of_ble_eq_true rfl) rfl ?_
  obtain ⟨hx, hf⟩ := rdc_e hf
  refine z_iald B 35 rfl ob_7 hx ?_
  obtain ⟨v8, ex, hf⟩ := nm_x hf
  refine z_top ex ?_
  refine z_iload_n B 36 rfl 3 3 rfl rfl ?_
  refine z_isub B 37 rfl ?_
  refine z_i2l B 38 rfl ?_
  refine z_lmul B 39 rfl ?_
  obtain ⟨v9, ex, hf⟩ := nm_x hf
  refine z_topl ex ?_
  refine z_lstore [(4, .long v9), (0, .ref 0), (1, .int a1), (2, .int a2), (3, .int a3)] B 40 rfl (by decide) rfl ?_
  refine z_aload_n B 41 rfl 0 1 rfl rfl ?_
  refine z_iload_n B 42 rfl 1 2 rfl rfl ?_
  refine z_iconst 0 B 43 rfl (by decide) ?_
  obtain ⟨r10, ec, hf⟩ := bd_e hf
  refine z_callV 0 7 [.int a1, .int (0 : Int32)] [] [] X B 44 rfl ob_0 rfl rfl miX7_offersAll ⟨(iX7_gainOf _ (List.mem_of_getElem? (i := 0) rfl)), (iX7_gainOf _ (List.mem_of_getElem? (i := 1) rfl)), (iX7_gainOf _ (List.mem_of_getElem? (i := 2) rfl))⟩ (ctX7_offersAll hj ec) ⟨Nat.le_of_ble_eq_true rfl, Nat.le_of_ble_eq_true rfl⟩ rfl rfl (Nat.le_of_ble_eq_true rfl) rfl ?_
  refine z_lload B 45 rfl 0 rfl ?_
  cases hf
  exact z_lret B 46 rfl hQ hr
/-! ZoneCapacityModel.gain(III)J -/
def tbX7_gain : Tb := [(0, .aload_n 0, 1, 1), (1, .iconst 0, 1, 2), (2, .putfield 50, 3, 5), (5, .aload_n 0, 1, 6), (6, .iload_n 1, 1, 7), (7, .invokevirtual 135, 3, 10), (10, .ifCond .eq 27, 3, 13), (13, .iload_n 2, 1, 14), (14, .invokestatic 121, 3, 17), (17, .ifCond .eq 20, 3, 20), (20, .iload_n 3, 1, 21), (21, .invokestatic 121, 3, 24), (24, .ifCond .eq 13, 3, 27), (27, .aload_n 0, 1, 28), (28, .iload_n 1, 1, 29), (29, .iload_n 2, 1, 30), (30, .iload_n 3, 1, 31), (31, .invokevirtual 176, 3, 34), (34, .goto 6, 3, 37), (37, .ldc2_w 166, 3, 40), (40, .lreturn, 1, 41)]
theorem dtX7_gain : ∀ q ∈ tbX7_gain, decode cX7_gain q.1 = .ok (q.2.1, q.2.2.1) ∧ q.1 + q.2.2.1 = q.2.2.2 := by decide +kernel
theorem miX7_gain : MI yX7_gain cX7_gain 4 (some .long) 3 := ⟨tw_mem (List.mem_of_getElem? (i := 1256) (by decide +kernel)) rfl, by decide, by decide +kernel, tw_mem (List.mem_of_getElem? (i := 78) (by decide +kernel)) rfl⟩
abbrev rmX7_gain : Room := { frames := 9, cells := 0, slots := 0, locals := 216 }
def wX7_gain : List Cond := [.fieldLink "ZoneCapacityModel" 50 "ZoneCapacityModel" "raised" "I", .methodLink "ZoneCapacityModel" 135 yX7_isResource, .instanceMethod yX7_isResource, .selects "ZoneCapacityModel" yX7_isResource yX7_isResource, .constantLong "ZoneCapacityModel" 166 (-1000000000000000), .methodLink "ZoneCapacityModel" 121 yX7_isPrice, .static yX7_isPrice, .methodLink "ZoneCapacityModel" 176 yX7_gainOf, .instanceMethod yX7_gainOf, .selects "ZoneCapacityModel" yX7_gainOf yX7_gainOf]
theorem iX7_gain : ∀ w ∈ wX7_gain, w ∈ TW := tw_of (ids := [938, 1063, 1065, 32, 1220, 1024, 1025, 1257, 1259, 54]) (by decide +kernel)
def f7_gain (mm : Mem) (a1 : Int32) (a2 : Int32) (a3 : Int32) : Option (Int64 × Mem) := nm (up2 mm 0 0 (0 : Int32)) (fun m1 => bd (f7_isResource m1 a1) (fun r2 => if r2 = 0 then some ((-1000000000000000 : Int64), m1) else bd (f7_isPrice m1 a2) (fun r3 => if r3 = 0 then some ((-1000000000000000 : Int64), m1) else bd (f7_isPrice m1 a3) (fun r4 => if r4 = 0 then some ((-1000000000000000 : Int64), m1) else bd (f7_gainOf m1 a1 a2 a3) (fun r5 => some (r5.1, r5.2))))))
theorem ctX7_gain {l : Launch} {C : Cfg} (hj : Dj C) {mm : Mem} {a1 : Int32} {a2 : Int32} {a3 : Int32} {x : (Int64 × Mem)} (hf : f7_gain mm a1 a2 a3 = some x) : Ct l C yX7_gain cX7_gain 4 (some .long) 9 216 [.ref 0, .int a1, .int a2, .int a3] mm (some (.long x.1)) x.2 := by
  refine Ct.of (tb := tbX7_gain) hj miX7_gain.2.1 miX7_gain.1 dtX7_gain (Nat.le_of_ble_eq_true rfl) ?_
  intro E B hQ hr X
  unfold f7_gain at hf
  show G E 4 0 [(0, .ref 0), (1, .int a1), (2, .int a2), (3, .int a3)] [] mm
  refine z_aload_n B 0 rfl 0 0 rfl rfl ?_
  refine z_iconst 0 B 1 rfl (by decide) ?_
  refine z_puti 7 0 0 B 2 rfl ob_0 rfl (iX7_gain _ (List.mem_of_getElem? (i := 0) rfl)) rfl (ty := .int) (by decide) rfl rfl rfl ?_
  obtain ⟨m1, ex, hf⟩ := nm_x hf
  refine z_mem ex ?_
  refine z_aload_n B 3 rfl 0 0 rfl rfl ?_
  refine z_iload_n B 4 rfl 1 1 rfl rfl ?_
  obtain ⟨r2, ec, hf⟩ := bd_e hf
  refine z_callV 0 7 [.int a1] [] [.int r2] X B 5 rfl ob_0 rfl rfl miX7_isResource ⟨(iX7_gain _ (List.mem_of_getElem? (i := 1) rfl)), (iX7_gain _ (List.mem_of_getElem? (i := 2) rfl)), (iX7_gain _ (List.mem_of_getElem? (i := 3) rfl))⟩ (ctX7_isResource hj ec) ⟨Nat.le_of_ble_eq_true rfl, Nat.le_of_ble_eq_true rfl⟩ rfl rfl (Nat.le_of_ble_eq_true rfl) rfl ?_
  by_cases hc : r2 = 0
  · replace hf := (if_pos hc).symm.trans hf
    refine z_if_eq_t B 6 rfl 37 (by decide) hc ?_
    refine z_ldc2 (-1000000000000000) B 19 rfl (iX7_gain _ (List.mem_of_getElem? (i := 4) rfl)) ?_
    cases hf
    exact z_lret B 20 rfl hQ hr
  · replace hf := (if_neg hc).symm.trans hf
    refine z_if_eq_f B 6 rfl 37 (by decide) hc ?_
    refine z_iload_n B 7 rfl 2 2 rfl rfl ?_
    obtain ⟨r3, ec, hf⟩ := bd_e hf
    refine z_callS [.int a2] [] [.int r3] X B 8 rfl miX7_isPrice ⟨(iX7_gain _ (List.mem_of_getElem? (i := 5) rfl)), (iX7_gain _ (List.mem_of_getElem? (i := 6) rfl))⟩ (ctX7_isPrice hj ec) ⟨Nat.le_of_ble_eq_true rfl, Nat.le_of_ble_eq_true rfl⟩ rfl rfl (Nat.le_of_ble_eq_true rfl) rfl ?_
    by_cases hc : r3 = 0
    · replace hf := (if_pos hc).symm.trans hf
      refine z_if_eq_t B 9 rfl 37 (by decide) hc ?_
      refine z_ldc2 (-1000000000000000) B 19 rfl (iX7_gain _ (List.mem_of_getElem? (i := 4) rfl)) ?_
      cases hf
      exact z_lret B 20 rfl hQ hr
    · replace hf := (if_neg hc).symm.trans hf
      refine z_if_eq_f B 9 rfl 37 (by decide) hc ?_
      refine z_iload_n B 10 rfl 3 3 rfl rfl ?_
      obtain ⟨r4, ec, hf⟩ := bd_e hf
      refine z_callS [.int a3] [] [.int r4] X B 11 rfl miX7_isPrice ⟨(iX7_gain _ (List.mem_of_getElem? (i := 5) rfl)), (iX7_gain _ (List.mem_of_getElem? (i := 6) rfl))⟩ (ctX7_isPrice hj ec) ⟨Nat.le_of_ble_eq_true rfl, Nat.le_of_ble_eq_true rfl⟩ rfl rfl (Nat.le_of_ble_eq_true rfl) rfl ?_
      by_cases hc : r4 = 0
      · replace hf := (if_pos hc).symm.trans hf
        refine z_if_eq_t B 12 rfl 37 (by decide) hc ?_
        refine z_ldc2 (-1000000000000000) B 19 rfl (iX7_gain _ (List.mem_of_getElem? (i := 4) rfl)) ?_
        cases hf
        exact z_lret B 20 rfl hQ hr
      · replace hf := (if_neg hc).symm.trans hf
        refine z_if_eq_f B 12 rfl 37 (by decide) hc ?_
        refine z_aload_n B 13 rfl 0 0 rfl rfl ?_
        refine z_iload_n B 14 rfl 1 1 rfl rfl ?_
        refine z_iload_n B 15 rfl 2 2 rfl rfl ?_
        refine z_iload_n B 16 rfl 3 3 rfl rfl ?_
        obtain ⟨r5, ec, hf⟩ := bd_e hf
        refine z_callV 0 7 [.int a1, .int a2, .int a3] [] [.long r5.1] X B 17 rfl ob_0 rfl rfl miX7_gainOf ⟨(iX7_gain _ (List.mem_of_getElem? (i := 7) rfl)), (iX7_gain _ (List.mem_of_getElem? (i := 8) rfl)), (iX7_gain _ (List.mem_of_getElem? (i := 9) rfl))⟩ (ctX7_gainOf hj ec) ⟨Nat.le_of_ble_eq_true rfl, Nat.le_of_ble_eq_true rfl⟩ rfl rfl (Nat.le_of_ble_eq_true rfl) rfl ?_
        refine z_goto B 18 rfl 40 (by decide) ?_
        cases hf
        exact z_lret B 20 rfl hQ hr
/-! ZoneCapacityModel.best(II)I -/
def tbX7_best : Tb := [(0, .aload_n 0, 1, 1), (1, .iconst 0, 1, 2), (2, .putfield 50, 3, 5), (5, .aload_n 0, 1, 6), (6, .iload_n 1, 1, 7), (7, .invokevirtual 135, 3, 10), (10, .ifCond .eq 10, 3, 13), (13, .iload_n 2, 1, 14), (14, .invokestatic 121, 3, 17), (17, .ifCond .ne 5, 3, 20), (20, .iconst (-1), 1, 21), (21, .ireturn, 1, 22), (22, .iconst (-1), 1, 23), (23, .istore_n 3, 1, 24), (24, .lconst 0, 1, 25), (25, .lstore 4, 2, 27), (27, .iconst 0, 1, 28), (28, .istore 6, 2, 30), (30, .iload 6, 2, 32), (32, .sipush 2500, 3, 35), (35, .if_icmp .gt 39, 3, 38), (38, .aload_n 0, 1, 39), (39, .iload_n 1, 1, 40), (40, .iload 6, 2, 42), (42, .iload_n 2, 1, 43), (43, .invokevirtual 176, 3, 46), (46, .lstore 7, 2, 48), (48, .iload_n 3, 1, 49), (49, .iconst (-1), 1, 50), (50, .if_icmp .eq 11, 3, 53), (53, .lload 7, 2, 55), (55, .lload 4, 2, 57), (57, .lcmp, 1, 58), (58, .ifCond .le 10, 3, 61), (61, .iload 6, 2, 63), (63, .istore_n 3, 1, 64), (64, .lload 7, 2, 66), (66, .lstore 4, 2, 68), (68, .iinc 6 25, 3, 71), (71, .goto (-41), 3, 74), (74, .iload_n 3, 1, 75), (75, .ireturn, 1, 76)]
theorem dtX7_best : ∀ q ∈ tbX7_best, decode cX7_best q.1 = .ok (q.2.1, q.2.2.1) ∧ q.1 + q.2.2.1 = q.2.2.2 := by decide +kernel
theorem miX7_best : MI yX7_best cX7_best 9 (some .int) 2 := ⟨tw_mem (List.mem_of_getElem? (i := 1268) (by decide +kernel)) rfl, by decide, by decide +kernel, tw_mem (List.mem_of_getElem? (i := 78) (by decide +kernel)) rfl⟩
abbrev rmX7_best : Room := { frames := 9, cells := 0, slots := 0, locals := 216 }
def wX7_best : List Cond := [.fieldLink "ZoneCapacityModel" 50 "ZoneCapacityModel" "raised" "I", .methodLink "ZoneCapacityModel" 135 yX7_isResource, .instanceMethod yX7_isResource, .selects "ZoneCapacityModel" yX7_isResource yX7_isResource, .methodLink "ZoneCapacityModel" 121 yX7_isPrice, .static yX7_isPrice, .methodLink "ZoneCapacityModel" 176 yX7_gainOf, .instanceMethod yX7_gainOf, .selects "ZoneCapacityModel" yX7_gainOf yX7_gainOf]
theorem iX7_best : ∀ w ∈ wX7_best, w ∈ TW := tw_of (ids := [938, 1063, 1065, 32, 1024, 1025, 1257, 1259, 54]) (by decide +kernel)
def f7_best_j68 (k30 : Int32 → Int32 → Int32 → Int64 → Int32 → Mem → Option (Int32 × Mem)) (x1 : Int32) (x2 : Int32) (x3 : Int32) (x4 : Int64) (x6 : Int32) (mm : Mem) : Option (Int32 × Mem) := nm (x6 + 25) (fun v5 => k30 x1 x2 x3 x4 v5 mm)
theorem f7_best_j68_ok {E : Ev} {l : Launch} {C : Cfg} {x : (Int32 × Mem)} {k30 : Int32 → Int32 → Int32 → Int64 → Int32 → Mem → Option (Int32 × Mem)} (hj : Dj C) (X : Ec E l C rmX7_best) (B : Bx E RX7 tbX7_best 9 (some .int)) (hQ : Rt E) (hr : Rs E (some (.int x.1)) x.2) (hk30 : ∀ (x1 : Int32) (x2 : Int32) (x3 : Int32) (x4 : Int64) (x6 : Int32) (mm : Mem), k30 x1 x2 x3 x4 x6 mm = some x → G E 9 30 [(0, .ref 0), (1, .int x1), (2, .int x2), (3, .int x3), (4, .long x4), (6, .int x6)] [] mm) (x1 : Int32) (x2 : Int32) (x3 : Int32) (x4 : Int64) (x6 : Int32) (mm : Mem) (hf : f7_best_j68 k30 x1 x2 x3 x4 x6 mm = some x) : G E 9 68 [(0, .ref 0), (1, .int x1), (2, .int x2), (3, .int x3), (4, .long x4), (6, .int x6)] [] mm := by
  unfold f7_best_j68 at hf
  obtain ⟨v5, ex, hf⟩ := nm_x hf
  refine z_iinc v5 [(6, .int v5), (0, .ref 0), (1, .int x1), (2, .int x2), (3, .int x3), (4, .long x4)] B 38 rfl 5 rfl (ex.symm) (by decide) rfl ?_
  refine z_goto B 39 rfl 30 (by decide) ?_
  refine z_sub [(0, .ref 0), (1, .int x1), (2, .int x2), (3, .int x3), (4, .long x4), (6, .int v5)] [1, 2, 3, 4, 5, 0] rfl ?_
  exact hk30 _ _ _ _ _ _ hf
def f7_best_j61 (k30 : Int32 → Int32 → Int32 → Int64 → Int32 → Mem → Option (Int32 × Mem)) (x1 : Int32) (x2 : Int32) (x6 : Int32) (x7 : Int64) (mm : Mem) : Option (Int32 × Mem) := f7_best_j68 k30 x1 x2 x6 x7 x6 mm
theorem f7_best_j61_ok {E : Ev} {l : Launch} {C : Cfg} {x : (Int32 × Mem)} {k30 : Int32 → Int32 → Int32 → Int64 → Int32 → Mem → Option (Int32 × Mem)} (hj : Dj C) (X : Ec E l C rmX7_best) (B : Bx E RX7 tbX7_best 9 (some .int)) (hQ : Rt E) (hr : Rs E (some (.int x.1)) x.2) (hk30 : ∀ (x1 : Int32) (x2 : Int32) (x3 : Int32) (x4 : Int64) (x6 : Int32) (mm : Mem), k30 x1 x2 x3 x4 x6 mm = some x → G E 9 30 [(0, .ref 0), (1, .int x1), (2, .int x2), (3, .int x3), (4, .long x4), (6, .int x6)] [] mm) (x1 : Int32) (x2 : Int32) (x6 : Int32) (x7 : Int64) (mm : Mem) (hf : f7_best_j61 k30 x1 x2 x6 x7 mm = some x) : G E 9 61 [(0, .ref 0), (1, .int x1), (2, .int x2), (6, .int x6), (7, .long x7)] [] mm := by
  unfold f7_best_j61 at hf
  refine z_iload B 34 rfl 3 rfl ?_
  refine z_istore_n [(3, .int x6), (0, .ref 0), (1, .int x1), (2, .int x2), (6, .int x6), (7, .long x7)] B 35 rfl 3 rfl (by decide) rfl ?_
  refine z_lload B 36 rfl 5 rfl ?_
  refine z_lstore [(4, .long x7), (3, .int x6), (0, .ref 0), (1, .int x1), (2, .int x2), (6, .int x6), (7, .long x7)] B 37 rfl (by decide) rfl ?_
  refine z_sub [(0, .ref 0), (1, .int x1), (2, .int x2), (3, .int x6), (4, .long x7), (6, .int x6)] [2, 3, 4, 1, 0, 5] rfl ?_
  exact f7_best_j68_ok hj X B hQ hr hk30 _ _ _ _ _ _ hf
def f7_best_l30 : Nat → Int32 → Int32 → Int32 → Int64 → Int32 → Mem → Option (Int32 × Mem)
  | 0, _, _, _, _, _, _ => none
  | n + 1, x1, x2, x3, x4, x6, mm => if (2500 : Int32) < x6 then some (x3, mm) else bd (f7_gainOf mm x1 x6 x2) (fun r4 => if x3 = (-1 : Int32) then f7_best_j61 (fun x1 x2 x3 x4 x6 mm => f7_best_l30 n x1 x2 x3 x4 x6 mm) x1 x2 x6 r4.1 r4.2 else if 0 < (lg_cmp r4.1 x4) then f7_best_j61 (fun x1 x2 x3 x4 x6 mm => f7_best_l30 n x1 x2 x3 x4 x6 mm) x1 x2 x6 r4.1 r4.2 else f7_best_j68 (fun x1 x2 x3 x4 x6 mm => f7_best_l30 n x1 x2 x3 x4 x6 mm) x1 x2 x3 x4 x6 r4.2)
theorem f7_best_l30_ok {E : Ev} {l : Launch} {C : Cfg} {x : (Int32 × Mem)} (hj : Dj C) (X : Ec E l C rmX7_best) (B : Bx E RX7 tbX7_best 9 (some .int)) (hQ : Rt E) (hr : Rs E (some (.int x.1)) x.2) (n : Nat) : ∀ (x1 : Int32) (x2 : Int32) (x3 : Int32) (x4 : Int64) (x6 : Int32) (mm : Mem), f7_best_l30 n x1 x2 x3 x4 x6 mm = some x → G E 9 30 [(0, .ref 0), (1, .int x1), (2, .int x2), (3, .int x3), (4, .long x4), (6, .int x6)] [] mm := by
  induction n with
  | zero =>
    intro x1 x2 x3 x4 x6 mm hf
    rw [f7_best_l30] at hf
    cases hf
  | succ n ih =>
    intro x1 x2 x3 x4 x6 mm hf
    rw [f7_best_l30] at hf
    refine z_iload B 18 rfl 5 rfl ?_
    refine z_sipush 2500 B 19 rfl (by decide) ?_
    by_cases hc : (2500 : Int32) < x6
    · replace hf := (if_pos hc).symm.trans hf
      refine z_icmp_gt_t B 20 rfl 74 (by decide) hc ?_
      refine z_iload_n B 40 rfl 3 3 rfl rfl ?_
      cases hf
      exact z_iret B 41 rfl rfl hQ hr
    · replace hf := (if_neg hc).symm.trans hf
      refine z_icmp_gt_f B 20 rfl 74 (by decide) hc ?_
      refine z_aload_n B 21 rfl 0 0 rfl rfl ?_
      refine z_iload_n B 22 rfl 1 1 rfl rfl ?_
      refine z_iload B 23 rfl 5 rfl ?_
      refine z_iload_n B 24 rfl 2 2 rfl rfl ?_
      obtain ⟨r4, ec, hf⟩ := bd_e hf
      refine z_callV 0 7 [.int x1, .int x6, .int x2] [] [.long r4.1] X B 25 rfl ob_0 rfl rfl miX7_gainOf ⟨(iX7_best _ (List.mem_of_getElem? (i := 6) rfl)), (iX7_best _ (List.mem_of_getElem? (i := 7) rfl)), (iX7_best _ (List.mem_of_getElem? (i := 8) rfl))⟩ (ctX7_gainOf hj ec) ⟨Nat.le_of_ble_eq_true rfl, Nat.le_of_ble_eq_true rfl⟩ rfl rfl (Nat.le_of_ble_eq_true rfl) rfl ?_
      refine z_lstore [(7, .long r4.1), (0, .ref 0), (1, .int x1), (2, .int x2), (3, .int x3), (4, .long x4), (6, .int x6)] B 26 rfl (by decide) rfl ?_
      refine z_iload_n B 27 rfl 3 4 rfl rfl ?_
      refine z_iconst (-1) B 28 rfl (by decide) ?_
      by_cases hc : x3 = (-1 : Int32)
      · replace hf := (if_pos hc).symm.trans hf
        refine z_icmp_eq_t B 29 rfl 61 (by decide) hc ?_
        refine z_sub [(0, .ref 0), (1, .int x1), (2, .int x2), (6, .int x6), (7, .long r4.1)] [1, 2, 3, 6, 0] rfl ?_
        exact f7_best_j61_ok hj X B hQ hr ih _ _ _ _ _ hf
      · replace hf := (if_neg hc).symm.trans hf
        refine z_icmp_eq_f B 29 rfl 61 (by decide) hc ?_
        refine z_lload B 30 rfl 0 rfl ?_
        refine z_lload B 31 rfl 5 rfl ?_
        refine z_lcmp B 32 rfl ?_
        by_cases hc : 0 < (lg_cmp r4.1 x4)
        · replace hf := (if_pos hc).symm.trans hf
          refine z_if_le_f B 33 rfl 68 (by decide) hc ?_
          refine z_sub [(0, .ref 0), (1, .int x1), (2, .int x2), (6, .int x6), (7, .long r4.1)] [1, 2, 3, 6, 0] rfl ?_
          exact f7_best_j61_ok hj X B hQ hr ih _ _ _ _ _ hf
        · replace hf := (if_neg hc).symm.trans hf
          refine z_if_le_t B 33 rfl 68 (by decide) hc ?_
          refine z_sub [(0, .ref 0), (1, .int x1), (2, .int x2), (3, .int x3), (4, .long x4), (6, .int x6)] [1, 2, 3, 4, 5, 6] rfl ?_
          exact f7_best_j68_ok hj X B hQ hr ih _ _ _ _ _ _ hf
def f7_best (mm : Mem) (a1 : Int32) (a2 : Int32) : Option (Int32 × Mem) := nm (up2 mm 0 0 (0 : Int32)) (fun m1 => bd (f7_isResource m1 a1) (fun r2 => if r2 = 0 then some ((-1 : Int32), m1) else bd (f7_isPrice m1 a2) (fun r3 => if r3 = 0 then some ((-1 : Int32), m1) else f7_best_l30 FU a1 a2 (-1 : Int32) (0 : Int64) (0 : Int32) m1)))
theorem ctX7_best {l : Launch} {C : Cfg} (hj : Dj C) {mm : Mem} {a1 : Int32} {a2 : Int32} {x : (Int32 × Mem)} (hf : f7_best mm a1 a2 = some x) : Ct l C yX7_best cX7_best 9 (some .int) 9 216 [.ref 0, .int a1, .int a2] mm (some (.int x.1)) x.2 := by
  refine Ct.of (tb := tbX7_best) hj miX7_best.2.1 miX7_best.1 dtX7_best (Nat.le_of_ble_eq_true rfl) ?_
  intro E B hQ hr X
  unfold f7_best at hf
  show G E 9 0 [(0, .ref 0), (1, .int a1), (2, .int a2)] [] mm
  refine z_aload_n B 0 rfl 0 0 rfl rfl ?_
  refine z_iconst 0 B 1 rfl (by decide) ?_
  refine z_puti 7 0 0 B 2 rfl ob_0 rfl (iX7_best _ (List.mem_of_getElem? (i := 0) rfl)) rfl (ty := .int) (by decide) rfl rfl rfl ?_
  obtain ⟨m1, ex, hf⟩ := nm_x hf
  refine z_mem ex ?_
  refine z_aload_n B 3 rfl 0 0 rfl rfl ?_
  refine z_iload_n B 4 rfl 1 1 rfl rfl ?_
  obtain ⟨r2, ec, hf⟩ := bd_e hf
  refine z_callV 0 7 [.int a1] [] [.int r2] X B 5 rfl ob_0 rfl rfl miX7_isResource ⟨(iX7_best _ (List.mem_of_getElem? (i := 1) rfl)), (iX7_best _ (List.mem_of_getElem? (i := 2) rfl)), (iX7_best _ (List.mem_of_getElem? (i := 3) rfl))⟩ (ctX7_isResource hj ec) ⟨Nat.le_of_ble_eq_true rfl, Nat.le_of_ble_eq_true rfl⟩ rfl rfl (Nat.le_of_ble_eq_true rfl) rfl ?_
  by_cases hc : r2 = 0
  · replace hf := (if_pos hc).symm.trans hf
    refine z_if_eq_t B 6 rfl 20 (by decide) hc ?_
    refine z_iconst (-1) B 10 rfl (by decide) ?_
    cases hf
    exact z_iret B 11 rfl rfl hQ hr
  · replace hf := (if_neg hc).symm.trans hf
    refine z_if_eq_f B 6 rfl 20 (by decide) hc ?_
    refine z_iload_n B 7 rfl 2 2 rfl rfl ?_
    obtain ⟨r3, ec, hf⟩ := bd_e hf
    refine z_callS [.int a2] [] [.int r3] X B 8 rfl miX7_isPrice ⟨(iX7_best _ (List.mem_of_getElem? (i := 4) rfl)), (iX7_best _ (List.mem_of_getElem? (i := 5) rfl))⟩ (ctX7_isPrice hj ec) ⟨Nat.le_of_ble_eq_true rfl, Nat.le_of_ble_eq_true rfl⟩ rfl rfl (Nat.le_of_ble_eq_true rfl) rfl ?_
    by_cases hc : r3 = 0
    · replace hf := (if_pos hc).symm.trans hf
      refine z_if_ne_f B 9 rfl 22 (by decide) hc ?_
      refine z_iconst (-1) B 10 rfl (by decide) ?_
      cases hf
      exact z_iret B 11 rfl rfl hQ hr
    · replace hf := (if_neg hc).symm.trans hf
      refine z_if_ne_t B 9 rfl 22 (by decide) hc ?_
      refine z_iconst (-1) B 12 rfl (by decide) ?_
      refine z_istore_n [(3, .int (-1 : Int32)), (0, .ref 0), (1, .int a1), (2, .int a2)] B 13 rfl 3 rfl (by decide) rfl ?_
      refine z_lconst 0 B 14 rfl (by decide) ?_
      refine z_lstore [(4, .long (0 : Int64)), (3, .int (-1 : Int32)), (0, .ref 0), (1, .int a1), (2, .int a2)] B 15 rfl (by decide) rfl ?_
      refine z_iconst 0 B 16 rfl (by decide) ?_
      refine z_istore [(6, .int (0 : Int32)), (4, .long (0 : Int64)), (3, .int (-1 : Int32)), (0, .ref 0), (1, .int a1), (2, .int a2)] B 17 rfl (by decide) rfl ?_
      refine z_sub [(0, .ref 0), (1, .int a1), (2, .int a2), (3, .int (-1 : Int32)), (4, .long (0 : Int64)), (6, .int (0 : Int32))] [3, 4, 5, 2, 1, 0] rfl ?_
      exact f7_best_l30_ok hj X B hQ hr FU _ _ _ _ _ _ hf
/-! ZoneCapacityModel.four(I)V -/
def tbX7_four : Tb := [(0, .bipush 24, 2, 2), (2, .istore_n 2, 1, 3), (3, .iload_n 2, 1, 4), (4, .ifCond .lt 35, 3, 7), (7, .aload_n 0, 1, 8), (8, .getfield 44, 3, 11), (11, .aload_n 0, 1, 12), (12, .getfield 148, 3, 15), (15, .iload_n 1, 1, 16), (16, .iload_n 2, 1, 17), (17, .ishr, 1, 18), (18, .sipush 255, 3, 21), (21, .iand, 1, 22), (22, .iastore, 1, 23), (23, .aload_n 0, 1, 24), (24, .dup, 1, 25), (25, .getfield 148, 3, 28), (28, .iconst 1, 1, 29), (29, .iadd, 1, 30), (30, .putfield 148, 3, 33), (33, .iinc 2 (-8), 3, 36), (36, .goto (-33), 3, 39), (39, .return_, 1, 40)]
theorem dtX7_four : ∀ q ∈ tbX7_four, decode cX7_four q.1 = .ok (q.2.1, q.2.2.1) ∧ q.1 + q.2.2.1 = q.2.2.2 := by decide +kernel
theorem miX7_four : MI yX7_four cX7_four 3 none 1 := ⟨tw_mem (List.mem_of_getElem? (i := 1276) (by decide +kernel)) rfl, by decide, by decide +kernel, tw_mem (List.mem_of_getElem? (i := 78) (by decide +kernel)) rfl⟩
abbrev rmX7_four : Room := { frames := 0, cells := 0, slots := 0, locals := 0 }
def wX7_four : List Cond := [.fieldLink "ZoneCapacityModel" 44 "ZoneCapacityModel" "tape" "[I", .fieldLink "ZoneCapacityModel" 148 "ZoneCapacityModel" "taped" "I"]
theorem iX7_four : ∀ w ∈ wX7_four, w ∈ TW := tw_of (ids := [952, 953]) (by decide +kernel)
def f7_four_l3 : Nat → Int32 → Int32 → Mem → Option Mem
  | 0, _, _, _ => none
  | n + 1, x1, x2, mm => if x2 < 0 then some mm else rdc 12 (mm 0 15) (nm (up2 mm 12 (mm 0 15).toNatClampNeg ((x1 >>> (x2 &&& 31)) &&& (255 : Int32))) (fun m1 => nm (up2 m1 0 15 ((m1 0 15) + (1 : Int32))) (fun m2 => nm (x2 + (-8)) (fun v3 => f7_four_l3 n x1 v3 m2))))
theorem f7_four_l3_ok {E : Ev} {l : Launch} {C : Cfg} {x : Mem} (hj : Dj C) (X : Ec E l C rmX7_four) (B : Bx E RX7 tbX7_four 3 none) (hQ : Rt E) (hr : Rs E none x) (n : Nat) : ∀ (x1 : Int32) (x2 : Int32) (mm : Mem), f7_four_l3 n x1 x2 mm = some x → G E 3 3 [(0, .ref 0), (1, .int x1), (2, .int x2)] [] mm := by
  induction n with
  | zero =>
    intro x1 x2 mm hf
    rw [f7_four_l3] at hf
    cases hf
  | succ n ih =>
    intro x1 x2 mm hf
    rw [f7_four_l3] at hf
    refine z_iload_n B 2 rfl 2 2 rfl rfl ?_
    by_cases hc : x2 < 0
    · replace hf := (if_pos hc).symm.trans hf
      refine z_if_lt_t B 3 rfl 39 (by decide) hc ?_
      cases hf
      exact z_vret B 22 rfl hQ hr
    · replace hf := (if_neg hc).symm.trans hf
      refine z_if_lt_f B 3 rfl 39 (by decide) hc ?_
      refine z_aload_n B 4 rfl 0 0 rfl rfl ?_
      refine z_getr 7 14 0 B 5 rfl ob_0 rfl (iX7_four _ (List.mem_of_getElem? (i := 0) rfl)) rfl ?_
      refine z_aload_n B 6 rfl 0 0 rfl rfl ?_
      refine z_geti 7 15 0 B 7 rfl ob_0 rfl (iX7_four _ (List.mem_of_getElem? (i := 1) rfl)) rfl ?_
      refine z_iload_n B 8 rfl 1 1 rfl rfl ?_
      refine z_iload_n B 9 rfl 2 2 rfl rfl ?_
      refine z_ishr B 10 rfl ?_
      refine z_sipush 255 B 11 rfl (by decide) ?_
      refine z_iand B 12 rfl ?_
      obtain ⟨hx, hf⟩ := rdc_e hf
      refine z_iast B 13 rfl ob_12 hx ?_
      obtain ⟨m1, ex, hf⟩ := nm_x hf
      refine z_mem ex ?_
      refine z_aload_n B 14 rfl 0 0 rfl rfl ?_
      refine z_dup B 15 rfl rfl ?_
      refine z_geti 7 15 0 B 16 rfl ob_0 rfl (iX7_four _ (List.mem_of_getElem? (i := 1) rfl)) rfl ?_
      refine z_iconst 1 B 17 rfl (by decide) ?_
      refine z_iadd B 18 rfl ?_
      refine z_puti 7 15 0 B 19 rfl ob_0 rfl (iX7_four _ (List.mem_of_getElem? (i := 1) rfl)) rfl (ty := .int) (by decide) rfl rfl rfl ?_
      obtain ⟨m2, ex, hf⟩ := nm_x hf
      refine z_mem ex ?_
      obtain ⟨v3, ex, hf⟩ := nm_x hf
      refine z_iinc v3 [(2, .int v3), (0, .ref 0), (1, .int x1)] B 20 rfl 2 rfl (ex.symm) (by decide) rfl ?_
      refine z_goto B 21 rfl 3 (by decide) ?_
      refine z_sub [(0, .ref 0), (1, .int x1), (2, .int v3)] [1, 2, 0] rfl ?_
      exact ih _ _ _ hf
def f7_four (mm : Mem) (a1 : Int32) : Option Mem := f7_four_l3 FU a1 (24 : Int32) mm
theorem ctX7_four {l : Launch} {C : Cfg} (hj : Dj C) {mm : Mem} {a1 : Int32} {x : Mem} (hf : f7_four mm a1 = some x) : Ct l C yX7_four cX7_four 3 none 0 0 [.ref 0, .int a1] mm none x := by
  refine Ct.of (tb := tbX7_four) hj miX7_four.2.1 miX7_four.1 dtX7_four (Nat.le_of_ble_eq_true rfl) ?_
  intro E B hQ hr X
  unfold f7_four at hf
  show G E 3 0 [(0, .ref 0), (1, .int a1)] [] mm
  refine z_bipush 24 B 0 rfl (by decide) ?_
  refine z_istore_n [(2, .int (24 : Int32)), (0, .ref 0), (1, .int a1)] B 1 rfl 2 rfl (by decide) rfl ?_
  refine z_sub [(0, .ref 0), (1, .int a1), (2, .int (24 : Int32))] [1, 2, 0] rfl ?_
  exact f7_four_l3_ok hj X B hQ hr FU _ _ _ hf
/-! ZoneCapacityModel.feed(IIIII)I -/
def tbX7_feed : Tb := [(0, .aload_n 0, 1, 1), (1, .iconst 0, 1, 2), (2, .putfield 50, 3, 5), (5, .aload_n 0, 1, 6), (6, .getfield 148, 3, 9), (9, .bipush 20, 2, 11), (11, .iadd, 1, 12), (12, .sipush 500, 3, 15), (15, .if_icmp .le 5, 3, 18), (18, .iconst (-1), 1, 19), (19, .ireturn, 1, 20), (20, .aload_n 0, 1, 21), (21, .iload_n 1, 1, 22), (22, .invokevirtual 180, 3, 25), (25, .aload_n 0, 1, 26), (26, .iload_n 2, 1, 27), (27, .invokevirtual 180, 3, 30), (30, .aload_n 0, 1, 31), (31, .iload_n 3, 1, 32), (32, .invokevirtual 180, 3, 35), (35, .aload_n 0, 1, 36), (36, .iload 4, 2, 38), (38, .invokevirtual 180, 3, 41), (41, .aload_n 0, 1, 42), (42, .iload 5, 2, 44), (44, .invokevirtual 180, 3, 47), (47, .aload_n 0, 1, 48), (48, .getfield 148, 3, 51), (51, .ireturn, 1, 52)]
theorem dtX7_feed : ∀ q ∈ tbX7_feed, decode cX7_feed q.1 = .ok (q.2.1, q.2.2.1) ∧ q.1 + q.2.2.1 = q.2.2.2 := by decide +kernel
theorem miX7_feed : MI yX7_feed cX7_feed 6 (some .int) 5 := ⟨tw_mem (List.mem_of_getElem? (i := 1272) (by decide +kernel)) rfl, by decide, by decide +kernel, tw_mem (List.mem_of_getElem? (i := 78) (by decide +kernel)) rfl⟩
abbrev rmX7_feed : Room := { frames := 1, cells := 0, slots := 0, locals := 22 }
def wX7_feed : List Cond := [.fieldLink "ZoneCapacityModel" 50 "ZoneCapacityModel" "raised" "I", .fieldLink "ZoneCapacityModel" 148 "ZoneCapacityModel" "taped" "I", .methodLink "ZoneCapacityModel" 180 yX7_four, .instanceMethod yX7_four, .selects "ZoneCapacityModel" yX7_four yX7_four]
theorem iX7_feed : ∀ w ∈ wX7_feed, w ∈ TW := tw_of (ids := [938, 953, 1273, 1275, 56]) (by decide +kernel)
def f7_feed (mm : Mem) (a1 : Int32) (a2 : Int32) (a3 : Int32) (a4 : Int32) (a5 : Int32) : Option (Int32 × Mem) := nm (up2 mm 0 0 (0 : Int32)) (fun m1 => if (500 : Int32) < ((m1 0 15) + (20 : Int32)) then some ((-1 : Int32), m1) else bd (f7_four m1 a1) (fun r2 => bd (f7_four r2 a2) (fun r3 => bd (f7_four r3 a3) (fun r4 => bd (f7_four r4 a4) (fun r5 => bd (f7_four r5 a5) (fun r6 => some (r6 0 15, r6)))))))
theorem ctX7_feed {l : Launch} {C : Cfg} (hj : Dj C) {mm : Mem} {a1 : Int32} {a2 : Int32} {a3 : Int32} {a4 : Int32} {a5 : Int32} {x : (Int32 × Mem)} (hf : f7_feed mm a1 a2 a3 a4 a5 = some x) : Ct l C yX7_feed cX7_feed 6 (some .int) 1 22 [.ref 0, .int a1, .int a2, .int a3, .int a4, .int a5] mm (some (.int x.1)) x.2 := by
  refine Ct.of (tb := tbX7_feed) hj miX7_feed.2.1 miX7_feed.1 dtX7_feed (Nat.le_of_ble_eq_true rfl) ?_
  intro E B hQ hr X
  unfold f7_feed at hf
  show G E 6 0 [(0, .ref 0), (1, .int a1), (2, .int a2), (3, .int a3), (4, .int a4), (5, .int a5)] [] mm
  refine z_aload_n B 0 rfl 0 0 rfl rfl ?_
  refine z_iconst 0 B 1 rfl (by decide) ?_
  refine z_puti 7 0 0 B 2 rfl ob_0 rfl (iX7_feed _ (List.mem_of_getElem? (i := 0) rfl)) rfl (ty := .int) (by decide) rfl rfl rfl ?_
  obtain ⟨m1, ex, hf⟩ := nm_x hf
  refine z_mem ex ?_
  refine z_aload_n B 3 rfl 0 0 rfl rfl ?_
  refine z_geti 7 15 0 B 4 rfl ob_0 rfl (iX7_feed _ (List.mem_of_getElem? (i := 1) rfl)) rfl ?_
  refine z_bipush 20 B 5 rfl (by decide) ?_
  refine z_iadd B 6 rfl ?_
  refine z_sipush 500 B 7 rfl (by decide) ?_
  by_cases hc : (500 : Int32) < ((m1 0 15) + (20 : Int32))
  · replace hf := (if_pos hc).symm.trans hf
    refine z_icmp_le_f B 8 rfl 20 (by decide) hc ?_
    refine z_iconst (-1) B 9 rfl (by decide) ?_
    cases hf
    exact z_iret B 10 rfl rfl hQ hr
  · replace hf := (if_neg hc).symm.trans hf
    refine z_icmp_le_t B 8 rfl 20 (by decide) hc ?_
    refine z_aload_n B 11 rfl 0 0 rfl rfl ?_
    refine z_iload_n B 12 rfl 1 1 rfl rfl ?_
    obtain ⟨r2, ec, hf⟩ := bd_e hf
    refine z_callV 0 7 [.int a1] [] [] X B 13 rfl ob_0 rfl rfl miX7_four ⟨(iX7_feed _ (List.mem_of_getElem? (i := 2) rfl)), (iX7_feed _ (List.mem_of_getElem? (i := 3) rfl)), (iX7_feed _ (List.mem_of_getElem? (i := 4) rfl))⟩ (ctX7_four hj ec) ⟨Nat.le_of_ble_eq_true rfl, Nat.le_of_ble_eq_true rfl⟩ rfl rfl (Nat.le_of_ble_eq_true rfl) rfl ?_
    refine z_aload_n B 14 rfl 0 0 rfl rfl ?_
    refine z_iload_n B 15 rfl 2 2 rfl rfl ?_
    obtain ⟨r3, ec, hf⟩ := bd_e hf
    refine z_callV 0 7 [.int a2] [] [] X B 16 rfl ob_0 rfl rfl miX7_four ⟨(iX7_feed _ (List.mem_of_getElem? (i := 2) rfl)), (iX7_feed _ (List.mem_of_getElem? (i := 3) rfl)), (iX7_feed _ (List.mem_of_getElem? (i := 4) rfl))⟩ (ctX7_four hj ec) ⟨Nat.le_of_ble_eq_true rfl, Nat.le_of_ble_eq_true rfl⟩ rfl rfl (Nat.le_of_ble_eq_true rfl) rfl ?_
    refine z_aload_n B 17 rfl 0 0 rfl rfl ?_
    refine z_iload_n B 18 rfl 3 3 rfl rfl ?_
    obtain ⟨r4, ec, hf⟩ := bd_e hf
    refine z_callV 0 7 [.int a3] [] [] X B 19 rfl ob_0 rfl rfl miX7_four ⟨(iX7_feed _ (List.mem_of_getElem? (i := 2) rfl)), (iX7_feed _ (List.mem_of_getElem? (i := 3) rfl)), (iX7_feed _ (List.mem_of_getElem? (i := 4) rfl))⟩ (ctX7_four hj ec) ⟨Nat.le_of_ble_eq_true rfl, Nat.le_of_ble_eq_true rfl⟩ rfl rfl (Nat.le_of_ble_eq_true rfl) rfl ?_
    refine z_aload_n B 20 rfl 0 0 rfl rfl ?_
    refine z_iload B 21 rfl 4 rfl ?_
    obtain ⟨r5, ec, hf⟩ := bd_e hf
    refine z_callV 0 7 [.int a4] [] [] X B 22 rfl ob_0 rfl rfl miX7_four ⟨(iX7_feed _ (List.mem_of_getElem? (i := 2) rfl)), (iX7_feed _ (List.mem_of_getElem? (i := 3) rfl)), (iX7_feed _ (List.mem_of_getElem? (i := 4) rfl))⟩ (ctX7_four hj ec) ⟨Nat.le_of_ble_eq_true rfl, Nat.le_of_ble_eq_true rfl⟩ rfl rfl (Nat.le_of_ble_eq_true rfl) rfl ?_
    refine z_aload_n B 23 rfl 0 0 rfl rfl ?_
    refine z_iload B 24 rfl 5 rfl ?_
    obtain ⟨r6, ec, hf⟩ := bd_e hf
    refine z_callV 0 7 [.int a5] [] [] X B 25 rfl ob_0 rfl rfl miX7_four ⟨(iX7_feed _ (List.mem_of_getElem? (i := 2) rfl)), (iX7_feed _ (List.mem_of_getElem? (i := 3) rfl)), (iX7_feed _ (List.mem_of_getElem? (i := 4) rfl))⟩ (ctX7_four hj ec) ⟨Nat.le_of_ble_eq_true rfl, Nat.le_of_ble_eq_true rfl⟩ rfl rfl (Nat.le_of_ble_eq_true rfl) rfl ?_
    refine z_aload_n B 26 rfl 0 0 rfl rfl ?_
    refine z_geti 7 15 0 B 27 rfl ob_0 rfl (iX7_feed _ (List.mem_of_getElem? (i := 1) rfl)) rfl ?_
    cases hf
    exact z_iret B 28 rfl rfl hQ hr
/-! ZoneCapacityModel.end(I)Z -/
def tbX7_end : Tb := [(0, .aload_n 0, 1, 1), (1, .iconst 0, 1, 2), (2, .putfield 50, 3, 5), (5, .iload_n 1, 1, 6), (6, .iconst 0, 1, 7), (7, .aload_n 0, 1, 8), (8, .getfield 148, 3, 11), (11, .invokestatic 54, 3, 14), (14, .ifCond .ne 5, 3, 17), (17, .iconst 0, 1, 18), (18, .ireturn, 1, 19), (19, .aload_n 0, 1, 20), (20, .iload_n 1, 1, 21), (21, .putfield 148, 3, 24), (24, .iconst 1, 1, 25), (25, .ireturn, 1, 26)]
theorem dtX7_end : ∀ q ∈ tbX7_end, decode cX7_end q.1 = .ok (q.2.1, q.2.2.1) ∧ q.1 + q.2.2.1 = q.2.2.2 := by decide +kernel
theorem miX7_end : MI yX7_end cX7_end 2 (some .boolean) 1 := ⟨tw_mem (List.mem_of_getElem? (i := 1280) (by decide +kernel)) rfl, by decide, by decide +kernel, tw_mem (List.mem_of_getElem? (i := 78) (by decide +kernel)) rfl⟩
abbrev rmX7_end : Room := { frames := 1, cells := 0, slots := 0, locals := 22 }
def wX7_end : List Cond := [.fieldLink "ZoneCapacityModel" 50 "ZoneCapacityModel" "raised" "I", .fieldLink "ZoneCapacityModel" 148 "ZoneCapacityModel" "taped" "I", .methodLink "ZoneCapacityModel" 54 yX7_in, .static yX7_in]
theorem iX7_end : ∀ w ∈ wX7_end, w ∈ TW := tw_of (ids := [938, 953, 1021, 1022]) (by decide +kernel)
def f7_end (mm : Mem) (a1 : Int32) : Option (Int32 × Mem) := nm (up2 mm 0 0 (0 : Int32)) (fun m1 => bd (f7_in m1 a1 (0 : Int32) (m1 0 15)) (fun r2 => if r2 = 0 then some ((0 : Int32), m1) else nm (up2 m1 0 15 a1) (fun m3 => some ((1 : Int32), m3))))
theorem ctX7_end {l : Launch} {C : Cfg} (hj : Dj C) {mm : Mem} {a1 : Int32} {x : (Int32 × Mem)} (hf : f7_end mm a1 = some x) : Ct l C yX7_end cX7_end 2 (some .boolean) 1 22 [.ref 0, .int a1] mm (some (.int x.1)) x.2 := by
  refine Ct.of (tb := tbX7_end) hj miX7_end.2.1 miX7_end.1 dtX7_end (Nat.le_of_ble_eq_true rfl) ?_
  intro E B hQ hr X
  unfold f7_end at hf
  show G E 2 0 [(0, .ref 0), (1, .int a1)] [] mm
  refine z_aload_n B 0 rfl 0 0 rfl rfl ?_
  refine z_iconst 0 B 1 rfl (by decide) ?_
  refine z_puti 7 0 0 B 2 rfl ob_0 rfl (iX7_end _ (List.mem_of_getElem? (i := 0) rfl)) rfl (ty := .int) (by decide) rfl rfl rfl ?_
  obtain ⟨m1, ex, hf⟩ := nm_x hf
  refine z_mem ex ?_
  refine z_iload_n B 3 rfl 1 1 rfl rfl ?_
  refine z_iconst 0 B 4 rfl (by decide) ?_
  refine z_aload_n B 5 rfl 0 0 rfl rfl ?_
  refine z_geti 7 15 0 B 6 rfl ob_0 rfl (iX7_end _ (List.mem_of_getElem? (i := 1) rfl)) rfl ?_
  obtain ⟨r2, ec, hf⟩ := bd_e hf
  refine z_callS [.int a1, .int (0 : Int32), .int (m1 0 15)] [] [.int r2] X B 7 rfl miX7_in ⟨(iX7_end _ (List.mem_of_getElem? (i := 2) rfl)), (iX7_end _ (List.mem_of_getElem? (i := 3) rfl))⟩ (ctX7_in hj ec) ⟨Nat.le_of_ble_eq_true rfl, Nat.le_of_ble_eq_true rfl⟩ rfl rfl (Nat.le_of_ble_eq_true rfl) rfl ?_
  by_cases hc : r2 = 0
  · replace hf := (if_pos hc).symm.trans hf
    refine z_if_ne_f B 8 rfl 19 (by decide) hc ?_
    refine z_iconst 0 B 9 rfl (by decide) ?_
    cases hf
    exact z_iret B 10 rfl (by decide) hQ hr
  · replace hf := (if_neg hc).symm.trans hf
    refine z_if_ne_t B 8 rfl 19 (by decide) hc ?_
    refine z_aload_n B 11 rfl 0 0 rfl rfl ?_
    refine z_iload_n B 12 rfl 1 1 rfl rfl ?_
    refine z_puti 7 15 0 B 13 rfl ob_0 rfl (iX7_end _ (List.mem_of_getElem? (i := 1) rfl)) rfl (ty := .int) (by decide) rfl rfl rfl ?_
    obtain ⟨m3, ex, hf⟩ := nm_x hf
    refine z_mem ex ?_
    refine z_iconst 1 B 14 rfl (by decide) ?_
    cases hf
    exact z_iret B 15 rfl (by decide) hQ hr
/-! ZoneCapacityModel.here()I -/
def tbX7_here : Tb := [(0, .aload_n 0, 1, 1), (1, .getfield 184, 3, 4), (4, .aload_n 0, 1, 5), (5, .getfield 148, 3, 8), (8, .if_icmp .ge 44, 3, 11), (11, .aload_n 0, 1, 12), (12, .getfield 44, 3, 15), (15, .aload_n 0, 1, 16), (16, .getfield 184, 3, 19), (19, .iaload, 1, 20), (20, .bipush 32, 2, 22), (22, .if_icmp .eq 17, 3, 25), (25, .aload_n 0, 1, 26), (26, .getfield 44, 3, 29), (29, .aload_n 0, 1, 30), (30, .getfield 184, 3, 33), (33, .iaload, 1, 34), (34, .bipush 10, 2, 36), (36, .if_icmp .ne 16, 3, 39), (39, .aload_n 0, 1, 40), (40, .dup, 1, 41), (41, .getfield 184, 3, 44), (44, .iconst 1, 1, 45), (45, .iadd, 1, 46), (46, .putfield 184, 3, 49), (49, .goto (-49), 3, 52), (52, .aload_n 0, 1, 53), (53, .getfield 184, 3, 56), (56, .aload_n 0, 1, 57), (57, .getfield 148, 3, 60), (60, .if_icmp .ge 15, 3, 63), (63, .aload_n 0, 1, 64), (64, .getfield 44, 3, 67), (67, .aload_n 0, 1, 68), (68, .getfield 184, 3, 71), (71, .iaload, 1, 72), (72, .goto 4, 3, 75), (75, .iconst (-1), 1, 76), (76, .ireturn, 1, 77)]
theorem dtX7_here : ∀ q ∈ tbX7_here, decode cX7_here q.1 = .ok (q.2.1, q.2.2.1) ∧ q.1 + q.2.2.1 = q.2.2.2 := by decide +kernel
theorem miX7_here : MI yX7_here cX7_here 1 (some .int) 0 := ⟨tw_mem (List.mem_of_getElem? (i := 1288) (by decide +kernel)) rfl, by decide, by decide +kernel, tw_mem (List.mem_of_getElem? (i := 78) (by decide +kernel)) rfl⟩
abbrev rmX7_here : Room := { frames := 0, cells := 0, slots := 0, locals := 0 }
def wX7_here : List Cond := [.fieldLink "ZoneCapacityModel" 184 "ZoneCapacityModel" "at" "I", .fieldLink "ZoneCapacityModel" 148 "ZoneCapacityModel" "taped" "I", .fieldLink "ZoneCapacityModel" 44 "ZoneCapacityModel" "tape" "[I"]
theorem iX7_here : ∀ w ∈ wX7_here, w ∈ TW := tw_of (ids := [955, 953, 952]) (by decide +kernel)
def f7_here_j52 (mm : Mem) : Option (Int32 × Mem) := if (mm 0 17) < (mm 0 15) then rdc 12 (mm 0 17) (nm (mm 12 (mm 0 17).toNatClampNeg) (fun v1 => some (v1, mm))) else some ((-1 : Int32), mm)
theorem f7_here_j52_ok {E : Ev} {l : Launch} {C : Cfg} {x : (Int32 × Mem)} (hj : Dj C) (X : Ec E l C rmX7_here) (B : Bx E RX7 tbX7_here 1 (some .int)) (hQ : Rt E) (hr : Rs E (some (.int x.1)) x.2) (mm : Mem) (hf : f7_here_j52 mm = some x) : G E 1 52 [(0, .ref 0)] [] mm := by
  unfold f7_here_j52 at hf
  refine z_aload_n B 26 rfl 0 0 rfl rfl ?_
  refine z_geti 7 17 0 B 27 rfl ob_0 rfl (iX7_here _ (List.mem_of_getElem? (i := 0) rfl)) rfl ?_
  refine z_aload_n B 28 rfl 0 0 rfl rfl ?_
  refine z_geti 7 15 0 B 29 rfl ob_0 rfl (iX7_here _ (List.mem_of_getElem? (i := 1) rfl)) rfl ?_
  by_cases hc : (mm 0 17) < (mm 0 15)
  · replace hf := (if_pos hc).symm.trans hf
    refine z_icmp_ge_f B 30 rfl 75 (by decide) hc ?_
    refine z_aload_n B 31 rfl 0 0 rfl rfl ?_
    refine z_getr 7 14 0 B 32 rfl ob_0 rfl (iX7_here _ (List.mem_of_getElem? (i := 2) rfl)) rfl ?_
    refine z_aload_n B 33 rfl 0 0 rfl rfl ?_
    refine z_geti 7 17 0 B 34 rfl ob_0 rfl (iX7_here _ (List.mem_of_getElem? (i := 0) rfl)) rfl ?_
    obtain ⟨hx, hf⟩ := rdc_e hf
    refine z_iald B 35 rfl ob_12 hx ?_
    obtain ⟨v1, ex, hf⟩ := nm_x hf
    refine z_top ex ?_
    refine z_goto B 36 rfl 76 (by decide) ?_
    cases hf
    exact z_iret B 38 rfl rfl hQ hr
  · replace hf := (if_neg hc).symm.trans hf
    refine z_icmp_ge_t B 30 rfl 75 (by decide) hc ?_
    refine z_iconst (-1) B 37 rfl (by decide) ?_
    cases hf
    exact z_iret B 38 rfl rfl hQ hr
def f7_here_j39 (k0 : Mem → Option (Int32 × Mem)) (mm : Mem) : Option (Int32 × Mem) := nm (up2 mm 0 17 ((mm 0 17) + (1 : Int32))) (fun m3 => k0  m3)
theorem f7_here_j39_ok {E : Ev} {l : Launch} {C : Cfg} {x : (Int32 × Mem)} {k0 : Mem → Option (Int32 × Mem)} (hj : Dj C) (X : Ec E l C rmX7_here) (B : Bx E RX7 tbX7_here 1 (some .int)) (hQ : Rt E) (hr : Rs E (some (.int x.1)) x.2) (hk0 : ∀ (mm : Mem), k0 mm = some x → G E 1 0 [(0, .ref 0)] [] mm) (mm : Mem) (hf : f7_here_j39 k0 mm = some x) : G E 1 39 [(0, .ref 0)] [] mm := by
  unfold f7_here_j39 at hf
  refine z_aload_n B 19 rfl 0 0 rfl rfl ?_
  refine z_dup B 20 rfl rfl ?_
  refine z_geti 7 17 0 B 21 rfl ob_0 rfl (iX7_here _ (List.mem_of_getElem? (i := 0) rfl)) rfl ?_
  refine z_iconst 1 B 22 rfl (by decide) ?_
  refine z_iadd B 23 rfl ?_
  refine z_puti 7 17 0 B 24 rfl ob_0 rfl (iX7_here _ (List.mem_of_getElem? (i := 0) rfl)) rfl (ty := .int) (by decide) rfl rfl rfl ?_
  obtain ⟨m3, ex, hf⟩ := nm_x hf
  refine z_mem ex ?_
  refine z_goto B 25 rfl 0 (by decide) ?_
  exact hk0 _ hf
def f7_here_l0 : Nat → Mem → Option (Int32 × Mem)
  | 0, _ => none
  | n + 1, mm => if (mm 0 17) < (mm 0 15) then rdc 12 (mm 0 17) (nm (mm 12 (mm 0 17).toNatClampNeg) (fun v2 => if v2 = (32 : Int32) then f7_here_j39 (fun  mm => f7_here_l0 n  mm) mm else rdc 12 (mm 0 17) (nm (mm 12 (mm 0 17).toNatClampNeg) (fun v4 => if v4 = (10 : Int32) then f7_here_j39 (fun  mm => f7_here_l0 n  mm) mm else f7_here_j52 mm)))) else f7_here_j52 mm
theorem f7_here_l0_ok {E : Ev} {l : Launch} {C : Cfg} {x : (Int32 × Mem)} (hj : Dj C) (X : Ec E l C rmX7_here) (B : Bx E RX7 tbX7_here 1 (some .int)) (hQ : Rt E) (hr : Rs E (some (.int x.1)) x.2) (n : Nat) : ∀ (mm : Mem), f7_here_l0 n mm = some x → G E 1 0 [(0, .ref 0)] [] mm := by
  induction n with
  | zero =>
    intro mm hf
    rw [f7_here_l0] at hf
    cases hf
  | succ n ih =>
    intro mm hf
    rw [f7_here_l0] at hf
    refine z_aload_n B 0 rfl 0 0 rfl rfl ?_
    refine z_geti 7 17 0 B 1 rfl ob_0 rfl (iX7_here _ (List.mem_of_getElem? (i := 0) rfl)) rfl ?_
    refine z_aload_n B 2 rfl 0 0 rfl rfl ?_
    refine z_geti 7 15 0 B 3 rfl ob_0 rfl (iX7_here _ (List.mem_of_getElem? (i := 1) rfl)) rfl ?_
    by_cases hc : (mm 0 17) < (mm 0 15)
    · replace hf := (if_pos hc).symm.trans hf
      refine z_icmp_ge_f B 4 rfl 52 (by decide) hc ?_
      refine z_aload_n B 5 rfl 0 0 rfl rfl ?_
      refine z_getr 7 14 0 B 6 rfl ob_0 rfl (iX7_here _ (List.mem_of_getElem? (i := 2) rfl)) rfl ?_
      refine z_aload_n B 7 rfl 0 0 rfl rfl ?_
      refine z_geti 7 17 0 B 8 rfl ob_0 rfl (iX7_here _ (List.mem_of_getElem? (i := 0) rfl)) rfl ?_
      obtain ⟨hx, hf⟩ := rdc_e hf
      refine z_iald B 9 rfl ob_12 hx ?_
      obtain ⟨v2, ex, hf⟩ := nm_x hf
      refine z_top ex ?_
      refine z_bipush 32 B 10 rfl (by decide) ?_
      by_cases hc : v2 = (32 : Int32)
      · replace hf := (if_pos hc).symm.trans hf
        refine z_icmp_eq_t B 11 rfl 39 (by decide) hc ?_
        exact f7_here_j39_ok hj X B hQ hr ih _ hf
      · replace hf := (if_neg hc).symm.trans hf
        refine z_icmp_eq_f B 11 rfl 39 (by decide) hc ?_
        refine z_aload_n B 12 rfl 0 0 rfl rfl ?_
        refine z_getr 7 14 0 B 13 rfl ob_0 rfl (iX7_here _ (List.mem_of_getElem? (i := 2) rfl)) rfl ?_
        refine z_aload_n B 14 rfl 0 0 rfl rfl ?_
        refine z_geti 7 17 0 B 15 rfl ob_0 rfl (iX7_here _ (List.mem_of_getElem? (i := 0) rfl)) rfl ?_
        obtain ⟨hx, hf⟩ := rdc_e hf
        refine z_iald B 16 rfl ob_12 hx ?_
        obtain ⟨v4, ex, hf⟩ := nm_x hf
        refine z_top ex ?_
        refine z_bipush 10 B 17 rfl (by decide) ?_
        by_cases hc : v4 = (10 : Int32)
        · replace hf := (if_pos hc).symm.trans hf
          refine z_icmp_ne_f B 18 rfl 52 (by decide) hc ?_
          exact f7_here_j39_ok hj X B hQ hr ih _ hf
        · replace hf := (if_neg hc).symm.trans hf
          refine z_icmp_ne_t B 18 rfl 52 (by decide) hc ?_
          exact f7_here_j52_ok hj X B hQ hr _ hf
    · replace hf := (if_neg hc).symm.trans hf
      refine z_icmp_ge_t B 4 rfl 52 (by decide) hc ?_
      exact f7_here_j52_ok hj X B hQ hr _ hf
def f7_here (mm : Mem) : Option (Int32 × Mem) := f7_here_l0 FU mm
theorem ctX7_here {l : Launch} {C : Cfg} (hj : Dj C) {mm : Mem} {x : (Int32 × Mem)} (hf : f7_here mm = some x) : Ct l C yX7_here cX7_here 1 (some .int) 0 0 [.ref 0] mm (some (.int x.1)) x.2 := by
  refine Ct.of (tb := tbX7_here) hj miX7_here.2.1 miX7_here.1 dtX7_here (Nat.le_of_ble_eq_true rfl) ?_
  intro E B hQ hr X
  unfold f7_here at hf
  show G E 1 0 [(0, .ref 0)] [] mm
  exact f7_here_l0_ok hj X B hQ hr FU _ hf
/-! ZoneCapacityModel.fails(II)Z -/
def tbX7_fails : Tb := [(0, .aload_n 0, 1, 1), (1, .iload_n 1, 1, 2), (2, .bipush 8, 2, 4), (4, .iload_n 2, 1, 5), (5, .imul, 1, 6), (6, .iadd, 1, 7), (7, .putfield 187, 3, 10), (10, .iconst 0, 1, 11), (11, .ireturn, 1, 12)]
theorem dtX7_fails : ∀ q ∈ tbX7_fails, decode cX7_fails q.1 = .ok (q.2.1, q.2.2.1) ∧ q.1 + q.2.2.1 = q.2.2.2 := by decide +kernel
theorem miX7_fails : MI yX7_fails cX7_fails 3 (some .boolean) 2 := ⟨tw_mem (List.mem_of_getElem? (i := 1300) (by decide +kernel)) rfl, by decide, by decide +kernel, tw_mem (List.mem_of_getElem? (i := 78) (by decide +kernel)) rfl⟩
abbrev rmX7_fails : Room := { frames := 0, cells := 0, slots := 0, locals := 0 }
def wX7_fails : List Cond := [.fieldLink "ZoneCapacityModel" 187 "ZoneCapacityModel" "wrong" "I"]
theorem iX7_fails : ∀ w ∈ wX7_fails, w ∈ TW := tw_of (ids := [956]) (by decide +kernel)
def f7_fails (mm : Mem) (a1 : Int32) (a2 : Int32) : Option (Int32 × Mem) := nm (up2 mm 0 18 (a1 + ((8 : Int32) * a2))) (fun m1 => some ((0 : Int32), m1))
theorem ctX7_fails {l : Launch} {C : Cfg} (hj : Dj C) {mm : Mem} {a1 : Int32} {a2 : Int32} {x : (Int32 × Mem)} (hf : f7_fails mm a1 a2 = some x) : Ct l C yX7_fails cX7_fails 3 (some .boolean) 0 0 [.ref 0, .int a1, .int a2] mm (some (.int x.1)) x.2 := by
  refine Ct.of (tb := tbX7_fails) hj miX7_fails.2.1 miX7_fails.1 dtX7_fails (Nat.le_of_ble_eq_true rfl) ?_
  intro E B hQ hr X
  unfold f7_fails at hf
  show G E 3 0 [(0, .ref 0), (1, .int a1), (2, .int a2)] [] mm
  refine z_aload_n B 0 rfl 0 0 rfl rfl ?_
  refine z_iload_n B 1 rfl 1 1 rfl rfl ?_
  refine z_bipush 8 B 2 rfl (by decide) ?_
  refine z_iload_n B 3 rfl 2 2 rfl rfl ?_
  refine z_imul B 4 rfl ?_
  refine z_iadd B 5 rfl ?_
  refine z_puti 7 18 0 B 6 rfl ob_0 rfl (iX7_fails _ (List.mem_of_getElem? (i := 0) rfl)) rfl (ty := .int) (by decide) rfl rfl rfl ?_
  obtain ⟨m1, ex, hf⟩ := nm_x hf
  refine z_mem ex ?_
  refine z_iconst 0 B 7 rfl (by decide) ?_
  cases hf
  exact z_iret B 8 rfl (by decide) hQ hr
/-! ZoneCapacityModel.isDigit()Z -/
def tbX7_isDigit : Tb := [(0, .aload_n 0, 1, 1), (1, .invokevirtual 190, 3, 4), (4, .bipush 48, 2, 6), (6, .bipush 57, 2, 8), (8, .invokestatic 54, 3, 11), (11, .ireturn, 1, 12)]
theorem dtX7_isDigit : ∀ q ∈ tbX7_isDigit, decode cX7_isDigit q.1 = .ok (q.2.1, q.2.2.1) ∧ q.1 + q.2.2.1 = q.2.2.2 := by decide +kernel
theorem miX7_isDigit : MI yX7_isDigit cX7_isDigit 1 (some .boolean) 0 := ⟨tw_mem (List.mem_of_getElem? (i := 1320) (by decide +kernel)) rfl, by decide, by decide +kernel, tw_mem (List.mem_of_getElem? (i := 78) (by decide +kernel)) rfl⟩
abbrev rmX7_isDigit : Room := { frames := 1, cells := 0, slots := 0, locals := 22 }
def wX7_isDigit : List Cond := [.methodLink "ZoneCapacityModel" 190 yX7_here, .instanceMethod yX7_here, .selects "ZoneCapacityModel" yX7_here yX7_here, .methodLink "ZoneCapacityModel" 54 yX7_in, .static yX7_in]
theorem iX7_isDigit : ∀ w ∈ wX7_isDigit, w ∈ TW := tw_of (ids := [1285, 1287, 57, 1021, 1022]) (by decide +kernel)
def f7_isDigit (mm : Mem) : Option (Int32 × Mem) := bd (f7_here mm) (fun r1 => bd (f7_in r1.2 r1.1 (48 : Int32) (57 : Int32)) (fun r2 => bok r2 (some (r2, r1.2))))
theorem ctX7_isDigit {l : Launch} {C : Cfg} (hj : Dj C) {mm : Mem} {x : (Int32 × Mem)} (hf : f7_isDigit mm = some x) : Ct l C yX7_isDigit cX7_isDigit 1 (some .boolean) 1 22 [.ref 0] mm (some (.int x.1)) x.2 := by
  refine Ct.of (tb := tbX7_isDigit) hj miX7_isDigit.2.1 miX7_isDigit.1 dtX7_isDigit (Nat.le_of_ble_eq_true rfl) ?_
  intro E B hQ hr X
  unfold f7_isDigit at hf
  show G E 1 0 [(0, .ref 0)] [] mm
  refine z_aload_n B 0 rfl 0 0 rfl rfl ?_
  obtain ⟨r1, ec, hf⟩ := bd_e hf
  refine z_callV 0 7 [] [] [.int r1.1] X B 1 rfl ob_0 rfl rfl miX7_here ⟨(iX7_isDigit _ (List.mem_of_getElem? (i := 0) rfl)), (iX7_isDigit _ (List.mem_of_getElem? (i := 1) rfl)), (iX7_isDigit _ (List.mem_of_getElem? (i := 2) rfl))⟩ (ctX7_here hj ec) ⟨Nat.le_of_ble_eq_true rfl, Nat.le_of_ble_eq_true rfl⟩ rfl rfl (Nat.le_of_ble_eq_true rfl) rfl ?_
  refine z_bipush 48 B 2 rfl (by decide) ?_
  refine z_bipush 57 B 3 rfl (by decide) ?_
  obtain ⟨r2, ec, hf⟩ := bd_e hf
  refine z_callS [.int r1.1, .int (48 : Int32), .int (57 : Int32)] [] [.int r2] X B 4 rfl miX7_in ⟨(iX7_isDigit _ (List.mem_of_getElem? (i := 3) rfl)), (iX7_isDigit _ (List.mem_of_getElem? (i := 4) rfl))⟩ (ctX7_in hj ec) ⟨Nat.le_of_ble_eq_true rfl, Nat.le_of_ble_eq_true rfl⟩ rfl rfl (Nat.le_of_ble_eq_true rfl) rfl ?_
  obtain ⟨hb, hf⟩ := bok_e hf
  cases hf
  exact z_iret B 5 rfl (bok_n hb) hQ hr
/-! ZoneCapacityModel.number(III)Z -/
def tbX7_number : Tb := [(0, .aload_n 0, 1, 1), (1, .invokevirtual 194, 3, 4), (4, .ifCond .ne 13, 3, 7), (7, .aload_n 0, 1, 8), (8, .iconst 1, 1, 9), (9, .aload_n 0, 1, 10), (10, .getfield 184, 3, 13), (13, .invokevirtual 198, 3, 16), (16, .ireturn, 1, 17), (17, .aload_n 0, 1, 18), (18, .aload_n 0, 1, 19), (19, .getfield 184, 3, 22), (22, .putfield 201, 3, 25), (25, .aload_n 0, 1, 26), (26, .iconst 0, 1, 27), (27, .putfield 204, 3, 30), (30, .aload_n 0, 1, 31), (31, .getfield 184, 3, 34), (34, .aload_n 0, 1, 35), (35, .getfield 148, 3, 38), (38, .if_icmp .ge 79, 3, 41), (41, .aload_n 0, 1, 42), (42, .getfield 44, 3, 45), (45, .aload_n 0, 1, 46), (46, .getfield 184, 3, 49), (49, .iaload, 1, 50), (50, .bipush 48, 2, 52), (52, .bipush 57, 2, 54), (54, .invokestatic 54, 3, 57), (57, .ifCond .eq 60, 3, 60), (60, .aload_n 0, 1, 61), (61, .aload_n 0, 1, 62), (62, .getfield 184, 3, 65), (65, .aload_n 0, 1, 66), (66, .getfield 201, 3, 69), (69, .isub, 1, 70), (70, .iconst 4, 1, 71), (71, .if_icmp .ge 26, 3, 74), (74, .bipush 10, 2, 76), (76, .aload_n 0, 1, 77), (77, .getfield 204, 3, 80), (80, .imul, 1, 81), (81, .aload_n 0, 1, 82), (82, .getfield 44, 3, 85), (85, .aload_n 0, 1, 86), (86, .getfield 184, 3, 89), (89, .iaload, 1, 90), (90, .iadd, 1, 91), (91, .bipush 48, 2, 93), (93, .isub, 1, 94), (94, .goto 7, 3, 97), (97, .aload_n 0, 1, 98), (98, .getfield 204, 3, 101), (101, .putfield 204, 3, 104), (104, .aload_n 0, 1, 105), (105, .dup, 1, 106), (106, .getfield 184, 3, 109), (109, .iconst 1, 1, 110), (110, .iadd, 1, 111), (111, .putfield 184, 3, 114), (114, .goto (-84), 3, 117), (117, .aload_n 0, 1, 118), (118, .getfield 184, 3, 121), (121, .aload_n 0, 1, 122), (122, .getfield 201, 3, 125), (125, .isub, 1, 126), (126, .iconst 4, 1, 127), (127, .if_icmp .le 13, 3, 130), (130, .aload_n 0, 1, 131), (131, .iconst 1, 1, 132), (132, .aload_n 0, 1, 133), (133, .getfield 201, 3, 136), (136, .invokevirtual 198, 3, 139), (139, .ireturn, 1, 140), (140, .aload_n 0, 1, 141), (141, .getfield 47, 3, 144), (144, .iload_n 1, 1, 145), (145, .aload_n 0, 1, 146), (146, .getfield 204, 3, 149), (149, .iastore, 1, 150), (150, .aload_n 0, 1, 151), (151, .getfield 204, 3, 154), (154, .iload_n 2, 1, 155), (155, .iload_n 3, 1, 156), (156, .invokestatic 54, 3, 159), (159, .ifCond .ne 15, 3, 162), (162, .aload_n 0, 1, 163), (163, .iconst 2, 1, 164), (164, .aload_n 0, 1, 165), (165, .getfield 201, 3, 168), (168, .invokevirtual 198, 3, 171), (171, .ifCond .eq 7, 3, 174), (174, .iconst 1, 1, 175), (175, .goto 4, 3, 178), (178, .iconst 0, 1, 179), (179, .ireturn, 1, 180)]
theorem dtX7_number : ∀ q ∈ tbX7_number, decode cX7_number q.1 = .ok (q.2.1, q.2.2.1) ∧ q.1 + q.2.2.1 = q.2.2.2 := by decide +kernel
theorem miX7_number : MI yX7_number cX7_number 4 (some .boolean) 3 := ⟨tw_mem (List.mem_of_getElem? (i := 1316) (by decide +kernel)) rfl, by decide, by decide +kernel, tw_mem (List.mem_of_getElem? (i := 78) (by decide +kernel)) rfl⟩
abbrev rmX7_number : Room := { frames := 2, cells := 0, slots := 0, locals := 42 }
def wX7_number : List Cond := [.methodLink "ZoneCapacityModel" 194 yX7_isDigit, .instanceMethod yX7_isDigit, .selects "ZoneCapacityModel" yX7_isDigit yX7_isDigit, .fieldLink "ZoneCapacityModel" 184 "ZoneCapacityModel" "at" "I", .fieldLink "ZoneCapacityModel" 201 "ZoneCapacityModel" "place" "I", .fieldLink "ZoneCapacityModel" 204 "ZoneCapacityModel" "value" "I", .fieldLink "ZoneCapacityModel" 148 "ZoneCapacityModel" "taped" "I", .fieldLink "ZoneCapacityModel" 47 "ZoneCapacityModel" "told" "[I", .methodLink "ZoneCapacityModel" 54 yX7_in, .static yX7_in, .methodLink "ZoneCapacityModel" 198 yX7_fails, .instanceMethod yX7_fails, .selects "ZoneCapacityModel" yX7_fails yX7_fails, .fieldLink "ZoneCapacityModel" 44 "ZoneCapacityModel" "tape" "[I"]
theorem iX7_number : ∀ w ∈ wX7_number, w ∈ TW := tw_of (ids := [1317, 1319, 64, 955, 958, 957, 953, 960, 1021, 1022, 1297, 1299, 60, 952]) (by decide +kernel)
def f7_number_j174 (mm : Mem) : Option (Int32 × Mem) := some ((1 : Int32), mm)
theorem f7_number_j174_ok {E : Ev} {l : Launch} {C : Cfg} {x : (Int32 × Mem)} (hj : Dj C) (X : Ec E l C rmX7_number) (B : Bx E RX7 tbX7_number 4 (some .boolean)) (hQ : Rt E) (hr : Rs E (some (.int x.1)) x.2) (mm : Mem) (hf : f7_number_j174 mm = some x) : G E 4 174 [] [] mm := by
  unfold f7_number_j174 at hf
  refine z_iconst 1 B 92 rfl (by decide) ?_
  refine z_goto B 93 rfl 179 (by decide) ?_
  cases hf
  exact z_iret B 95 rfl (by decide) hQ hr
def f7_number_j117 (x1 : Int32) (x2 : Int32) (x3 : Int32) (mm : Mem) : Option (Int32 × Mem) := if (4 : Int32) < ((mm 0 17) - (mm 0 20)) then bd (f7_fails mm (1 : Int32) (mm 0 20)) (fun r7 => bok r7.1 (some (r7.1, r7.2))) else rdc 13 x1 (nm (up2 mm 13 x1.toNatClampNeg (mm 0 19)) (fun m4 => bd (f7_in m4 (m4 0 19) x2 x3) (fun r5 => if r5 = 0 then bd (f7_fails m4 (2 : Int32) (m4 0 20)) (fun r6 => if r6.1 = 0 then some ((0 : Int32), r6.2) else f7_number_j174 r6.2) else f7_number_j174 m4)))
theorem f7_number_j117_ok {E : Ev} {l : Launch} {C : Cfg} {x : (Int32 × Mem)} (hj : Dj C) (X : Ec E l C rmX7_number) (B : Bx E RX7 tbX7_number 4 (some .boolean)) (hQ : Rt E) (hr : Rs E (some (.int x.1)) x.2) (x1 : Int32) (x2 : Int32) (x3 : Int32) (mm : Mem) (hf : f7_number_j117 x1 x2 x3 mm = some x) : G E 4 117 [(0, .ref 0), (1, .int x1), (2, .int x2), (3, .int x3)] [] mm := by
  unfold f7_number_j117 at hf
  refine z_aload_n B 61 rfl 0 0 rfl rfl ?_
  refine z_geti 7 17 0 B 62 rfl ob_0 rfl (iX7_number _ (List.mem_of_getElem? (i := 3) rfl)) rfl ?_
  refine z_aload_n B 63 rfl 0 0 rfl rfl ?_
  refine z_geti 7 20 0 B 64 rfl ob_0 rfl (iX7_number _ (List.mem_of_getElem? (i := 4) rfl)) rfl ?_
  refine z_isub B 65 rfl ?_
  refine z_iconst 4 B 66 rfl (by decide) ?_
  by_cases hc : (4 : Int32) < ((mm 0 17) - (mm 0 20))
  · replace hf := (if_pos hc).symm.trans hf
    refine z_icmp_le_f B 67 rfl 140 (by decide) hc ?_
    refine z_aload_n B 68 rfl 0 0 rfl rfl ?_
    refine z_iconst 1 B 69 rfl (by decide) ?_
    refine z_aload_n B 70 rfl 0 0 rfl rfl ?_
    refine z_geti 7 20 0 B 71 rfl ob_0 rfl (iX7_number _ (List.mem_of_getElem? (i := 4) rfl)) rfl ?_
    obtain ⟨r7, ec, hf⟩ := bd_e hf
    refine z_callV 0 7 [.int (1 : Int32), .int (mm 0 20)] [] [.int r7.1] X B 72 rfl ob_0 rfl rfl miX7_fails ⟨(iX7_number _ (List.mem_of_getElem? (i := 10) rfl)), (iX7_number _ (List.mem_of_getElem? (i := 11) rfl)), (iX7_number _ (List.mem_of_getElem? (i := 12) rfl))⟩ (ctX7_fails hj ec) ⟨Nat.le_of_ble_eq_true rfl, Nat.le_of_ble_eq_true rfl⟩ rfl rfl (Nat.le_of_ble_eq_true rfl) rfl ?_
    obtain ⟨hb, hf⟩ := bok_e hf
    cases hf
    exact z_iret B 73 rfl (bok_n hb) hQ hr
  · replace hf := (if_neg hc).symm.trans hf
    refine z_icmp_le_t B 67 rfl 140 (by decide) hc ?_
    refine z_aload_n B 74 rfl 0 0 rfl rfl ?_
    refine z_getr 7 22 0 B 75 rfl ob_0 rfl (iX7_number _ (List.mem_of_getElem? (i := 7) rfl)) rfl ?_
    refine z_iload_n B 76 rfl 1 1 rfl rfl ?_
    refine z_aload_n B 77 rfl 0 0 rfl rfl ?_
    refine z_geti 7 19 0 B 78 rfl ob_0 rfl (iX7_number _ (List.mem_of_getElem? (i := 5) rfl)) rfl ?_
    obtain ⟨hx, hf⟩ := rdc_e hf
    refine z_iast B 79 rfl ob_13 hx ?_
    obtain ⟨m4, ex, hf⟩ := nm_x hf
    refine z_mem ex ?_
    refine z_aload_n B 80 rfl 0 0 rfl rfl ?_
    refine z_geti 7 19 0 B 81 rfl ob_0 rfl (iX7_number _ (List.mem_of_getElem? (i := 5) rfl)) rfl ?_
    refine z_iload_n B 82 rfl 2 2 rfl rfl ?_
    refine z_iload_n B 83 rfl 3 3 rfl rfl ?_
    obtain ⟨r5, ec, hf⟩ := bd_e hf
    refine z_callS [.int (m4 0 19), .int x2, .int x3] [] [.int r5] X B 84 rfl miX7_in ⟨(iX7_number _ (List.mem_of_getElem? (i := 8) rfl)), (iX7_number _ (List.mem_of_getElem? (i := 9) rfl))⟩ (ctX7_in hj ec) ⟨Nat.le_of_ble_eq_true rfl, Nat.le_of_ble_eq_true rfl⟩ rfl rfl (Nat.le_of_ble_eq_true rfl) rfl ?_
    by_cases hc : r5 = 0
    · replace hf := (if_pos hc).symm.trans hf
      refine z_if_ne_f B 85 rfl 174 (by decide) hc ?_
      refine z_aload_n B 86 rfl 0 0 rfl rfl ?_
      refine z_iconst 2 B 87 rfl (by decide) ?_
      refine z_aload_n B 88 rfl 0 0 rfl rfl ?_
      refine z_geti 7 20 0 B 89 rfl ob_0 rfl (iX7_number _ (List.mem_of_getElem? (i := 4) rfl)) rfl ?_
      obtain ⟨r6, ec, hf⟩ := bd_e hf
      refine z_callV 0 7 [.int (2 : Int32), .int (m4 0 20)] [] [.int r6.1] X B 90 rfl ob_0 rfl rfl miX7_fails ⟨(iX7_number _ (List.mem_of_getElem? (i := 10) rfl)), (iX7_number _ (List.mem_of_getElem? (i := 11) rfl)), (iX7_number _ (List.mem_of_getElem? (i := 12) rfl))⟩ (ctX7_fails hj ec) ⟨Nat.le_of_ble_eq_true rfl, Nat.le_of_ble_eq_true rfl⟩ rfl rfl (Nat.le_of_ble_eq_true rfl) rfl ?_
      by_cases hc : r6.1 = 0
      · replace hf := (if_pos hc).symm.trans hf
        refine z_if_eq_t B 91 rfl 178 (by decide) hc ?_
        refine z_iconst 0 B 94 rfl (by decide) ?_
        cases hf
        exact z_iret B 95 rfl (by decide) hQ hr
      · replace hf := (if_neg hc).symm.trans hf
        refine z_if_eq_f B 91 rfl 178 (by decide) hc ?_
        refine z_sub [] [] rfl ?_
        exact f7_number_j174_ok hj X B hQ hr _ hf
    · replace hf := (if_neg hc).symm.trans hf
      refine z_if_ne_t B 85 rfl 174 (by decide) hc ?_
      refine z_sub [] [] rfl ?_
      exact f7_number_j174_ok hj X B hQ hr _ hf
def f7_number_j101 (k30 : Int32 → Int32 → Int32 → Mem → Option (Int32 × Mem)) (x1 : Int32) (x2 : Int32) (x3 : Int32) (s0 : Int32) (mm : Mem) : Option (Int32 × Mem) := nm (up2 mm 0 19 s0) (fun m10 => nm (up2 m10 0 17 ((m10 0 17) + (1 : Int32))) (fun m11 => k30 x1 x2 x3 m11))
theorem f7_number_j101_ok {E : Ev} {l : Launch} {C : Cfg} {x : (Int32 × Mem)} {k30 : Int32 → Int32 → Int32 → Mem → Option (Int32 × Mem)} (hj : Dj C) (X : Ec E l C rmX7_number) (B : Bx E RX7 tbX7_number 4 (some .boolean)) (hQ : Rt E) (hr : Rs E (some (.int x.1)) x.2) (hk30 : ∀ (x1 : Int32) (x2 : Int32) (x3 : Int32) (mm : Mem), k30 x1 x2 x3 mm = some x → G E 4 30 [(0, .ref 0), (1, .int x1), (2, .int x2), (3, .int x3)] [] mm) (x1 : Int32) (x2 : Int32) (x3 : Int32) (s0 : Int32) (mm : Mem) (hf : f7_number_j101 k30 x1 x2 x3 s0 mm = some x) : G E 4 101 [(0, .ref 0), (1, .int x1), (2, .int x2), (3, .int x3)] [.int s0, .ref 0] mm := by
  unfold f7_number_j101 at hf
  refine z_puti 7 19 0 B 53 rfl ob_0 rfl (iX7_number _ (List.mem_of_getElem? (i := 5) rfl)) rfl (ty := .int) (by decide) rfl rfl rfl ?_
  obtain ⟨m10, ex, hf⟩ := nm_x hf
  refine z_mem ex ?_
  refine z_aload_n B 54 rfl 0 0 rfl rfl ?_
  refine z_dup B 55 rfl rfl ?_
  refine z_geti 7 17 0 B 56 rfl ob_0 rfl (iX7_number _ (List.mem_of_getElem? (i := 3) rfl)) rfl ?_
  refine z_iconst 1 B 57 rfl (by decide) ?_
  refine z_iadd B 58 rfl ?_
  refine z_puti 7 17 0 B 59 rfl ob_0 rfl (iX7_number _ (List.mem_of_getElem? (i := 3) rfl)) rfl (ty := .int) (by decide) rfl rfl rfl ?_
  obtain ⟨m11, ex, hf⟩ := nm_x hf
  refine z_mem ex ?_
  refine z_goto B 60 rfl 30 (by decide) ?_
  exact hk30 _ _ _ _ hf
def f7_number_l30 : Nat → Int32 → Int32 → Int32 → Mem → Option (Int32 × Mem)
  | 0, _, _, _, _ => none
  | n + 1, x1, x2, x3, mm => if (mm 0 17) < (mm 0 15) then rdc 12 (mm 0 17) (nm (mm 12 (mm 0 17).toNatClampNeg) (fun v8 => bd (f7_in mm v8 (48 : Int32) (57 : Int32)) (fun r9 => if r9 = 0 then f7_number_j117 x1 x2 x3 mm else if ((mm 0 17) - (mm 0 20)) < (4 : Int32) then rdc 12 (mm 0 17) (nm (mm 12 (mm 0 17).toNatClampNeg) (fun v12 => f7_number_j101 (fun x1 x2 x3 mm => f7_number_l30 n x1 x2 x3 mm) x1 x2 x3 ((((10 : Int32) * (mm 0 19)) + v12) - (48 : Int32)) mm)) else f7_number_j101 (fun x1 x2 x3 mm => f7_number_l30 n x1 x2 x3 mm) x1 x2 x3 (mm 0 19) mm))) else f7_number_j117 x1 x2 x3 mm
theorem f7_number_l30_ok {E : Ev} {l : Launch} {C : Cfg} {x : (Int32 × Mem)} (hj : Dj C) (X : Ec E l C rmX7_number) (B : Bx E RX7 tbX7_number 4 (some .boolean)) (hQ : Rt E) (hr : Rs E (some (.int x.1)) x.2) (n : Nat) : ∀ (x1 : Int32) (x2 : Int32) (x3 : Int32) (mm : Mem), f7_number_l30 n x1 x2 x3 mm = some x → G E 4 30 [(0, .ref 0), (1, .int x1), (2, .int x2), (3, .int x3)] [] mm := by
  induction n with
  | zero =>
    intro x1 x2 x3 mm hf
    rw [f7_number_l30] at hf
    cases hf
  | succ n ih =>
    intro x1 x2 x3 mm hf
    rw [f7_number_l30] at hf
    refine z_aload_n B 16 rfl 0 0 rfl rfl ?_
    refine z_geti 7 17 0 B 17 rfl ob_0 rfl (iX7_number _ (List.mem_of_getElem? (i := 3) rfl)) rfl ?_
    refine z_aload_n B 18 rfl 0 0 rfl rfl ?_
    refine z_geti 7 15 0 B 19 rfl ob_0 rfl (iX7_number _ (List.mem_of_getElem? (i := 6) rfl)) rfl ?_
    by_cases hc : (mm 0 17) < (mm 0 15)
    · replace hf := (if_pos hc).symm.trans hf
      refine z_icmp_ge_f B 20 rfl 117 (by decide) hc ?_
      refine z_aload_n B 21 rfl 0 0 rfl rfl ?_
      refine z_getr 7 14 0 B 22 rfl ob_0 rfl (iX7_number _ (List.mem_of_getElem? (i := 13) rfl)) rfl ?_
      refine z_aload_n B 23 rfl 0 0 rfl rfl ?_
      refine z_geti 7 17 0 B 24 rfl ob_0 rfl (iX7_number _ (List.mem_of_getElem? (i := 3) rfl)) rfl ?_
      obtain ⟨hx, hf⟩ := rdc_e hf
      refine z_iald B 25 rfl ob_12 hx ?_
      obtain ⟨v8, ex, hf⟩ := nm_x hf
      refine z_top ex ?_
      refine z_bipush 48 B 26 rfl (by decide) ?_
      refine z_bipush 57 B 27 rfl (by decide) ?_
      obtain ⟨r9, ec, hf⟩ := bd_e hf
      refine z_callS [.int v8, .int (48 : Int32), .int (57 : Int32)] [] [.int r9] X B 28 rfl miX7_in ⟨(iX7_number _ (List.mem_of_getElem? (i := 8) rfl)), (iX7_number _ (List.mem_of_getElem? (i := 9) rfl))⟩ (ctX7_in hj ec) ⟨Nat.le_of_ble_eq_true rfl, Nat.le_of_ble_eq_true rfl⟩ rfl rfl (Nat.le_of_ble_eq_true rfl) rfl ?_
      by_cases hc : r9 = 0
      · replace hf := (if_pos hc).symm.trans hf
        refine z_if_eq_t B 29 rfl 117 (by decide) hc ?_
        exact f7_number_j117_ok hj X B hQ hr _ _ _ _ hf
      · replace hf := (if_neg hc).symm.trans hf
        refine z_if_eq_f B 29 rfl 117 (by decide) hc ?_
        refine z_aload_n B 30 rfl 0 0 rfl rfl ?_
        refine z_aload_n B 31 rfl 0 0 rfl rfl ?_
        refine z_geti 7 17 0 B 32 rfl ob_0 rfl (iX7_number _ (List.mem_of_getElem? (i := 3) rfl)) rfl ?_
        refine z_aload_n B 33 rfl 0 0 rfl rfl ?_
        refine z_geti 7 20 0 B 34 rfl ob_0 rfl (iX7_number _ (List.mem_of_getElem? (i := 4) rfl)) rfl ?_
        refine z_isub B 35 rfl ?_
        refine z_iconst 4 B 36 rfl (by decide) ?_
        by_cases hc : ((mm 0 17) - (mm 0 20)) < (4 : Int32)
        · replace hf := (if_pos hc).symm.trans hf
          refine z_icmp_ge_f B 37 rfl 97 (by decide) hc ?_
          refine z_bipush 10 B 38 rfl (by decide) ?_
          refine z_aload_n B 39 rfl 0 0 rfl rfl ?_
          refine z_geti 7 19 0 B 40 rfl ob_0 rfl (iX7_number _ (List.mem_of_getElem? (i := 5) rfl)) rfl ?_
          refine z_imul B 41 rfl ?_
          refine z_aload_n B 42 rfl 0 0 rfl rfl ?_
          refine z_getr 7 14 0 B 43 rfl ob_0 rfl (iX7_number _ (List.mem_of_getElem? (i := 13) rfl)) rfl ?_
          refine z_aload_n B 44 rfl 0 0 rfl rfl ?_
          refine z_geti 7 17 0 B 45 rfl ob_0 rfl (iX7_number _ (List.mem_of_getElem? (i := 3) rfl)) rfl ?_
          obtain ⟨hx, hf⟩ := rdc_e hf
          refine z_iald B 46 rfl ob_12 hx ?_
          obtain ⟨v12, ex, hf⟩ := nm_x hf
          refine z_top ex ?_
          refine z_iadd B 47 rfl ?_
          refine z_bipush 48 B 48 rfl (by decide) ?_
          refine z_isub B 49 rfl ?_
          refine z_goto B 50 rfl 101 (by decide) ?_
          exact f7_number_j101_ok hj X B hQ hr ih _ _ _ _ _ hf
        · replace hf := (if_neg hc).symm.trans hf
          refine z_icmp_ge_t B 37 rfl 97 (by decide) hc ?_
          refine z_aload_n B 51 rfl 0 0 rfl rfl ?_
          refine z_geti 7 19 0 B 52 rfl ob_0 rfl (iX7_number _ (List.mem_of_getElem? (i := 5) rfl)) rfl ?_
          exact f7_number_j101_ok hj X B hQ hr ih _ _ _ _ _ hf
    · replace hf := (if_neg hc).symm.trans hf
      refine z_icmp_ge_t B 20 rfl 117 (by decide) hc ?_
      exact f7_number_j117_ok hj X B hQ hr _ _ _ _ hf
def f7_number (mm : Mem) (a1 : Int32) (a2 : Int32) (a3 : Int32) : Option (Int32 × Mem) := bd (f7_isDigit mm) (fun r1 => if r1.1 = 0 then bd (f7_fails r1.2 (1 : Int32) (r1.2 0 17)) (fun r13 => bok r13.1 (some (r13.1, r13.2))) else nm (up2 r1.2 0 20 (r1.2 0 17)) (fun m2 => nm (up2 m2 0 19 (0 : Int32)) (fun m3 => f7_number_l30 FU a1 a2 a3 m3)))
theorem ctX7_number {l : Launch} {C : Cfg} (hj : Dj C) {mm : Mem} {a1 : Int32} {a2 : Int32} {a3 : Int32} {x : (Int32 × Mem)} (hf : f7_number mm a1 a2 a3 = some x) : Ct l C yX7_number cX7_number 4 (some .boolean) 2 42 [.ref 0, .int a1, .int a2, .int a3] mm (some (.int x.1)) x.2 := by
  refine Ct.of (tb := tbX7_number) hj miX7_number.2.1 miX7_number.1 dtX7_number (Nat.le_of_ble_eq_true rfl) ?_
  intro E B hQ hr X
  unfold f7_number at hf
  show G E 4 0 [(0, .ref 0), (1, .int a1), (2, .int a2), (3, .int a3)] [] mm
  refine z_aload_n B 0 rfl 0 0 rfl rfl ?_
  obtain ⟨r1, ec, hf⟩ := bd_e hf
  refine z_callV 0 7 [] [] [.int r1.1] X B 1 rfl ob_0 rfl rfl miX7_isDigit ⟨(iX7_number _ (List.mem_of_getElem? (i := 0) rfl)), (iX7_number _ (List.mem_of_getElem? (i := 1) rfl)), (iX7_number _ (List.mem_of_getElem? (i := 2) rfl))⟩ (ctX7_isDigit hj ec) ⟨Nat.le_of_ble_eq_true rfl, Nat.le_of_ble_eq_true rfl⟩ rfl rfl (Nat.le_of_ble_eq_true rfl) rfl ?_
  by_cases hc : r1.1 = 0
  · replace hf := (if_pos hc).symm.trans hf
    refine z_if_ne_f B 2 rfl 17 (by decide) hc ?_
    refine z_aload_n B 3 rfl 0 0 rfl rfl ?_
    refine z_iconst 1 B 4 rfl (by decide) ?_
    refine z_aload_n B 5 rfl 0 0 rfl rfl ?_
    refine z_geti 7 17 0 B 6 rfl ob_0 rfl (iX7_number _ (List.mem_of_getElem? (i := 3) rfl)) rfl ?_
    obtain ⟨r13, ec, hf⟩ := bd_e hf
    refine z_callV 0 7 [.int (1 : Int32), .int (r1.2 0 17)] [] [.int r13.1] X B 7 rfl ob_0 rfl rfl miX7_fails ⟨(iX7_number _ (List.mem_of_getElem? (i := 10) rfl)), (iX7_number _ (List.mem_of_getElem? (i := 11) rfl)), (iX7_number _ (List.mem_of_getElem? (i := 12) rfl))⟩ (ctX7_fails hj ec) ⟨Nat.le_of_ble_eq_true rfl, Nat.le_of_ble_eq_true rfl⟩ rfl rfl (Nat.le_of_ble_eq_true rfl) rfl ?_
    obtain ⟨hb, hf⟩ := bok_e hf
    cases hf
    exact z_iret B 8 rfl (bok_n hb) hQ hr
  · replace hf := (if_neg hc).symm.trans hf
    refine z_if_ne_t B 2 rfl 17 (by decide) hc ?_
    refine z_aload_n B 9 rfl 0 0 rfl rfl ?_
    refine z_aload_n B 10 rfl 0 0 rfl rfl ?_
    refine z_geti 7 17 0 B 11 rfl ob_0 rfl (iX7_number _ (List.mem_of_getElem? (i := 3) rfl)) rfl ?_
    refine z_puti 7 20 0 B 12 rfl ob_0 rfl (iX7_number _ (List.mem_of_getElem? (i := 4) rfl)) rfl (ty := .int) (by decide) rfl rfl rfl ?_
    obtain ⟨m2, ex, hf⟩ := nm_x hf
    refine z_mem ex ?_
    refine z_aload_n B 13 rfl 0 0 rfl rfl ?_
    refine z_iconst 0 B 14 rfl (by decide) ?_
    refine z_puti 7 19 0 B 15 rfl ob_0 rfl (iX7_number _ (List.mem_of_getElem? (i := 5) rfl)) rfl (ty := .int) (by decide) rfl rfl rfl ?_
    obtain ⟨m3, ex, hf⟩ := nm_x hf
    refine z_mem ex ?_
    exact f7_number_l30_ok hj X B hQ hr FU _ _ _ _ hf
