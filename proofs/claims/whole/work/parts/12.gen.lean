/-! ZoneCapacity.within(III)Z -/
def tbX6_within : Tb := [(0, .iload_n 0, 1, 1), (1, .iload_n 1, 1, 2), (2, .if_icmp .lt 12, 3, 5), (5, .iload_n 0, 1, 6), (6, .iload_n 2, 1, 7), (7, .if_icmp .gt 7, 3, 10), (10, .iconst 1, 1, 11), (11, .goto 4, 3, 14), (14, .iconst 0, 1, 15), (15, .ireturn, 1, 16)]
theorem dtX6_within : ∀ q ∈ tbX6_within, decode cX6_within q.1 = .ok (q.2.1, q.2.2.1) ∧ q.1 + q.2.2.1 = q.2.2.2 := by decide +kernel
theorem miX6_within : MI yX6_within cX6_within 3 (some .boolean) 3 := ⟨tw_mem (List.mem_of_getElem? (i := 356) (by decide +kernel)) rfl, by decide, by decide +kernel, tw_mem (List.mem_of_getElem? (i := 71) (by decide +kernel)) rfl⟩
abbrev rmX6_within : Room := { frames := 0, cells := 0, slots := 0, locals := 0 }
def f6_within (mm : Mem) (a0 : Int32) (a1 : Int32) (a2 : Int32) : Option Int32 := if a0 < a1 then some ((0 : Int32)) else if a2 < a0 then some ((0 : Int32)) else some ((1 : Int32))
theorem ctX6_within {l : Launch} {C : Cfg} (hj : Dj C) {mm : Mem} {a0 : Int32} {a1 : Int32} {a2 : Int32} {x : Int32} (hf : f6_within mm a0 a1 a2 = some x) : Ct l C yX6_within cX6_within 3 (some .boolean) 0 0 [.int a0, .int a1, .int a2] mm (some (.int x)) mm := by
  refine Ct.of (tb := tbX6_within) hj miX6_within.2.1 miX6_within.1 dtX6_within (Nat.le_of_ble_eq_true rfl) ?_
  intro E B hQ hr X
  unfold f6_within at hf
  show G E 3 0 [(0, .int a0), (1, .int a1), (2, .int a2)] [] mm
  refine z_iload_n B 0 rfl 0 0 rfl rfl ?_
  refine z_iload_n B 1 rfl 1 1 rfl rfl ?_
  by_cases hc : a0 < a1
  · replace hf := (if_pos hc).symm.trans hf
    refine z_icmp_lt_t B 2 rfl 14 (by decide) hc ?_
    refine z_iconst 0 B 8 rfl (by decide) ?_
    cases hf
    exact z_iret B 9 rfl (by decide) hQ hr
  · replace hf := (if_neg hc).symm.trans hf
    refine z_icmp_lt_f B 2 rfl 14 (by decide) hc ?_
    refine z_iload_n B 3 rfl 0 0 rfl rfl ?_
    refine z_iload_n B 4 rfl 2 2 rfl rfl ?_
    by_cases hc : a2 < a0
    · replace hf := (if_pos hc).symm.trans hf
      refine z_icmp_gt_t B 5 rfl 14 (by decide) hc ?_
      refine z_iconst 0 B 8 rfl (by decide) ?_
      cases hf
      exact z_iret B 9 rfl (by decide) hQ hr
    · replace hf := (if_neg hc).symm.trans hf
      refine z_icmp_gt_f B 5 rfl 14 (by decide) hc ?_
      refine z_iconst 1 B 6 rfl (by decide) ?_
      refine z_goto B 7 rfl 15 (by decide) ?_
      cases hf
      exact z_iret B 9 rfl (by decide) hQ hr
/-! ZoneCapacity$Offers.hasLine(II)Z -/
def tbX2_hasLine : Tb := [(0, .aload_n 0, 1, 1), (1, .iload_n 1, 1, 2), (2, .invokevirtual 65, 3, 5), (5, .ifCond .eq 25, 3, 8), (8, .iload_n 2, 1, 9), (9, .iconst 0, 1, 10), (10, .iconst 3, 1, 11), (11, .invokestatic 69, 3, 14), (14, .ifCond .eq 16, 3, 17), (17, .aload_n 0, 1, 18), (18, .iload_n 1, 1, 19), (19, .iload_n 2, 1, 20), (20, .invokevirtual 73, 3, 23), (23, .ifCond .le 7, 3, 26), (26, .iconst 1, 1, 27), (27, .goto 4, 3, 30), (30, .iconst 0, 1, 31), (31, .ireturn, 1, 32)]
theorem dtX2_hasLine : ∀ q ∈ tbX2_hasLine, decode cX2_hasLine q.1 = .ok (q.2.1, q.2.2.1) ∧ q.1 + q.2.2.1 = q.2.2.2 := by decide +kernel
theorem miX2_hasLine : MI yX2_hasLine cX2_hasLine 3 (some .boolean) 2 := ⟨tw_mem (List.mem_of_getElem? (i := 632) (by decide +kernel)) rfl, by decide, by decide +kernel, tw_mem (List.mem_of_getElem? (i := 75) (by decide +kernel)) rfl⟩
abbrev rmX2_hasLine : Room := { frames := 3, cells := 0, slots := 0, locals := 66 }
def wX2_hasLine : List Cond := [.methodLink "ZoneCapacity$Offers" 65 yX2_has, .instanceMethod yX2_has, .selects "ZoneCapacity$Offers" yX2_has yX2_has, .static yX6_within, .methodLink "ZoneCapacity$Offers" 73 yX2_unitsOf, .instanceMethod yX2_unitsOf, .selects "ZoneCapacity$Offers" yX2_unitsOf yX2_unitsOf]
theorem iX2_hasLine : ∀ w ∈ wX2_hasLine, w ∈ TW := tw_of (ids := [633, 584, 585, 355, 635, 636, 637]) (by decide +kernel)
def f2_hasLine (mm : Mem) (a0 : Nat) (a1 : Int32) (a2 : Int32) : Option Int32 := bd (f2_has mm a0 a1) (fun r1 => if r1 = 0 then some ((0 : Int32)) else bd (f6_within mm a2 (0 : Int32) (3 : Int32)) (fun r2 => if r2 = 0 then some ((0 : Int32)) else bd (f2_unitsOf mm a0 a1 a2) (fun r3 => if 0 < r3 then some ((1 : Int32)) else some ((0 : Int32)))))
theorem ctX2_hasLine {l : Launch} {C : Cfg} (hj : Dj C) {mm : Mem} {a0 : Nat} {a1 : Int32} {a2 : Int32} {x : Int32} (o_a0 : Ob a0 2) (hf : f2_hasLine mm a0 a1 a2 = some x) : Ct l C yX2_hasLine cX2_hasLine 3 (some .boolean) 3 66 [.ref a0, .int a1, .int a2] mm (some (.int x)) mm := by
  refine Ct.of (tb := tbX2_hasLine) hj miX2_hasLine.2.1 miX2_hasLine.1 dtX2_hasLine (Nat.le_of_ble_eq_true rfl) ?_
  intro E B hQ hr X
  unfold f2_hasLine at hf
  show G E 3 0 [(0, .ref a0), (1, .int a1), (2, .int a2)] [] mm
  refine z_aload_n B 0 rfl 0 0 rfl rfl ?_
  refine z_iload_n B 1 rfl 1 1 rfl rfl ?_
  obtain ⟨r1, ec, hf⟩ := bd_e hf
  refine z_callV a0 2 [.int a1] [] [.int r1] X B 2 rfl o_a0 rfl rfl miX2_has ⟨(iX2_hasLine _ (List.mem_of_getElem? (i := 0) rfl)), (iX2_hasLine _ (List.mem_of_getElem? (i := 1) rfl)), (iX2_hasLine _ (List.mem_of_getElem? (i := 2) rfl))⟩ (ctX2_has hj o_a0 ec) ⟨Nat.le_of_ble_eq_true rfl, Nat.le_of_ble_eq_true rfl⟩ rfl rfl (Nat.le_of_ble_eq_true rfl) rfl ?_
  by_cases hc : r1 = 0
  · replace hf := (if_pos hc).symm.trans hf
    refine z_if_eq_t B 3 rfl 30 (by decide) hc ?_
    refine z_iconst 0 B 16 rfl (by decide) ?_
    cases hf
    exact z_iret B 17 rfl (by decide) hQ hr
  · replace hf := (if_neg hc).symm.trans hf
    refine z_if_eq_f B 3 rfl 30 (by decide) hc ?_
    refine z_iload_n B 4 rfl 2 2 rfl rfl ?_
    refine z_iconst 0 B 5 rfl (by decide) ?_
    refine z_iconst 3 B 6 rfl (by decide) ?_
    obtain ⟨r2, ec, hf⟩ := bd_e hf
    refine z_callN [.int a2, .int (0 : Int32), .int (3 : Int32)] [] [.int r2] X B 7 rfl miX6_within ⟨List.mem_of_getElem? (i := 18) rfl, (iX2_hasLine _ (List.mem_of_getElem? (i := 3) rfl))⟩ (ctX6_within hj ec) ⟨Nat.le_of_ble_eq_true rfl, Nat.le_of_ble_eq_true rfl⟩ rfl rfl (Nat.le_of_ble_eq_true rfl) rfl ?_
    by_cases hc : r2 = 0
    · replace hf := (if_pos hc).symm.trans hf
      refine z_if_eq_t B 8 rfl 30 (by decide) hc ?_
      refine z_iconst 0 B 16 rfl (by decide) ?_
      cases hf
      exact z_iret B 17 rfl (by decide) hQ hr
    · replace hf := (if_neg hc).symm.trans hf
      refine z_if_eq_f B 8 rfl 30 (by decide) hc ?_
      refine z_aload_n B 9 rfl 0 0 rfl rfl ?_
      refine z_iload_n B 10 rfl 1 1 rfl rfl ?_
      refine z_iload_n B 11 rfl 2 2 rfl rfl ?_
      obtain ⟨r3, ec, hf⟩ := bd_e hf
      refine z_callV a0 2 [.int a1, .int a2] [] [.int r3] X B 12 rfl o_a0 rfl rfl miX2_unitsOf ⟨(iX2_hasLine _ (List.mem_of_getElem? (i := 4) rfl)), (iX2_hasLine _ (List.mem_of_getElem? (i := 5) rfl)), (iX2_hasLine _ (List.mem_of_getElem? (i := 6) rfl))⟩ (ctX2_unitsOf hj o_a0 ec) ⟨Nat.le_of_ble_eq_true rfl, Nat.le_of_ble_eq_true rfl⟩ rfl rfl (Nat.le_of_ble_eq_true rfl) rfl ?_
      by_cases hc : 0 < r3
      · replace hf := (if_pos hc).symm.trans hf
        refine z_if_le_f B 13 rfl 30 (by decide) hc ?_
        refine z_iconst 1 B 14 rfl (by decide) ?_
        refine z_goto B 15 rfl 31 (by decide) ?_
        cases hf
        exact z_iret B 17 rfl (by decide) hQ hr
      · replace hf := (if_neg hc).symm.trans hf
        refine z_if_le_t B 13 rfl 30 (by decide) hc ?_
        refine z_iconst 0 B 16 rfl (by decide) ?_
        cases hf
        exact z_iret B 17 rfl (by decide) hQ hr
/-! ZoneCapacity$Tape.append(I)V -/
def tbX3_append : Tb := [(0, .bipush 24, 2, 2), (2, .istore_n 2, 1, 3), (3, .iload_n 2, 1, 4), (4, .ifCond .lt 37, 3, 7), (7, .aload_n 0, 1, 8), (8, .getfield 9, 3, 11), (11, .aload_n 0, 1, 12), (12, .getfield 15, 3, 15), (15, .iload_n 1, 1, 16), (16, .iload_n 2, 1, 17), (17, .iushr, 1, 18), (18, .sipush 255, 3, 21), (21, .iand, 1, 22), (22, .invokestatic 19, 3, 25), (25, .aload_n 0, 1, 26), (26, .dup, 1, 27), (27, .getfield 15, 3, 30), (30, .iconst 1, 1, 31), (31, .iadd, 1, 32), (32, .putfield 15, 3, 35), (35, .iinc 2 (-8), 3, 38), (38, .goto (-35), 3, 41), (41, .return_, 1, 42)]
theorem dtX3_append : ∀ q ∈ tbX3_append, decode cX3_append q.1 = .ok (q.2.1, q.2.2.1) ∧ q.1 + q.2.2.1 = q.2.2.2 := by decide +kernel
theorem miX3_append : MI yX3_append cX3_append 3 none 1 := ⟨tw_mem (List.mem_of_getElem? (i := 346) (by decide +kernel)) rfl, by decide, by decide +kernel, tw_mem (List.mem_of_getElem? (i := 77) (by decide +kernel)) rfl⟩
abbrev rmX3_append : Room := { frames := 1, cells := 0, slots := 0, locals := 22 }
def wX3_append : List Cond := [.fieldLink "ZoneCapacity$Tape" 9 "ZoneCapacity$Tape" "bytes" "[I", .fieldLink "ZoneCapacity$Tape" 15 "ZoneCapacity$Tape" "length" "I", .static yX6_put]
theorem iX3_append : ∀ w ∈ wX3_append, w ∈ TW := tw_of (ids := [275, 278, 348]) (by decide +kernel)
def f3_append_l3 : Nat → Int32 → Int32 → Mem → Option Mem
  | 0, _, _, _ => none
  | n + 1, x1, x2, mm => if x2 < 0 then some mm else bd (f6_put mm 75 (mm 74 1) (((x1.toUInt32 >>> (x2.toUInt32 &&& Int32.toUInt32 31)).toInt32) &&& (255 : Int32))) (fun r1 => nm (up2 r1 74 1 ((r1 74 1) + (1 : Int32))) (fun m2 => nm (x2 + (-8)) (fun v3 => f3_append_l3 n x1 v3 m2)))
theorem f3_append_l3_ok {E : Ev} {l : Launch} {C : Cfg} {x : Mem} (hj : Dj C) (X : Ec E l C rmX3_append) (B : Bx E RX3 tbX3_append 3 none) (hQ : Rt E) (hr : Rs E none x) (n : Nat) : ∀ (x1 : Int32) (x2 : Int32) (mm : Mem), f3_append_l3 n x1 x2 mm = some x → G E 3 3 [(0, .ref 74), (1, .int x1), (2, .int x2)] [] mm := by
  induction n with
  | zero =>
    intro x1 x2 mm hf
    rw [f3_append_l3] at hf
    cases hf
  | succ n ih =>
    intro x1 x2 mm hf
    rw [f3_append_l3] at hf
    refine z_iload_n B 2 rfl 2 2 rfl rfl ?_
    by_cases hc : x2 < 0
    · replace hf := (if_pos hc).symm.trans hf
      refine z_if_lt_t B 3 rfl 41 (by decide) hc ?_
      cases hf
      exact z_vret B 22 rfl hQ hr
    · replace hf := (if_neg hc).symm.trans hf
      refine z_if_lt_f B 3 rfl 41 (by decide) hc ?_
      refine z_aload_n B 4 rfl 0 0 rfl rfl ?_
      refine z_getr 3 0 74 B 5 rfl ob_74 rfl (iX3_append _ (List.mem_of_getElem? (i := 0) rfl)) rfl ?_
      refine z_aload_n B 6 rfl 0 0 rfl rfl ?_
      refine z_geti 3 1 74 B 7 rfl ob_74 rfl (iX3_append _ (List.mem_of_getElem? (i := 1) rfl)) rfl ?_
      refine z_iload_n B 8 rfl 1 1 rfl rfl ?_
      refine z_iload_n B 9 rfl 2 2 rfl rfl ?_
      refine z_iushr B 10 rfl ?_
      refine z_sipush 255 B 11 rfl (by decide) ?_
      refine z_iand B 12 rfl ?_
      obtain ⟨r1, ec, hf⟩ := bd_e hf
      refine z_callN [.ref 75, .int (mm 74 1), .int (((x1.toUInt32 >>> (x2.toUInt32 &&& Int32.toUInt32 31)).toInt32) &&& (255 : Int32))] [] [] X B 13 rfl miX6_put ⟨List.mem_of_getElem? (i := 8) rfl, (iX3_append _ (List.mem_of_getElem? (i := 2) rfl))⟩ (ctX6_put hj ob_75 ec) ⟨Nat.le_of_ble_eq_true rfl, Nat.le_of_ble_eq_true rfl⟩ rfl rfl (Nat.le_of_ble_eq_true rfl) rfl ?_
      refine z_aload_n B 14 rfl 0 0 rfl rfl ?_
      refine z_dup B 15 rfl rfl ?_
      refine z_geti 3 1 74 B 16 rfl ob_74 rfl (iX3_append _ (List.mem_of_getElem? (i := 1) rfl)) rfl ?_
      refine z_iconst 1 B 17 rfl (by decide) ?_
      refine z_iadd B 18 rfl ?_
      refine z_puti 3 1 74 B 19 rfl ob_74 rfl (iX3_append _ (List.mem_of_getElem? (i := 1) rfl)) rfl (ty := .int) (by decide) rfl rfl rfl ?_
      obtain ⟨m2, ex, hf⟩ := nm_x hf
      refine z_mem ex ?_
      obtain ⟨v3, ex, hf⟩ := nm_x hf
      refine z_iinc v3 [(2, .int v3), (0, .ref 74), (1, .int x1)] B 20 rfl 2 rfl (ex.symm) (by decide) rfl ?_
      refine z_goto B 21 rfl 3 (by decide) ?_
      refine z_sub [(0, .ref 74), (1, .int x1), (2, .int v3)] [1, 2, 0] rfl ?_
      exact ih _ _ _ hf
def f3_append (mm : Mem) (a1 : Int32) : Option Mem := f3_append_l3 FU a1 (24 : Int32) mm
theorem ctX3_append {l : Launch} {C : Cfg} (hj : Dj C) {mm : Mem} {a1 : Int32} {x : Mem} (hf : f3_append mm a1 = some x) : Ct l C yX3_append cX3_append 3 none 1 22 [.ref 74, .int a1] mm none x := by
  refine Ct.of (tb := tbX3_append) hj miX3_append.2.1 miX3_append.1 dtX3_append (Nat.le_of_ble_eq_true rfl) ?_
  intro E B hQ hr X
  unfold f3_append at hf
  show G E 3 0 [(0, .ref 74), (1, .int a1)] [] mm
  refine z_bipush 24 B 0 rfl (by decide) ?_
  refine z_istore_n [(2, .int (24 : Int32)), (0, .ref 74), (1, .int a1)] B 1 rfl 2 rfl (by decide) rfl ?_
  refine z_sub [(0, .ref 74), (1, .int a1), (2, .int (24 : Int32))] [1, 2, 0] rfl ?_
  exact f3_append_l3_ok hj X B hQ hr FU _ _ _ hf
/-! ZoneCapacity$Teller.isBlank(I)Z -/
def tbX4_isBlank : Tb := [(0, .iload_n 0, 1, 1), (1, .bipush 32, 2, 3), (3, .if_icmp .eq 9, 3, 6), (6, .iload_n 0, 1, 7), (7, .bipush 10, 2, 9), (9, .if_icmp .ne 7, 3, 12), (12, .iconst 1, 1, 13), (13, .goto 4, 3, 16), (16, .iconst 0, 1, 17), (17, .ireturn, 1, 18)]
theorem dtX4_isBlank : ∀ q ∈ tbX4_isBlank, decode cX4_isBlank q.1 = .ok (q.2.1, q.2.2.1) ∧ q.1 + q.2.2.1 = q.2.2.2 := by decide +kernel
theorem miX4_isBlank : MI yX4_isBlank cX4_isBlank 1 (some .boolean) 1 := ⟨tw_mem (List.mem_of_getElem? (i := 390) (by decide +kernel)) rfl, by decide, by decide +kernel, tw_mem (List.mem_of_getElem? (i := 76) (by decide +kernel)) rfl⟩
abbrev rmX4_isBlank : Room := { frames := 0, cells := 0, slots := 0, locals := 0 }
def f4_isBlank_j12 (mm : Mem) : Option Int32 := some ((1 : Int32))
theorem f4_isBlank_j12_ok {E : Ev} {l : Launch} {C : Cfg} {mm : Mem} {x : Int32} (hj : Dj C) (X : Ec E l C rmX4_isBlank) (B : Bx E RX4 tbX4_isBlank 1 (some .boolean)) (hQ : Rt E) (hr : Rs E (some (.int x)) mm) (hf : f4_isBlank_j12 mm = some x) : G E 1 12 [] [] mm := by
  unfold f4_isBlank_j12 at hf
  refine z_iconst 1 B 6 rfl (by decide) ?_
  refine z_goto B 7 rfl 17 (by decide) ?_
  cases hf
  exact z_iret B 9 rfl (by decide) hQ hr
def f4_isBlank (mm : Mem) (a0 : Int32) : Option Int32 := if a0 = (32 : Int32) then f4_isBlank_j12 mm else if a0 = (10 : Int32) then f4_isBlank_j12 mm else some ((0 : Int32))
theorem ctX4_isBlank {l : Launch} {C : Cfg} (hj : Dj C) {mm : Mem} {a0 : Int32} {x : Int32} (hf : f4_isBlank mm a0 = some x) : Ct l C yX4_isBlank cX4_isBlank 1 (some .boolean) 0 0 [.int a0] mm (some (.int x)) mm := by
  refine Ct.of (tb := tbX4_isBlank) hj miX4_isBlank.2.1 miX4_isBlank.1 dtX4_isBlank (Nat.le_of_ble_eq_true rfl) ?_
  intro E B hQ hr X
  unfold f4_isBlank at hf
  show G E 1 0 [(0, .int a0)] [] mm
  refine z_iload_n B 0 rfl 0 0 rfl rfl ?_
  refine z_bipush 32 B 1 rfl (by decide) ?_
  by_cases hc : a0 = (32 : Int32)
  · replace hf := (if_pos hc).symm.trans hf
    refine z_icmp_eq_t B 2 rfl 12 (by decide) hc ?_
    refine z_sub [] [] rfl ?_
    exact f4_isBlank_j12_ok hj X B hQ hr  hf
  · replace hf := (if_neg hc).symm.trans hf
    refine z_icmp_eq_f B 2 rfl 12 (by decide) hc ?_
    refine z_iload_n B 3 rfl 0 0 rfl rfl ?_
    refine z_bipush 10 B 4 rfl (by decide) ?_
    by_cases hc : a0 = (10 : Int32)
    · replace hf := (if_pos hc).symm.trans hf
      refine z_icmp_ne_f B 5 rfl 16 (by decide) hc ?_
      refine z_sub [] [] rfl ?_
      exact f4_isBlank_j12_ok hj X B hQ hr  hf
    · replace hf := (if_neg hc).symm.trans hf
      refine z_icmp_ne_t B 5 rfl 16 (by decide) hc ?_
      refine z_iconst 0 B 8 rfl (by decide) ?_
      cases hf
      exact z_iret B 9 rfl (by decide) hQ hr
/-! ZoneCapacity$Teller.isLetter(I)Z -/
def tbX4_isLetter : Tb := [(0, .iload_n 0, 1, 1), (1, .bipush 97, 2, 3), (3, .if_icmp .lt 13, 3, 6), (6, .iload_n 0, 1, 7), (7, .bipush 122, 2, 9), (9, .if_icmp .gt 7, 3, 12), (12, .iconst 1, 1, 13), (13, .goto 4, 3, 16), (16, .iconst 0, 1, 17), (17, .ireturn, 1, 18)]
theorem dtX4_isLetter : ∀ q ∈ tbX4_isLetter, decode cX4_isLetter q.1 = .ok (q.2.1, q.2.2.1) ∧ q.1 + q.2.2.1 = q.2.2.2 := by decide +kernel
theorem miX4_isLetter : MI yX4_isLetter cX4_isLetter 1 (some .boolean) 1 := ⟨tw_mem (List.mem_of_getElem? (i := 393) (by decide +kernel)) rfl, by decide, by decide +kernel, tw_mem (List.mem_of_getElem? (i := 76) (by decide +kernel)) rfl⟩
abbrev rmX4_isLetter : Room := { frames := 0, cells := 0, slots := 0, locals := 0 }
def f4_isLetter (mm : Mem) (a0 : Int32) : Option Int32 := if a0 < (97 : Int32) then some ((0 : Int32)) else if (122 : Int32) < a0 then some ((0 : Int32)) else some ((1 : Int32))
theorem ctX4_isLetter {l : Launch} {C : Cfg} (hj : Dj C) {mm : Mem} {a0 : Int32} {x : Int32} (hf : f4_isLetter mm a0 = some x) : Ct l C yX4_isLetter cX4_isLetter 1 (some .boolean) 0 0 [.int a0] mm (some (.int x)) mm := by
  refine Ct.of (tb := tbX4_isLetter) hj miX4_isLetter.2.1 miX4_isLetter.1 dtX4_isLetter (Nat.le_of_ble_eq_true rfl) ?_
  intro E B hQ hr X
  unfold f4_isLetter at hf
  show G E 1 0 [(0, .int a0)] [] mm
  refine z_iload_n B 0 rfl 0 0 rfl rfl ?_
  refine z_bipush 97 B 1 rfl (by decide) ?_
  by_cases hc : a0 < (97 : Int32)
  · replace hf := (if_pos hc).symm.trans hf
    refine z_icmp_lt_t B 2 rfl 16 (by decide) hc ?_
    refine z_iconst 0 B 8 rfl (by decide) ?_
    cases hf
    exact z_iret B 9 rfl (by decide) hQ hr
  · replace hf := (if_neg hc).symm.trans hf
    refine z_icmp_lt_f B 2 rfl 16 (by decide) hc ?_
    refine z_iload_n B 3 rfl 0 0 rfl rfl ?_
    refine z_bipush 122 B 4 rfl (by decide) ?_
    by_cases hc : (122 : Int32) < a0
    · replace hf := (if_pos hc).symm.trans hf
      refine z_icmp_gt_t B 5 rfl 16 (by decide) hc ?_
      refine z_iconst 0 B 8 rfl (by decide) ?_
      cases hf
      exact z_iret B 9 rfl (by decide) hQ hr
    · replace hf := (if_neg hc).symm.trans hf
      refine z_icmp_gt_f B 5 rfl 16 (by decide) hc ?_
      refine z_iconst 1 B 6 rfl (by decide) ?_
      refine z_goto B 7 rfl 17 (by decide) ?_
      cases hf
      exact z_iret B 9 rfl (by decide) hQ hr
/-! ZoneCapacity$Teller.isDigit(I)Z -/
def tbX4_isDigit : Tb := [(0, .iload_n 0, 1, 1), (1, .bipush 48, 2, 3), (3, .if_icmp .lt 13, 3, 6), (6, .iload_n 0, 1, 7), (7, .bipush 57, 2, 9), (9, .if_icmp .gt 7, 3, 12), (12, .iconst 1, 1, 13), (13, .goto 4, 3, 16), (16, .iconst 0, 1, 17), (17, .ireturn, 1, 18)]
theorem dtX4_isDigit : ∀ q ∈ tbX4_isDigit, decode cX4_isDigit q.1 = .ok (q.2.1, q.2.2.1) ∧ q.1 + q.2.2.1 = q.2.2.2 := by decide +kernel
theorem miX4_isDigit : MI yX4_isDigit cX4_isDigit 1 (some .boolean) 1 := ⟨tw_mem (List.mem_of_getElem? (i := 396) (by decide +kernel)) rfl, by decide, by decide +kernel, tw_mem (List.mem_of_getElem? (i := 76) (by decide +kernel)) rfl⟩
abbrev rmX4_isDigit : Room := { frames := 0, cells := 0, slots := 0, locals := 0 }
def f4_isDigit (mm : Mem) (a0 : Int32) : Option Int32 := if a0 < (48 : Int32) then some ((0 : Int32)) else if (57 : Int32) < a0 then some ((0 : Int32)) else some ((1 : Int32))
theorem ctX4_isDigit {l : Launch} {C : Cfg} (hj : Dj C) {mm : Mem} {a0 : Int32} {x : Int32} (hf : f4_isDigit mm a0 = some x) : Ct l C yX4_isDigit cX4_isDigit 1 (some .boolean) 0 0 [.int a0] mm (some (.int x)) mm := by
  refine Ct.of (tb := tbX4_isDigit) hj miX4_isDigit.2.1 miX4_isDigit.1 dtX4_isDigit (Nat.le_of_ble_eq_true rfl) ?_
  intro E B hQ hr X
  unfold f4_isDigit at hf
  show G E 1 0 [(0, .int a0)] [] mm
  refine z_iload_n B 0 rfl 0 0 rfl rfl ?_
  refine z_bipush 48 B 1 rfl (by decide) ?_
  by_cases hc : a0 < (48 : Int32)
  · replace hf := (if_pos hc).symm.trans hf
    refine z_icmp_lt_t B 2 rfl 16 (by decide) hc ?_
    refine z_iconst 0 B 8 rfl (by decide) ?_
    cases hf
    exact z_iret B 9 rfl (by decide) hQ hr
  · replace hf := (if_neg hc).symm.trans hf
    refine z_icmp_lt_f B 2 rfl 16 (by decide) hc ?_
    refine z_iload_n B 3 rfl 0 0 rfl rfl ?_
    refine z_bipush 57 B 4 rfl (by decide) ?_
    by_cases hc : (57 : Int32) < a0
    · replace hf := (if_pos hc).symm.trans hf
      refine z_icmp_gt_t B 5 rfl 16 (by decide) hc ?_
      refine z_iconst 0 B 8 rfl (by decide) ?_
      cases hf
      exact z_iret B 9 rfl (by decide) hQ hr
    · replace hf := (if_neg hc).symm.trans hf
      refine z_icmp_gt_f B 5 rfl 16 (by decide) hc ?_
      refine z_iconst 1 B 6 rfl (by decide) ?_
      refine z_goto B 7 rfl 17 (by decide) ?_
      cases hf
      exact z_iret B 9 rfl (by decide) hQ hr
/-! ZoneCapacity$Teller.advance()V -/
def tbX4_advance : Tb := [(0, .aload_n 0, 1, 1), (1, .getfield 29, 3, 4), (4, .aload_n 0, 1, 5), (5, .getfield 12, 3, 8), (8, .getfield 190, 3, 11), (11, .if_icmp .ge 36, 3, 14), (14, .aload_n 0, 1, 15), (15, .getfield 12, 3, 18), (18, .getfield 183, 3, 21), (21, .aload_n 0, 1, 22), (22, .getfield 29, 3, 25), (25, .invokestatic 186, 3, 28), (28, .invokestatic 192, 3, 31), (31, .ifCond .eq 16, 3, 34), (34, .aload_n 0, 1, 35), (35, .dup, 1, 36), (36, .getfield 29, 3, 39), (39, .iconst 1, 1, 40), (40, .iadd, 1, 41), (41, .putfield 29, 3, 44), (44, .goto (-44), 3, 47), (47, .aload_n 0, 1, 48), (48, .aload_n 0, 1, 49), (49, .getfield 29, 3, 52), (52, .putfield 81, 3, 55), (55, .aload_n 0, 1, 56), (56, .iconst 0, 1, 57), (57, .putfield 166, 3, 60), (60, .aload_n 0, 1, 61), (61, .getfield 29, 3, 64), (64, .aload_n 0, 1, 65), (65, .getfield 12, 3, 68), (68, .getfield 190, 3, 71), (71, .if_icmp .lt 9, 3, 74), (74, .aload_n 0, 1, 75), (75, .iconst 3, 1, 76), (76, .putfield 35, 3, 79), (79, .return_, 1, 80), (80, .aload_n 0, 1, 81), (81, .getfield 12, 3, 84), (84, .getfield 183, 3, 87), (87, .aload_n 0, 1, 88), (88, .getfield 29, 3, 91), (91, .invokestatic 186, 3, 94), (94, .istore_n 1, 1, 95), (95, .iload_n 1, 1, 96), (96, .invokestatic 196, 3, 99), (99, .ifCond .eq 55, 3, 102), (102, .aload_n 0, 1, 103), (103, .iconst 0, 1, 104), (104, .putfield 35, 3, 107), (107, .aload_n 0, 1, 108), (108, .getfield 29, 3, 111), (111, .aload_n 0, 1, 112), (112, .getfield 12, 3, 115), (115, .getfield 190, 3, 118), (118, .if_icmp .ge 149, 3, 121), (121, .aload_n 0, 1, 122), (122, .getfield 12, 3, 125), (125, .getfield 183, 3, 128), (128, .aload_n 0, 1, 129), (129, .getfield 29, 3, 132), (132, .invokestatic 186, 3, 135), (135, .invokestatic 196, 3, 138), (138, .ifCond .eq 129, 3, 141), (141, .aload_n 0, 1, 142), (142, .dup, 1, 143), (143, .getfield 29, 3, 146), (146, .iconst 1, 1, 147), (147, .iadd, 1, 148), (148, .putfield 29, 3, 151), (151, .goto (-44), 3, 154), (154, .iload_n 1, 1, 155), (155, .invokestatic 199, 3, 158), (158, .ifCond .eq 84, 3, 161), (161, .aload_n 0, 1, 162), (162, .iconst 1, 1, 163), (163, .putfield 35, 3, 166), (166, .aload_n 0, 1, 167), (167, .getfield 29, 3, 170), (170, .aload_n 0, 1, 171), (171, .getfield 12, 3, 174), (174, .getfield 190, 3, 177), (177, .if_icmp .ge 90, 3, 180), (180, .aload_n 0, 1, 181), (181, .getfield 12, 3, 184), (184, .getfield 183, 3, 187), (187, .aload_n 0, 1, 188), (188, .getfield 29, 3, 191), (191, .invokestatic 186, 3, 194), (194, .invokestatic 199, 3, 197), (197, .ifCond .eq 70, 3, 200), (200, .aload_n 0, 1, 201), (201, .aload_n 0, 1, 202), (202, .getfield 166, 3, 205), (205, .bipush 10, 2, 207), (207, .imul, 1, 208), (208, .aload_n 0, 1, 209), (209, .getfield 12, 3, 212), (212, .getfield 183, 3, 215), (215, .aload_n 0, 1, 216), (216, .getfield 29, 3, 219), (219, .invokestatic 186, 3, 222), (222, .iadd, 1, 223), (223, .bipush 48, 2, 225), (225, .isub, 1, 226), (226, .putfield 166, 3, 229), (229, .aload_n 0, 1, 230), (230, .dup, 1, 231), (231, .getfield 29, 3, 234), (234, .iconst 1, 1, 235), (235, .iadd, 1, 236), (236, .putfield 29, 3, 239), (239, .goto (-73), 3, 242), (242, .aload_n 0, 1, 243), (243, .iload_n 1, 1, 244), (244, .bipush 59, 2, 246), (246, .if_icmp .ne 7, 3, 249), (249, .iconst 2, 1, 250), (250, .goto 4, 3, 253), (253, .iconst 4, 1, 254), (254, .putfield 35, 3, 257), (257, .aload_n 0, 1, 258), (258, .dup, 1, 259), (259, .getfield 29, 3, 262), (262, .iconst 1, 1, 263), (263, .iadd, 1, 264), (264, .putfield 29, 3, 267), (267, .return_, 1, 268)]
theorem dtX4_advance : ∀ q ∈ tbX4_advance, decode cX4_advance q.1 = .ok (q.2.1, q.2.2.1) ∧ q.1 + q.2.2.1 = q.2.2.2 := by decide +kernel
theorem miX4_advance : MI yX4_advance cX4_advance 2 none 0 := ⟨tw_mem (List.mem_of_getElem? (i := 384) (by decide +kernel)) rfl, by decide, by decide +kernel, tw_mem (List.mem_of_getElem? (i := 76) (by decide +kernel)) rfl⟩
abbrev rmX4_advance : Room := { frames := 1, cells := 0, slots := 0, locals := 21 }
def wX4_advance : List Cond := [.fieldLink "ZoneCapacity$Teller" 29 "ZoneCapacity$Teller" "next" "I", .fieldLink "ZoneCapacity$Teller" 12 "ZoneCapacity$Teller" "tape" "LZoneCapacity$Tape;", .fieldLink "ZoneCapacity$Teller" 190 "ZoneCapacity$Tape" "length" "I", .fieldLink "ZoneCapacity$Teller" 81 "ZoneCapacity$Teller" "place" "I", .fieldLink "ZoneCapacity$Teller" 166 "ZoneCapacity$Teller" "number" "I", .fieldLink "ZoneCapacity$Teller" 183 "ZoneCapacity$Tape" "bytes" "[I", .static yX6_at, .methodLink "ZoneCapacity$Teller" 196 yX4_isLetter, .static yX4_isLetter, .methodLink "ZoneCapacity$Teller" 199 yX4_isDigit, .static yX4_isDigit, .fieldLink "ZoneCapacity$Teller" 35 "ZoneCapacity$Teller" "token" "I", .methodLink "ZoneCapacity$Teller" 192 yX4_isBlank, .static yX4_isBlank]
theorem iX4_advance : ∀ w ∈ wX4_advance, w ∈ TW := tw_of (ids := [296, 287, 279, 294, 295, 276, 386, 391, 392, 394, 395, 293, 388, 389]) (by decide +kernel)
def f4_advance_j254 (s0 : Int32) (mm : Mem) : Option Mem := nm (up2 mm 73 3 s0) (fun m6 => nm (up2 m6 73 6 ((m6 73 6) + (1 : Int32))) (fun m7 => some m7))
theorem f4_advance_j254_ok {E : Ev} {l : Launch} {C : Cfg} {x : Mem} (hj : Dj C) (X : Ec E l C rmX4_advance) (B : Bx E RX4 tbX4_advance 2 none) (hQ : Rt E) (hr : Rs E none x) (s0 : Int32) (mm : Mem) (hf : f4_advance_j254 s0 mm = some x) : G E 2 254 [(0, .ref 73)] [.int s0, .ref 73] mm := by
  unfold f4_advance_j254 at hf
  refine z_puti 4 3 73 B 121 rfl ob_73 rfl (iX4_advance _ (List.mem_of_getElem? (i := 11) rfl)) rfl (ty := .int) (by decide) rfl rfl rfl ?_
  obtain ⟨m6, ex, hf⟩ := nm_x hf
  refine z_mem ex ?_
  refine z_aload_n B 122 rfl 0 0 rfl rfl ?_
  refine z_dup B 123 rfl rfl ?_
  refine z_geti 4 6 73 B 124 rfl ob_73 rfl (iX4_advance _ (List.mem_of_getElem? (i := 0) rfl)) rfl ?_
  refine z_iconst 1 B 125 rfl (by decide) ?_
  refine z_iadd B 126 rfl ?_
  refine z_puti 4 6 73 B 127 rfl ob_73 rfl (iX4_advance _ (List.mem_of_getElem? (i := 0) rfl)) rfl (ty := .int) (by decide) rfl rfl rfl ?_
  obtain ⟨m7, ex, hf⟩ := nm_x hf
  refine z_mem ex ?_
  cases hf
  exact z_vret B 128 rfl hQ hr
def f4_advance_l166 : Nat → Mem → Option Mem
  | 0, _ => none
  | n + 1, mm => if (mm 73 6) < (mm 74 1) then bd (f6_at mm 75 (mm 73 6)) (fun r9 => bd (f4_isDigit mm r9) (fun r10 => if r10 = 0 then some mm else bd (f6_at mm 75 (mm 73 6)) (fun r11 => nm (up2 mm 73 5 ((((mm 73 5) * (10 : Int32)) + r11) - (48 : Int32))) (fun m12 => nm (up2 m12 73 6 ((m12 73 6) + (1 : Int32))) (fun m13 => f4_advance_l166 n  m13))))) else some mm
theorem f4_advance_l166_ok {E : Ev} {l : Launch} {C : Cfg} {x : Mem} (hj : Dj C) (X : Ec E l C rmX4_advance) (B : Bx E RX4 tbX4_advance 2 none) (hQ : Rt E) (hr : Rs E none x) (n : Nat) : ∀ (mm : Mem), f4_advance_l166 n mm = some x → G E 2 166 [(0, .ref 73)] [] mm := by
  induction n with
  | zero =>
    intro mm hf
    rw [f4_advance_l166] at hf
    cases hf
  | succ n ih =>
    intro mm hf
    rw [f4_advance_l166] at hf
    refine z_aload_n B 78 rfl 0 0 rfl rfl ?_
    refine z_geti 4 6 73 B 79 rfl ob_73 rfl (iX4_advance _ (List.mem_of_getElem? (i := 0) rfl)) rfl ?_
    refine z_aload_n B 80 rfl 0 0 rfl rfl ?_
    refine z_getr 4 0 73 B 81 rfl ob_73 rfl (iX4_advance _ (List.mem_of_getElem? (i := 1) rfl)) rfl ?_
    refine z_geti 3 1 74 B 82 rfl ob_74 rfl (iX4_advance _ (List.mem_of_getElem? (i := 2) rfl)) rfl ?_
    by_cases hc : (mm 73 6) < (mm 74 1)
    · replace hf := (if_pos hc).symm.trans hf
      refine z_icmp_ge_f B 83 rfl 267 (by decide) hc ?_
      refine z_aload_n B 84 rfl 0 0 rfl rfl ?_
      refine z_getr 4 0 73 B 85 rfl ob_73 rfl (iX4_advance _ (List.mem_of_getElem? (i := 1) rfl)) rfl ?_
      refine z_getr 3 0 74 B 86 rfl ob_74 rfl (iX4_advance _ (List.mem_of_getElem? (i := 5) rfl)) rfl ?_
      refine z_aload_n B 87 rfl 0 0 rfl rfl ?_
      refine z_geti 4 6 73 B 88 rfl ob_73 rfl (iX4_advance _ (List.mem_of_getElem? (i := 0) rfl)) rfl ?_
      obtain ⟨r9, ec, hf⟩ := bd_e hf
      refine z_callN [.ref 75, .int (mm 73 6)] [] [.int r9] X B 89 rfl miX6_at ⟨List.mem_of_getElem? (i := 11) rfl, (iX4_advance _ (List.mem_of_getElem? (i := 6) rfl))⟩ (ctX6_at hj ob_75 ec) ⟨Nat.le_of_ble_eq_true rfl, Nat.le_of_ble_eq_true rfl⟩ rfl rfl (Nat.le_of_ble_eq_true rfl) rfl ?_
      obtain ⟨r10, ec, hf⟩ := bd_e hf
      refine z_callS [.int r9] [] [.int r10] X B 90 rfl miX4_isDigit ⟨(iX4_advance _ (List.mem_of_getElem? (i := 9) rfl)), (iX4_advance _ (List.mem_of_getElem? (i := 10) rfl))⟩ (ctX4_isDigit hj ec) ⟨Nat.le_of_ble_eq_true rfl, Nat.le_of_ble_eq_true rfl⟩ rfl rfl (Nat.le_of_ble_eq_true rfl) rfl ?_
      by_cases hc : r10 = 0
      · replace hf := (if_pos hc).symm.trans hf
        refine z_if_eq_t B 91 rfl 267 (by decide) hc ?_
        cases hf
        exact z_vret B 128 rfl hQ hr
      · replace hf := (if_neg hc).symm.trans hf
        refine z_if_eq_f B 91 rfl 267 (by decide) hc ?_
        refine z_aload_n B 92 rfl 0 0 rfl rfl ?_
        refine z_aload_n B 93 rfl 0 0 rfl rfl ?_
        refine z_geti 4 5 73 B 94 rfl ob_73 rfl (iX4_advance _ (List.mem_of_getElem? (i := 4) rfl)) rfl ?_
        refine z_bipush 10 B 95 rfl (by decide) ?_
        refine z_imul B 96 rfl ?_
        refine z_aload_n B 97 rfl 0 0 rfl rfl ?_
        refine z_getr 4 0 73 B 98 rfl ob_73 rfl (iX4_advance _ (List.mem_of_getElem? (i := 1) rfl)) rfl ?_
        refine z_getr 3 0 74 B 99 rfl ob_74 rfl (iX4_advance _ (List.mem_of_getElem? (i := 5) rfl)) rfl ?_
        refine z_aload_n B 100 rfl 0 0 rfl rfl ?_
        refine z_geti 4 6 73 B 101 rfl ob_73 rfl (iX4_advance _ (List.mem_of_getElem? (i := 0) rfl)) rfl ?_
        obtain ⟨r11, ec, hf⟩ := bd_e hf
        refine z_callN [.ref 75, .int (mm 73 6)] [.int ((mm 73 5) * (10 : Int32)), .ref 73] [.int r11, .int ((mm 73 5) * (10 : Int32)), .ref 73] X B 102 rfl miX6_at ⟨List.mem_of_getElem? (i := 11) rfl, (iX4_advance _ (List.mem_of_getElem? (i := 6) rfl))⟩ (ctX6_at hj ob_75 ec) ⟨Nat.le_of_ble_eq_true rfl, Nat.le_of_ble_eq_true rfl⟩ rfl rfl (Nat.le_of_ble_eq_true rfl) rfl ?_
        refine z_iadd B 103 rfl ?_
        refine z_bipush 48 B 104 rfl (by decide) ?_
        refine z_isub B 105 rfl ?_
        refine z_puti 4 5 73 B 106 rfl ob_73 rfl (iX4_advance _ (List.mem_of_getElem? (i := 4) rfl)) rfl (ty := .int) (by decide) rfl rfl rfl ?_
        obtain ⟨m12, ex, hf⟩ := nm_x hf
        refine z_mem ex ?_
        refine z_aload_n B 107 rfl 0 0 rfl rfl ?_
        refine z_dup B 108 rfl rfl ?_
        refine z_geti 4 6 73 B 109 rfl ob_73 rfl (iX4_advance _ (List.mem_of_getElem? (i := 0) rfl)) rfl ?_
        refine z_iconst 1 B 110 rfl (by decide) ?_
        refine z_iadd B 111 rfl ?_
        refine z_puti 4 6 73 B 112 rfl ob_73 rfl (iX4_advance _ (List.mem_of_getElem? (i := 0) rfl)) rfl (ty := .int) (by decide) rfl rfl rfl ?_
        obtain ⟨m13, ex, hf⟩ := nm_x hf
        refine z_mem ex ?_
        refine z_goto B 113 rfl 166 (by decide) ?_
        exact ih _ hf
    · replace hf := (if_neg hc).symm.trans hf
      refine z_icmp_ge_t B 83 rfl 267 (by decide) hc ?_
      cases hf
      exact z_vret B 128 rfl hQ hr
def f4_advance_l107 : Nat → Mem → Option Mem
  | 0, _ => none
  | n + 1, mm => if (mm 73 6) < (mm 74 1) then bd (f6_at mm 75 (mm 73 6)) (fun r15 => bd (f4_isLetter mm r15) (fun r16 => if r16 = 0 then some mm else nm (up2 mm 73 6 ((mm 73 6) + (1 : Int32))) (fun m17 => f4_advance_l107 n  m17))) else some mm
theorem f4_advance_l107_ok {E : Ev} {l : Launch} {C : Cfg} {x : Mem} (hj : Dj C) (X : Ec E l C rmX4_advance) (B : Bx E RX4 tbX4_advance 2 none) (hQ : Rt E) (hr : Rs E none x) (n : Nat) : ∀ (mm : Mem), f4_advance_l107 n mm = some x → G E 2 107 [(0, .ref 73)] [] mm := by
  induction n with
  | zero =>
    intro mm hf
    rw [f4_advance_l107] at hf
    cases hf
  | succ n ih =>
    intro mm hf
    rw [f4_advance_l107] at hf
    refine z_aload_n B 51 rfl 0 0 rfl rfl ?_
    refine z_geti 4 6 73 B 52 rfl ob_73 rfl (iX4_advance _ (List.mem_of_getElem? (i := 0) rfl)) rfl ?_
    refine z_aload_n B 53 rfl 0 0 rfl rfl ?_
    refine z_getr 4 0 73 B 54 rfl ob_73 rfl (iX4_advance _ (List.mem_of_getElem? (i := 1) rfl)) rfl ?_
    refine z_geti 3 1 74 B 55 rfl ob_74 rfl (iX4_advance _ (List.mem_of_getElem? (i := 2) rfl)) rfl ?_
    by_cases hc : (mm 73 6) < (mm 74 1)
    · replace hf := (if_pos hc).symm.trans hf
      refine z_icmp_ge_f B 56 rfl 267 (by decide) hc ?_
      refine z_aload_n B 57 rfl 0 0 rfl rfl ?_
      refine z_getr 4 0 73 B 58 rfl ob_73 rfl (iX4_advance _ (List.mem_of_getElem? (i := 1) rfl)) rfl ?_
      refine z_getr 3 0 74 B 59 rfl ob_74 rfl (iX4_advance _ (List.mem_of_getElem? (i := 5) rfl)) rfl ?_
      refine z_aload_n B 60 rfl 0 0 rfl rfl ?_
      refine z_geti 4 6 73 B 61 rfl ob_73 rfl (iX4_advance _ (List.mem_of_getElem? (i := 0) rfl)) rfl ?_
      obtain ⟨r15, ec, hf⟩ := bd_e hf
      refine z_callN [.ref 75, .int (mm 73 6)] [] [.int r15] X B 62 rfl miX6_at ⟨List.mem_of_getElem? (i := 11) rfl, (iX4_advance _ (List.mem_of_getElem? (i := 6) rfl))⟩ (ctX6_at hj ob_75 ec) ⟨Nat.le_of_ble_eq_true rfl, Nat.le_of_ble_eq_true rfl⟩ rfl rfl (Nat.le_of_ble_eq_true rfl) rfl ?_
      obtain ⟨r16, ec, hf⟩ := bd_e hf
      refine z_callS [.int r15] [] [.int r16] X B 63 rfl miX4_isLetter ⟨(iX4_advance _ (List.mem_of_getElem? (i := 7) rfl)), (iX4_advance _ (List.mem_of_getElem? (i := 8) rfl))⟩ (ctX4_isLetter hj ec) ⟨Nat.le_of_ble_eq_true rfl, Nat.le_of_ble_eq_true rfl⟩ rfl rfl (Nat.le_of_ble_eq_true rfl) rfl ?_
      by_cases hc : r16 = 0
      · replace hf := (if_pos hc).symm.trans hf
        refine z_if_eq_t B 64 rfl 267 (by decide) hc ?_
        cases hf
        exact z_vret B 128 rfl hQ hr
      · replace hf := (if_neg hc).symm.trans hf
        refine z_if_eq_f B 64 rfl 267 (by decide) hc ?_
        refine z_aload_n B 65 rfl 0 0 rfl rfl ?_
        refine z_dup B 66 rfl rfl ?_
        refine z_geti 4 6 73 B 67 rfl ob_73 rfl (iX4_advance _ (List.mem_of_getElem? (i := 0) rfl)) rfl ?_
        refine z_iconst 1 B 68 rfl (by decide) ?_
        refine z_iadd B 69 rfl ?_
        refine z_puti 4 6 73 B 70 rfl ob_73 rfl (iX4_advance _ (List.mem_of_getElem? (i := 0) rfl)) rfl (ty := .int) (by decide) rfl rfl rfl ?_
        obtain ⟨m17, ex, hf⟩ := nm_x hf
        refine z_mem ex ?_
        refine z_goto B 71 rfl 107 (by decide) ?_
        exact ih _ hf
    · replace hf := (if_neg hc).symm.trans hf
      refine z_icmp_ge_t B 56 rfl 267 (by decide) hc ?_
      cases hf
      exact z_vret B 128 rfl hQ hr
def f4_advance_j47 (mm : Mem) : Option Mem := nm (up2 mm 73 4 (mm 73 6)) (fun m1 => nm (up2 m1 73 5 (0 : Int32)) (fun m2 => if (m2 73 6) < (m2 74 1) then bd (f6_at m2 75 (m2 73 6)) (fun r3 => bd (f4_isLetter m2 r3) (fun r4 => if r4 = 0 then bd (f4_isDigit m2 r3) (fun r5 => if r5 = 0 then if r3 = (59 : Int32) then f4_advance_j254 (2 : Int32) m2 else f4_advance_j254 (4 : Int32) m2 else nm (up2 m2 73 3 (1 : Int32)) (fun m8 => f4_advance_l166 FU m8)) else nm (up2 m2 73 3 (0 : Int32)) (fun m14 => f4_advance_l107 FU m14))) else nm (up2 m2 73 3 (3 : Int32)) (fun m18 => some m18)))
theorem f4_advance_j47_ok {E : Ev} {l : Launch} {C : Cfg} {x : Mem} (hj : Dj C) (X : Ec E l C rmX4_advance) (B : Bx E RX4 tbX4_advance 2 none) (hQ : Rt E) (hr : Rs E none x) (mm : Mem) (hf : f4_advance_j47 mm = some x) : G E 2 47 [(0, .ref 73)] [] mm := by
  unfold f4_advance_j47 at hf
  refine z_aload_n B 21 rfl 0 0 rfl rfl ?_
  refine z_aload_n B 22 rfl 0 0 rfl rfl ?_
  refine z_geti 4 6 73 B 23 rfl ob_73 rfl (iX4_advance _ (List.mem_of_getElem? (i := 0) rfl)) rfl ?_
  refine z_puti 4 4 73 B 24 rfl ob_73 rfl (iX4_advance _ (List.mem_of_getElem? (i := 3) rfl)) rfl (ty := .int) (by decide) rfl rfl rfl ?_
  obtain ⟨m1, ex, hf⟩ := nm_x hf
  refine z_mem ex ?_
  refine z_aload_n B 25 rfl 0 0 rfl rfl ?_
  refine z_iconst 0 B 26 rfl (by decide) ?_
  refine z_puti 4 5 73 B 27 rfl ob_73 rfl (iX4_advance _ (List.mem_of_getElem? (i := 4) rfl)) rfl (ty := .int) (by decide) rfl rfl rfl ?_
  obtain ⟨m2, ex, hf⟩ := nm_x hf
  refine z_mem ex ?_
  refine z_aload_n B 28 rfl 0 0 rfl rfl ?_
  refine z_geti 4 6 73 B 29 rfl ob_73 rfl (iX4_advance _ (List.mem_of_getElem? (i := 0) rfl)) rfl ?_
  refine z_aload_n B 30 rfl 0 0 rfl rfl ?_
  refine z_getr 4 0 73 B 31 rfl ob_73 rfl (iX4_advance _ (List.mem_of_getElem? (i := 1) rfl)) rfl ?_
  refine z_geti 3 1 74 B 32 rfl ob_74 rfl (iX4_advance _ (List.mem_of_getElem? (i := 2) rfl)) rfl ?_
  by_cases hc : (m2 73 6) < (m2 74 1)
  · replace hf := (if_pos hc).symm.trans hf
    refine z_icmp_lt_t B 33 rfl 80 (by decide) hc ?_
    refine z_aload_n B 38 rfl 0 0 rfl rfl ?_
    refine z_getr 4 0 73 B 39 rfl ob_73 rfl (iX4_advance _ (List.mem_of_getElem? (i := 1) rfl)) rfl ?_
    refine z_getr 3 0 74 B 40 rfl ob_74 rfl (iX4_advance _ (List.mem_of_getElem? (i := 5) rfl)) rfl ?_
    refine z_aload_n B 41 rfl 0 0 rfl rfl ?_
    refine z_geti 4 6 73 B 42 rfl ob_73 rfl (iX4_advance _ (List.mem_of_getElem? (i := 0) rfl)) rfl ?_
    obtain ⟨r3, ec, hf⟩ := bd_e hf
    refine z_callN [.ref 75, .int (m2 73 6)] [] [.int r3] X B 43 rfl miX6_at ⟨List.mem_of_getElem? (i := 11) rfl, (iX4_advance _ (List.mem_of_getElem? (i := 6) rfl))⟩ (ctX6_at hj ob_75 ec) ⟨Nat.le_of_ble_eq_true rfl, Nat.le_of_ble_eq_true rfl⟩ rfl rfl (Nat.le_of_ble_eq_true rfl) rfl ?_
    refine z_istore_n [(1, .int r3), (0, .ref 73)] B 44 rfl 1 rfl (by decide) rfl ?_
    refine z_iload_n B 45 rfl 1 0 rfl rfl ?_
    obtain ⟨r4, ec, hf⟩ := bd_e hf
    refine z_callS [.int r3] [] [.int r4] X B 46 rfl miX4_isLetter ⟨(iX4_advance _ (List.mem_of_getElem? (i := 7) rfl)), (iX4_advance _ (List.mem_of_getElem? (i := 8) rfl))⟩ (ctX4_isLetter hj ec) ⟨Nat.le_of_ble_eq_true rfl, Nat.le_of_ble_eq_true rfl⟩ rfl rfl (Nat.le_of_ble_eq_true rfl) rfl ?_
    by_cases hc : r4 = 0
    · replace hf := (if_pos hc).symm.trans hf
      refine z_if_eq_t B 47 rfl 154 (by decide) hc ?_
      refine z_iload_n B 72 rfl 1 0 rfl rfl ?_
      obtain ⟨r5, ec, hf⟩ := bd_e hf
      refine z_callS [.int r3] [] [.int r5] X B 73 rfl miX4_isDigit ⟨(iX4_advance _ (List.mem_of_getElem? (i := 9) rfl)), (iX4_advance _ (List.mem_of_getElem? (i := 10) rfl))⟩ (ctX4_isDigit hj ec) ⟨Nat.le_of_ble_eq_true rfl, Nat.le_of_ble_eq_true rfl⟩ rfl rfl (Nat.le_of_ble_eq_true rfl) rfl ?_
      by_cases hc : r5 = 0
      · replace hf := (if_pos hc).symm.trans hf
        refine z_if_eq_t B 74 rfl 242 (by decide) hc ?_
        refine z_aload_n B 114 rfl 0 1 rfl rfl ?_
        refine z_iload_n B 115 rfl 1 0 rfl rfl ?_
        refine z_bipush 59 B 116 rfl (by decide) ?_
        by_cases hc : r3 = (59 : Int32)
        · replace hf := (if_pos hc).symm.trans hf
          refine z_icmp_ne_f B 117 rfl 253 (by decide) hc ?_
          refine z_iconst 2 B 118 rfl (by decide) ?_
          refine z_goto B 119 rfl 254 (by decide) ?_
          refine z_sub [(0, .ref 73)] [1] rfl ?_
          exact f4_advance_j254_ok hj X B hQ hr _ _ hf
        · replace hf := (if_neg hc).symm.trans hf
          refine z_icmp_ne_t B 117 rfl 253 (by decide) hc ?_
          refine z_iconst 4 B 120 rfl (by decide) ?_
          refine z_sub [(0, .ref 73)] [1] rfl ?_
          exact f4_advance_j254_ok hj X B hQ hr _ _ hf
      · replace hf := (if_neg hc).symm.trans hf
        refine z_if_eq_f B 74 rfl 242 (by decide) hc ?_
        refine z_aload_n B 75 rfl 0 1 rfl rfl ?_
        refine z_iconst 1 B 76 rfl (by decide) ?_
        refine z_puti 4 3 73 B 77 rfl ob_73 rfl (iX4_advance _ (List.mem_of_getElem? (i := 11) rfl)) rfl (ty := .int) (by decide) rfl rfl rfl ?_
        obtain ⟨m8, ex, hf⟩ := nm_x hf
        refine z_mem ex ?_
        refine z_sub [(0, .ref 73)] [1] rfl ?_
        exact f4_advance_l166_ok hj X B hQ hr FU _ hf
    · replace hf := (if_neg hc).symm.trans hf
      refine z_if_eq_f B 47 rfl 154 (by decide) hc ?_
      refine z_aload_n B 48 rfl 0 1 rfl rfl ?_
      refine z_iconst 0 B 49 rfl (by decide) ?_
      refine z_puti 4 3 73 B 50 rfl ob_73 rfl (iX4_advance _ (List.mem_of_getElem? (i := 11) rfl)) rfl (ty := .int) (by decide) rfl rfl rfl ?_
      obtain ⟨m14, ex, hf⟩ := nm_x hf
      refine z_mem ex ?_
      refine z_sub [(0, .ref 73)] [1] rfl ?_
      exact f4_advance_l107_ok hj X B hQ hr FU _ hf
  · replace hf := (if_neg hc).symm.trans hf
    refine z_icmp_lt_f B 33 rfl 80 (by decide) hc ?_
    refine z_aload_n B 34 rfl 0 0 rfl rfl ?_
    refine z_iconst 3 B 35 rfl (by decide) ?_
    refine z_puti 4 3 73 B 36 rfl ob_73 rfl (iX4_advance _ (List.mem_of_getElem? (i := 11) rfl)) rfl (ty := .int) (by decide) rfl rfl rfl ?_
    obtain ⟨m18, ex, hf⟩ := nm_x hf
    refine z_mem ex ?_
    cases hf
    exact z_vret B 37 rfl hQ hr
def f4_advance_l0 : Nat → Mem → Option Mem
  | 0, _ => none
  | n + 1, mm => if (mm 73 6) < (mm 74 1) then bd (f6_at mm 75 (mm 73 6)) (fun r19 => bd (f4_isBlank mm r19) (fun r20 => if r20 = 0 then f4_advance_j47 mm else nm (up2 mm 73 6 ((mm 73 6) + (1 : Int32))) (fun m21 => f4_advance_l0 n  m21))) else f4_advance_j47 mm
theorem f4_advance_l0_ok {E : Ev} {l : Launch} {C : Cfg} {x : Mem} (hj : Dj C) (X : Ec E l C rmX4_advance) (B : Bx E RX4 tbX4_advance 2 none) (hQ : Rt E) (hr : Rs E none x) (n : Nat) : ∀ (mm : Mem), f4_advance_l0 n mm = some x → G E 2 0 [(0, .ref 73)] [] mm := by
  induction n with
  | zero =>
    intro mm hf
    rw [f4_advance_l0] at hf
    cases hf
  | succ n ih =>
    intro mm hf
    rw [f4_advance_l0] at hf
    refine z_aload_n B 0 rfl 0 0 rfl rfl ?_
    refine z_geti 4 6 73 B 1 rfl ob_73 rfl (iX4_advance _ (List.mem_of_getElem? (i := 0) rfl)) rfl ?_
    refine z_aload_n B 2 rfl 0 0 rfl rfl ?_
    refine z_getr 4 0 73 B 3 rfl ob_73 rfl (iX4_advance _ (List.mem_of_getElem? (i := 1) rfl)) rfl ?_
    refine z_geti 3 1 74 B 4 rfl ob_74 rfl (iX4_advance _ (List.mem_of_getElem? (i := 2) rfl)) rfl ?_
    by_cases hc : (mm 73 6) < (mm 74 1)
    · replace hf := (if_pos hc).symm.trans hf
      refine z_icmp_ge_f B 5 rfl 47 (by decide) hc ?_
      refine z_aload_n B 6 rfl 0 0 rfl rfl ?_
      refine z_getr 4 0 73 B 7 rfl ob_73 rfl (iX4_advance _ (List.mem_of_getElem? (i := 1) rfl)) rfl ?_
      refine z_getr 3 0 74 B 8 rfl ob_74 rfl (iX4_advance _ (List.mem_of_getElem? (i := 5) rfl)) rfl ?_
      refine z_aload_n B 9 rfl 0 0 rfl rfl ?_
      refine z_geti 4 6 73 B 10 rfl ob_73 rfl (iX4_advance _ (List.mem_of_getElem? (i := 0) rfl)) rfl ?_
      obtain ⟨r19, ec, hf⟩ := bd_e hf
      refine z_callN [.ref 75, .int (mm 73 6)] [] [.int r19] X B 11 rfl miX6_at ⟨List.mem_of_getElem? (i := 11) rfl, (iX4_advance _ (List.mem_of_getElem? (i := 6) rfl))⟩ (ctX6_at hj ob_75 ec) ⟨Nat.le_of_ble_eq_true rfl, Nat.le_of_ble_eq_true rfl⟩ rfl rfl (Nat.le_of_ble_eq_true rfl) rfl ?_
      obtain ⟨r20, ec, hf⟩ := bd_e hf
      refine z_callS [.int r19] [] [.int r20] X B 12 rfl miX4_isBlank ⟨(iX4_advance _ (List.mem_of_getElem? (i := 12) rfl)), (iX4_advance _ (List.mem_of_getElem? (i := 13) rfl))⟩ (ctX4_isBlank hj ec) ⟨Nat.le_of_ble_eq_true rfl, Nat.le_of_ble_eq_true rfl⟩ rfl rfl (Nat.le_of_ble_eq_true rfl) rfl ?_
      by_cases hc : r20 = 0
      · replace hf := (if_pos hc).symm.trans hf
        refine z_if_eq_t B 13 rfl 47 (by decide) hc ?_
        exact f4_advance_j47_ok hj X B hQ hr _ hf
      · replace hf := (if_neg hc).symm.trans hf
        refine z_if_eq_f B 13 rfl 47 (by decide) hc ?_
        refine z_aload_n B 14 rfl 0 0 rfl rfl ?_
        refine z_dup B 15 rfl rfl ?_
        refine z_geti 4 6 73 B 16 rfl ob_73 rfl (iX4_advance _ (List.mem_of_getElem? (i := 0) rfl)) rfl ?_
        refine z_iconst 1 B 17 rfl (by decide) ?_
        refine z_iadd B 18 rfl ?_
        refine z_puti 4 6 73 B 19 rfl ob_73 rfl (iX4_advance _ (List.mem_of_getElem? (i := 0) rfl)) rfl (ty := .int) (by decide) rfl rfl rfl ?_
        obtain ⟨m21, ex, hf⟩ := nm_x hf
        refine z_mem ex ?_
        refine z_goto B 20 rfl 0 (by decide) ?_
        exact ih _ hf
    · replace hf := (if_neg hc).symm.trans hf
      refine z_icmp_ge_t B 5 rfl 47 (by decide) hc ?_
      exact f4_advance_j47_ok hj X B hQ hr _ hf
def f4_advance (mm : Mem) : Option Mem := f4_advance_l0 FU mm
theorem ctX4_advance {l : Launch} {C : Cfg} (hj : Dj C) {mm : Mem} {x : Mem} (hf : f4_advance mm = some x) : Ct l C yX4_advance cX4_advance 2 none 1 21 [.ref 73] mm none x := by
  refine Ct.of (tb := tbX4_advance) hj miX4_advance.2.1 miX4_advance.1 dtX4_advance (Nat.le_of_ble_eq_true rfl) ?_
  intro E B hQ hr X
  unfold f4_advance at hf
  show G E 2 0 [(0, .ref 73)] [] mm
  exact f4_advance_l0_ok hj X B hQ hr FU _ hf
/-! ZoneCapacity$Teller.isWord(Ljava/lang/String;)Z -/
def tbX4_isWord : Tb := [(0, .aload_n 1, 1, 1), (1, .ifnull 26, 3, 4), (4, .aload_n 0, 1, 5), (5, .getfield 35, 3, 8), (8, .ifCond .ne 19, 3, 11), (11, .aload_n 0, 1, 12), (12, .getfield 29, 3, 15), (15, .aload_n 0, 1, 16), (16, .getfield 81, 3, 19), (19, .isub, 1, 20), (20, .aload_n 1, 1, 21), (21, .invokevirtual 173, 3, 24), (24, .if_icmp .eq 5, 3, 27), (27, .iconst 0, 1, 28), (28, .ireturn, 1, 29), (29, .iconst 0, 1, 30), (30, .istore_n 2, 1, 31), (31, .iload_n 2, 1, 32), (32, .aload_n 1, 1, 33), (33, .invokevirtual 173, 3, 36), (36, .if_icmp .ge 35, 3, 39), (39, .aload_n 1, 1, 40), (40, .iload_n 2, 1, 41), (41, .invokevirtual 179, 3, 44), (44, .aload_n 0, 1, 45), (45, .getfield 12, 3, 48), (48, .getfield 183, 3, 51), (51, .aload_n 0, 1, 52), (52, .getfield 81, 3, 55), (55, .iload_n 2, 1, 56), (56, .iadd, 1, 57), (57, .invokestatic 186, 3, 60), (60, .if_icmp .eq 5, 3, 63), (63, .iconst 0, 1, 64), (64, .ireturn, 1, 65), (65, .iinc 2 1, 3, 68), (68, .goto (-37), 3, 71), (71, .iconst 1, 1, 72), (72, .ireturn, 1, 73)]
theorem dtX4_isWord : ∀ q ∈ tbX4_isWord, decode cX4_isWord q.1 = .ok (q.2.1, q.2.2.1) ∧ q.1 + q.2.2.1 = q.2.2.2 := by decide +kernel
theorem miX4_isWord : MI yX4_isWord cX4_isWord 3 (some .boolean) 1 := ⟨tw_mem (List.mem_of_getElem? (i := 405) (by decide +kernel)) rfl, by decide, by decide +kernel, tw_mem (List.mem_of_getElem? (i := 76) (by decide +kernel)) rfl⟩
abbrev rmX4_isWord : Room := { frames := 4, cells := 0, slots := 0, locals := 85 }
def wX4_isWord : List Cond := [.fieldLink "ZoneCapacity$Teller" 35 "ZoneCapacity$Teller" "token" "I", .fieldLink "ZoneCapacity$Teller" 29 "ZoneCapacity$Teller" "next" "I", .fieldLink "ZoneCapacity$Teller" 81 "ZoneCapacity$Teller" "place" "I", .methodLink "ZoneCapacity$Teller" 173 ⟨"java/lang/String", "length", "()I"⟩, .instanceMethod ⟨"java/lang/String", "length", "()I"⟩, .selects "java/lang/String" ⟨"java/lang/String", "length", "()I"⟩ ⟨"java/lang/String", "length", "()I"⟩, .methodLink "ZoneCapacity$Teller" 179 ⟨"java/lang/String", "charAt", "(I)C"⟩, .instanceMethod ⟨"java/lang/String", "charAt", "(I)C"⟩, .selects "java/lang/String" ⟨"java/lang/String", "charAt", "(I)C"⟩ ⟨"java/lang/String", "charAt", "(I)C"⟩, .fieldLink "ZoneCapacity$Teller" 12 "ZoneCapacity$Teller" "tape" "LZoneCapacity$Tape;", .fieldLink "ZoneCapacity$Teller" 183 "ZoneCapacity$Tape" "bytes" "[I", .static yX6_at]
theorem iX4_isWord : ∀ w ∈ wX4_isWord, w ∈ TW := tw_of (ids := [293, 296, 294, 406, 407, 408, 416, 417, 418, 287, 276, 386]) (by decide +kernel)
def f4_isWord_l31 (mm : Mem) : Nat → Nat → Int32 → Option Int32
  | 0, _, _ => none
  | n + 1, x1, x2 => if x2 < (nI (slen x1)) then rds x1 x2 (nm (sch x1 x2) (fun v1 => bd (f6_at mm 75 ((mm 73 4) + x2)) (fun r2 => if v1 = r2 then nm (x2 + 1) (fun v3 => f4_isWord_l31 mm n x1 v3) else some ((0 : Int32))))) else some ((1 : Int32))
theorem f4_isWord_l31_ok {E : Ev} {l : Launch} {C : Cfg} {mm : Mem} {x : Int32} (hj : Dj C) (X : Ec E l C rmX4_isWord) (B : Bx E RX4 tbX4_isWord 3 (some .boolean)) (hQ : Rt E) (hr : Rs E (some (.int x)) mm) (n : Nat) : ∀ (x1 : Nat) (x2 : Int32), So x1 → f4_isWord_l31 mm n x1 x2 = some x → G E 3 31 [(0, .ref 73), (1, .ref x1), (2, .int x2)] [] mm := by
  induction n with
  | zero =>
    intro x1 x2 o_x1 hf
    rw [f4_isWord_l31] at hf
    cases hf
  | succ n ih =>
    intro x1 x2 o_x1 hf
    rw [f4_isWord_l31] at hf
    refine z_iload_n B 17 rfl 2 2 rfl rfl ?_
    refine z_aload_n B 18 rfl 1 1 rfl rfl ?_
    refine z_slen x1 X B hj 19 rfl o_x1 ⟨(iX4_isWord _ (List.mem_of_getElem? (i := 3) rfl)), (iX4_isWord _ (List.mem_of_getElem? (i := 4) rfl)), (iX4_isWord _ (List.mem_of_getElem? (i := 5) rfl))⟩ ⟨Nat.le_of_ble_eq_true rfl, Nat.le_of_ble_eq_true rfl⟩ (Nat.le_of_ble_eq_true rfl) ?_
    by_cases hc : x2 < (nI (slen x1))
    · replace hf := (if_pos hc).symm.trans hf
      refine z_icmp_ge_f B 20 rfl 71 (by decide) hc ?_
      refine z_aload_n B 21 rfl 1 1 rfl rfl ?_
      refine z_iload_n B 22 rfl 2 2 rfl rfl ?_
      obtain ⟨hx, hf⟩ := rds_e hf
      refine z_scha x1 X B hj 23 rfl o_x1 hx ⟨(iX4_isWord _ (List.mem_of_getElem? (i := 6) rfl)), (iX4_isWord _ (List.mem_of_getElem? (i := 7) rfl)), (iX4_isWord _ (List.mem_of_getElem? (i := 8) rfl))⟩ ⟨Nat.le_of_ble_eq_true rfl, Nat.le_of_ble_eq_true rfl⟩ (Nat.le_of_ble_eq_true rfl) ?_
      obtain ⟨v1, ex, hf⟩ := nm_x hf
      refine z_top ex ?_
      refine z_aload_n B 24 rfl 0 0 rfl rfl ?_
      refine z_getr 4 0 73 B 25 rfl ob_73 rfl (iX4_isWord _ (List.mem_of_getElem? (i := 9) rfl)) rfl ?_
      refine z_getr 3 0 74 B 26 rfl ob_74 rfl (iX4_isWord _ (List.mem_of_getElem? (i := 10) rfl)) rfl ?_
      refine z_aload_n B 27 rfl 0 0 rfl rfl ?_
      refine z_geti 4 4 73 B 28 rfl ob_73 rfl (iX4_isWord _ (List.mem_of_getElem? (i := 2) rfl)) rfl ?_
      refine z_iload_n B 29 rfl 2 2 rfl rfl ?_
      refine z_iadd B 30 rfl ?_
      obtain ⟨r2, ec, hf⟩ := bd_e hf
      refine z_callN [.ref 75, .int ((mm 73 4) + x2)] [.int v1] [.int r2, .int v1] X B 31 rfl miX6_at ⟨List.mem_of_getElem? (i := 11) rfl, (iX4_isWord _ (List.mem_of_getElem? (i := 11) rfl))⟩ (ctX6_at hj ob_75 ec) ⟨Nat.le_of_ble_eq_true rfl, Nat.le_of_ble_eq_true rfl⟩ rfl rfl (Nat.le_of_ble_eq_true rfl) rfl ?_
      by_cases hc : v1 = r2
      · replace hf := (if_pos hc).symm.trans hf
        refine z_icmp_eq_t B 32 rfl 65 (by decide) hc ?_
        obtain ⟨v3, ex, hf⟩ := nm_x hf
        refine z_iinc v3 [(2, .int v3), (0, .ref 73), (1, .ref x1)] B 35 rfl 2 rfl (ex.symm) (by decide) rfl ?_
        refine z_goto B 36 rfl 31 (by decide) ?_
        refine z_sub [(0, .ref 73), (1, .ref x1), (2, .int v3)] [1, 2, 0] rfl ?_
        exact ih _ _ o_x1  hf
      · replace hf := (if_neg hc).symm.trans hf
        refine z_icmp_eq_f B 32 rfl 65 (by decide) hc ?_
        refine z_iconst 0 B 33 rfl (by decide) ?_
        cases hf
        exact z_iret B 34 rfl (by decide) hQ hr
    · replace hf := (if_neg hc).symm.trans hf
      refine z_icmp_ge_t B 20 rfl 71 (by decide) hc ?_
      refine z_iconst 1 B 37 rfl (by decide) ?_
      cases hf
      exact z_iret B 38 rfl (by decide) hQ hr
def f4_isWord (mm : Mem) (a1 : Nat) : Option Int32 := if (mm 73 3) = 0 then if ((mm 73 6) - (mm 73 4)) = (nI (slen a1)) then f4_isWord_l31 mm FU a1 (0 : Int32) else some ((0 : Int32)) else some ((0 : Int32))
theorem ctX4_isWord {l : Launch} {C : Cfg} (hj : Dj C) {mm : Mem} {a1 : Nat} {x : Int32} (o_a1 : So a1) (hf : f4_isWord mm a1 = some x) : Ct l C yX4_isWord cX4_isWord 3 (some .boolean) 4 85 [.ref 73, .ref a1] mm (some (.int x)) mm := by
  refine Ct.of (tb := tbX4_isWord) hj miX4_isWord.2.1 miX4_isWord.1 dtX4_isWord (Nat.le_of_ble_eq_true rfl) ?_
  intro E B hQ hr X
  unfold f4_isWord at hf
  show G E 3 0 [(0, .ref 73), (1, .ref a1)] [] mm
  refine z_aload_n B 0 rfl 1 1 rfl rfl ?_
  refine z_ifnull B 1 rfl ?_
  refine z_aload_n B 2 rfl 0 0 rfl rfl ?_
  refine z_geti 4 3 73 B 3 rfl ob_73 rfl (iX4_isWord _ (List.mem_of_getElem? (i := 0) rfl)) rfl ?_
  by_cases hc : (mm 73 3) = 0
  · replace hf := (if_pos hc).symm.trans hf
    refine z_if_ne_f B 4 rfl 27 (by decide) hc ?_
    refine z_aload_n B 5 rfl 0 0 rfl rfl ?_
    refine z_geti 4 6 73 B 6 rfl ob_73 rfl (iX4_isWord _ (List.mem_of_getElem? (i := 1) rfl)) rfl ?_
    refine z_aload_n B 7 rfl 0 0 rfl rfl ?_
    refine z_geti 4 4 73 B 8 rfl ob_73 rfl (iX4_isWord _ (List.mem_of_getElem? (i := 2) rfl)) rfl ?_
    refine z_isub B 9 rfl ?_
    refine z_aload_n B 10 rfl 1 1 rfl rfl ?_
    refine z_slen a1 X B hj 11 rfl o_a1 ⟨(iX4_isWord _ (List.mem_of_getElem? (i := 3) rfl)), (iX4_isWord _ (List.mem_of_getElem? (i := 4) rfl)), (iX4_isWord _ (List.mem_of_getElem? (i := 5) rfl))⟩ ⟨Nat.le_of_ble_eq_true rfl, Nat.le_of_ble_eq_true rfl⟩ (Nat.le_of_ble_eq_true rfl) ?_
    by_cases hc : ((mm 73 6) - (mm 73 4)) = (nI (slen a1))
    · replace hf := (if_pos hc).symm.trans hf
      refine z_icmp_eq_t B 12 rfl 29 (by decide) hc ?_
      refine z_iconst 0 B 15 rfl (by decide) ?_
      refine z_istore_n [(2, .int (0 : Int32)), (0, .ref 73), (1, .ref a1)] B 16 rfl 2 rfl (by decide) rfl ?_
      refine z_sub [(0, .ref 73), (1, .ref a1), (2, .int (0 : Int32))] [1, 2, 0] rfl ?_
      exact f4_isWord_l31_ok hj X B hQ hr FU _ _ o_a1  hf
    · replace hf := (if_neg hc).symm.trans hf
      refine z_icmp_eq_f B 12 rfl 29 (by decide) hc ?_
      refine z_iconst 0 B 13 rfl (by decide) ?_
      cases hf
      exact z_iret B 14 rfl (by decide) hQ hr
  · replace hf := (if_neg hc).symm.trans hf
    refine z_if_ne_t B 4 rfl 27 (by decide) hc ?_
    refine z_iconst 0 B 13 rfl (by decide) ?_
    cases hf
    exact z_iret B 14 rfl (by decide) hQ hr
/-! ZoneCapacity$Teller.blame(II)Z -/
def tbX4_blame : Tb := [(0, .aload_n 0, 1, 1), (1, .iload_n 1, 1, 2), (2, .bipush 8, 2, 4), (4, .iload_n 2, 1, 5), (5, .imul, 1, 6), (6, .iadd, 1, 7), (7, .putfield 25, 3, 10), (10, .iconst 0, 1, 11), (11, .ireturn, 1, 12)]
theorem dtX4_blame : ∀ q ∈ tbX4_blame, decode cX4_blame q.1 = .ok (q.2.1, q.2.2.1) ∧ q.1 + q.2.2.1 = q.2.2.2 := by decide +kernel
theorem miX4_blame : MI yX4_blame cX4_blame 3 (some .boolean) 2 := ⟨tw_mem (List.mem_of_getElem? (i := 461) (by decide +kernel)) rfl, by decide, by decide +kernel, tw_mem (List.mem_of_getElem? (i := 76) (by decide +kernel)) rfl⟩
abbrev rmX4_blame : Room := { frames := 0, cells := 0, slots := 0, locals := 0 }
def wX4_blame : List Cond := [.fieldLink "ZoneCapacity$Teller" 25 "ZoneCapacity$Teller" "fault" "I"]
theorem iX4_blame : ∀ w ∈ wX4_blame, w ∈ TW := tw_of (ids := [291]) (by decide +kernel)
def f4_blame (mm : Mem) (a1 : Int32) (a2 : Int32) : Option (Int32 × Mem) := nm (up2 mm 73 2 (a1 + ((8 : Int32) * a2))) (fun m1 => some ((0 : Int32), m1))
theorem ctX4_blame {l : Launch} {C : Cfg} (hj : Dj C) {mm : Mem} {a1 : Int32} {a2 : Int32} {x : (Int32 × Mem)} (hf : f4_blame mm a1 a2 = some x) : Ct l C yX4_blame cX4_blame 3 (some .boolean) 0 0 [.ref 73, .int a1, .int a2] mm (some (.int x.1)) x.2 := by
  refine Ct.of (tb := tbX4_blame) hj miX4_blame.2.1 miX4_blame.1 dtX4_blame (Nat.le_of_ble_eq_true rfl) ?_
  intro E B hQ hr X
  unfold f4_blame at hf
  show G E 3 0 [(0, .ref 73), (1, .int a1), (2, .int a2)] [] mm
  refine z_aload_n B 0 rfl 0 0 rfl rfl ?_
  refine z_iload_n B 1 rfl 1 1 rfl rfl ?_
  refine z_bipush 8 B 2 rfl (by decide) ?_
  refine z_iload_n B 3 rfl 2 2 rfl rfl ?_
  refine z_imul B 4 rfl ?_
  refine z_iadd B 5 rfl ?_
  refine z_puti 4 2 73 B 6 rfl ob_73 rfl (iX4_blame _ (List.mem_of_getElem? (i := 0) rfl)) rfl (ty := .int) (by decide) rfl rfl rfl ?_
  obtain ⟨m1, ex, hf⟩ := nm_x hf
  refine z_mem ex ?_
  refine z_iconst 0 B 7 rfl (by decide) ?_
  cases hf
  exact z_iret B 8 rfl (by decide) hQ hr
/-! ZoneCapacity$Teller.takeNumber(II)Z -/
def tbX4_takeNumber : Tb := [(0, .aload_n 0, 1, 1), (1, .getfield 35, 3, 4), (4, .iconst 1, 1, 5), (5, .if_icmp .ne 16, 3, 8), (8, .aload_n 0, 1, 9), (9, .getfield 29, 3, 12), (12, .aload_n 0, 1, 13), (13, .getfield 81, 3, 16), (16, .isub, 1, 17), (17, .iconst 4, 1, 18), (18, .if_icmp .le 13, 3, 21), (21, .aload_n 0, 1, 22), (22, .iconst 1, 1, 23), (23, .aload_n 0, 1, 24), (24, .getfield 81, 3, 27), (27, .invokevirtual 84, 3, 30), (30, .ireturn, 1, 31), (31, .aload_n 0, 1, 32), (32, .getfield 166, 3, 35), (35, .iload_n 1, 1, 36), (36, .iload_n 2, 1, 37), (37, .invokestatic 169, 3, 40), (40, .ifCond .ne 13, 3, 43), (43, .aload_n 0, 1, 44), (44, .iconst 2, 1, 45), (45, .aload_n 0, 1, 46), (46, .getfield 81, 3, 49), (49, .invokevirtual 84, 3, 52), (52, .ireturn, 1, 53), (53, .aload_n 0, 1, 54), (54, .aload_n 0, 1, 55), (55, .getfield 166, 3, 58), (58, .putfield 100, 3, 61), (61, .aload_n 0, 1, 62), (62, .invokevirtual 32, 3, 65), (65, .iconst 1, 1, 66), (66, .ireturn, 1, 67)]
theorem dtX4_takeNumber : ∀ q ∈ tbX4_takeNumber, decode cX4_takeNumber q.1 = .ok (q.2.1, q.2.2.1) ∧ q.1 + q.2.2.1 = q.2.2.2 := by decide +kernel
theorem miX4_takeNumber : MI yX4_takeNumber cX4_takeNumber 3 (some .boolean) 2 := ⟨tw_mem (List.mem_of_getElem? (i := 465) (by decide +kernel)) rfl, by decide, by decide +kernel, tw_mem (List.mem_of_getElem? (i := 76) (by decide +kernel)) rfl⟩
abbrev rmX4_takeNumber : Room := { frames := 2, cells := 0, slots := 0, locals := 42 }
def wX4_takeNumber : List Cond := [.fieldLink "ZoneCapacity$Teller" 35 "ZoneCapacity$Teller" "token" "I", .fieldLink "ZoneCapacity$Teller" 81 "ZoneCapacity$Teller" "place" "I", .methodLink "ZoneCapacity$Teller" 84 yX4_blame, .instanceMethod yX4_blame, .selects "ZoneCapacity$Teller" yX4_blame yX4_blame, .fieldLink "ZoneCapacity$Teller" 29 "ZoneCapacity$Teller" "next" "I", .fieldLink "ZoneCapacity$Teller" 166 "ZoneCapacity$Teller" "number" "I", .static yX6_within, .fieldLink "ZoneCapacity$Teller" 100 "ZoneCapacity$Teller" "got" "I", .methodLink "ZoneCapacity$Teller" 32 yX4_advance, .instanceMethod yX4_advance, .selects "ZoneCapacity$Teller" yX4_advance yX4_advance]
theorem iX4_takeNumber : ∀ w ∈ wX4_takeNumber, w ∈ TW := tw_of (ids := [293, 294, 458, 460, 4, 296, 295, 355, 297, 381, 383, 0]) (by decide +kernel)
def f4_takeNumber_j21 (mm : Mem) : Option (Int32 × Mem) := bd (f4_blame mm (1 : Int32) (mm 73 4)) (fun r1 => bok r1.1 (some (r1.1, r1.2)))
theorem f4_takeNumber_j21_ok {E : Ev} {l : Launch} {C : Cfg} {x : (Int32 × Mem)} (hj : Dj C) (X : Ec E l C rmX4_takeNumber) (B : Bx E RX4 tbX4_takeNumber 3 (some .boolean)) (hQ : Rt E) (hr : Rs E (some (.int x.1)) x.2) (mm : Mem) (hf : f4_takeNumber_j21 mm = some x) : G E 3 21 [(0, .ref 73)] [] mm := by
  unfold f4_takeNumber_j21 at hf
  refine z_aload_n B 11 rfl 0 0 rfl rfl ?_
  refine z_iconst 1 B 12 rfl (by decide) ?_
  refine z_aload_n B 13 rfl 0 0 rfl rfl ?_
  refine z_geti 4 4 73 B 14 rfl ob_73 rfl (iX4_takeNumber _ (List.mem_of_getElem? (i := 1) rfl)) rfl ?_
  obtain ⟨r1, ec, hf⟩ := bd_e hf
  refine z_callV 73 4 [.int (1 : Int32), .int (mm 73 4)] [] [.int r1.1] X B 15 rfl ob_73 rfl rfl miX4_blame ⟨(iX4_takeNumber _ (List.mem_of_getElem? (i := 2) rfl)), (iX4_takeNumber _ (List.mem_of_getElem? (i := 3) rfl)), (iX4_takeNumber _ (List.mem_of_getElem? (i := 4) rfl))⟩ (ctX4_blame hj ec) ⟨Nat.le_of_ble_eq_true rfl, Nat.le_of_ble_eq_true rfl⟩ rfl rfl (Nat.le_of_ble_eq_true rfl) rfl ?_
  obtain ⟨hb, hf⟩ := bok_e hf
  cases hf
  exact z_iret B 16 rfl (bok_n hb) hQ hr
def f4_takeNumber (mm : Mem) (a1 : Int32) (a2 : Int32) : Option (Int32 × Mem) := if (mm 73 3) = (1 : Int32) then if (4 : Int32) < ((mm 73 6) - (mm 73 4)) then f4_takeNumber_j21 mm else bd (f6_within mm (mm 73 5) a1 a2) (fun r2 => if r2 = 0 then bd (f4_blame mm (2 : Int32) (mm 73 4)) (fun r5 => bok r5.1 (some (r5.1, r5.2))) else nm (up2 mm 73 7 (mm 73 5)) (fun m3 => bd (f4_advance m3) (fun r4 => some ((1 : Int32), r4)))) else f4_takeNumber_j21 mm
theorem ctX4_takeNumber {l : Launch} {C : Cfg} (hj : Dj C) {mm : Mem} {a1 : Int32} {a2 : Int32} {x : (Int32 × Mem)} (hf : f4_takeNumber mm a1 a2 = some x) : Ct l C yX4_takeNumber cX4_takeNumber 3 (some .boolean) 2 42 [.ref 73, .int a1, .int a2] mm (some (.int x.1)) x.2 := by
  refine Ct.of (tb := tbX4_takeNumber) hj miX4_takeNumber.2.1 miX4_takeNumber.1 dtX4_takeNumber (Nat.le_of_ble_eq_true rfl) ?_
  intro E B hQ hr X
  unfold f4_takeNumber at hf
  show G E 3 0 [(0, .ref 73), (1, .int a1), (2, .int a2)] [] mm
  refine z_aload_n B 0 rfl 0 0 rfl rfl ?_
  refine z_geti 4 3 73 B 1 rfl ob_73 rfl (iX4_takeNumber _ (List.mem_of_getElem? (i := 0) rfl)) rfl ?_
  refine z_iconst 1 B 2 rfl (by decide) ?_
  by_cases hc : (mm 73 3) = (1 : Int32)
  · replace hf := (if_pos hc).symm.trans hf
    refine z_icmp_ne_f B 3 rfl 21 (by decide) hc ?_
    refine z_aload_n B 4 rfl 0 0 rfl rfl ?_
    refine z_geti 4 6 73 B 5 rfl ob_73 rfl (iX4_takeNumber _ (List.mem_of_getElem? (i := 5) rfl)) rfl ?_
    refine z_aload_n B 6 rfl 0 0 rfl rfl ?_
    refine z_geti 4 4 73 B 7 rfl ob_73 rfl (iX4_takeNumber _ (List.mem_of_getElem? (i := 1) rfl)) rfl ?_
    refine z_isub B 8 rfl ?_
    refine z_iconst 4 B 9 rfl (by decide) ?_
    by_cases hc : (4 : Int32) < ((mm 73 6) - (mm 73 4))
    · replace hf := (if_pos hc).symm.trans hf
      refine z_icmp_le_f B 10 rfl 31 (by decide) hc ?_
      refine z_sub [(0, .ref 73)] [0] rfl ?_
      exact f4_takeNumber_j21_ok hj X B hQ hr _ hf
    · replace hf := (if_neg hc).symm.trans hf
      refine z_icmp_le_t B 10 rfl 31 (by decide) hc ?_
      refine z_aload_n B 17 rfl 0 0 rfl rfl ?_
      refine z_geti 4 5 73 B 18 rfl ob_73 rfl (iX4_takeNumber _ (List.mem_of_getElem? (i := 6) rfl)) rfl ?_
      refine z_iload_n B 19 rfl 1 1 rfl rfl ?_
      refine z_iload_n B 20 rfl 2 2 rfl rfl ?_
      obtain ⟨r2, ec, hf⟩ := bd_e hf
      refine z_callN [.int (mm 73 5), .int a1, .int a2] [] [.int r2] X B 21 rfl miX6_within ⟨List.mem_of_getElem? (i := 12) rfl, (iX4_takeNumber _ (List.mem_of_getElem? (i := 7) rfl))⟩ (ctX6_within hj ec) ⟨Nat.le_of_ble_eq_true rfl, Nat.le_of_ble_eq_true rfl⟩ rfl rfl (Nat.le_of_ble_eq_true rfl) rfl ?_
      by_cases hc : r2 = 0
      · replace hf := (if_pos hc).symm.trans hf
        refine z_if_ne_f B 22 rfl 53 (by decide) hc ?_
        refine z_aload_n B 23 rfl 0 0 rfl rfl ?_
        refine z_iconst 2 B 24 rfl (by decide) ?_
        refine z_aload_n B 25 rfl 0 0 rfl rfl ?_
        refine z_geti 4 4 73 B 26 rfl ob_73 rfl (iX4_takeNumber _ (List.mem_of_getElem? (i := 1) rfl)) rfl ?_
        obtain ⟨r5, ec, hf⟩ := bd_e hf
        refine z_callV 73 4 [.int (2 : Int32), .int (mm 73 4)] [] [.int r5.1] X B 27 rfl ob_73 rfl rfl miX4_blame ⟨(iX4_takeNumber _ (List.mem_of_getElem? (i := 2) rfl)), (iX4_takeNumber _ (List.mem_of_getElem? (i := 3) rfl)), (iX4_takeNumber _ (List.mem_of_getElem? (i := 4) rfl))⟩ (ctX4_blame hj ec) ⟨Nat.le_of_ble_eq_true rfl, Nat.le_of_ble_eq_true rfl⟩ rfl rfl (Nat.le_of_ble_eq_true rfl) rfl ?_
        obtain ⟨hb, hf⟩ := bok_e hf
        cases hf
        exact z_iret B 28 rfl (bok_n hb) hQ hr
      · replace hf := (if_neg hc).symm.trans hf
        refine z_if_ne_t B 22 rfl 53 (by decide) hc ?_
        refine z_aload_n B 29 rfl 0 0 rfl rfl ?_
        refine z_aload_n B 30 rfl 0 0 rfl rfl ?_
        refine z_geti 4 5 73 B 31 rfl ob_73 rfl (iX4_takeNumber _ (List.mem_of_getElem? (i := 6) rfl)) rfl ?_
        refine z_puti 4 7 73 B 32 rfl ob_73 rfl (iX4_takeNumber _ (List.mem_of_getElem? (i := 8) rfl)) rfl (ty := .int) (by decide) rfl rfl rfl ?_
        obtain ⟨m3, ex, hf⟩ := nm_x hf
        refine z_mem ex ?_
        refine z_aload_n B 33 rfl 0 0 rfl rfl ?_
        obtain ⟨r4, ec, hf⟩ := bd_e hf
        refine z_callV 73 4 [] [] [] X B 34 rfl ob_73 rfl rfl miX4_advance ⟨(iX4_takeNumber _ (List.mem_of_getElem? (i := 9) rfl)), (iX4_takeNumber _ (List.mem_of_getElem? (i := 10) rfl)), (iX4_takeNumber _ (List.mem_of_getElem? (i := 11) rfl))⟩ (ctX4_advance hj ec) ⟨Nat.le_of_ble_eq_true rfl, Nat.le_of_ble_eq_true rfl⟩ rfl rfl (Nat.le_of_ble_eq_true rfl) rfl ?_
        refine z_iconst 1 B 35 rfl (by decide) ?_
        cases hf
        exact z_iret B 36 rfl (by decide) hQ hr
  · replace hf := (if_neg hc).symm.trans hf
    refine z_icmp_ne_t B 3 rfl 21 (by decide) hc ?_
    refine z_sub [(0, .ref 73)] [0] rfl ?_
    exact f4_takeNumber_j21_ok hj X B hQ hr _ hf
/-! ZoneCapacity$Zones.add(III)I -/
def tbX5_add : Tb := [(0, .aload_n 0, 1, 1), (1, .getfield 9, 3, 4), (4, .istore 4, 2, 6), (6, .aload_n 0, 1, 7), (7, .getfield 15, 3, 10), (10, .iload 4, 2, 12), (12, .iload_n 1, 1, 13), (13, .invokestatic 42, 3, 16), (16, .aload_n 0, 1, 17), (17, .getfield 19, 3, 20), (20, .iload 4, 2, 22), (22, .iload_n 2, 1, 23), (23, .invokestatic 42, 3, 26), (26, .aload_n 0, 1, 27), (27, .getfield 22, 3, 30), (30, .iload 4, 2, 32), (32, .iload_n 3, 1, 33), (33, .invokestatic 42, 3, 36), (36, .aload_n 0, 1, 37), (37, .getfield 25, 3, 40), (40, .iload 4, 2, 42), (42, .iconst 0, 1, 43), (43, .invokestatic 42, 3, 46), (46, .aload_n 0, 1, 47), (47, .iload 4, 2, 49), (49, .iconst 1, 1, 50), (50, .iadd, 1, 51), (51, .putfield 9, 3, 54), (54, .iload 4, 2, 56), (56, .ireturn, 1, 57)]
theorem dtX5_add : ∀ q ∈ tbX5_add, decode cX5_add q.1 = .ok (q.2.1, q.2.2.1) ∧ q.1 + q.2.2.1 = q.2.2.2 := by decide +kernel
theorem miX5_add : MI yX5_add cX5_add 5 (some .int) 3 := ⟨tw_mem (List.mem_of_getElem? (i := 470) (by decide +kernel)) rfl, by decide, by decide +kernel, tw_mem (List.mem_of_getElem? (i := 74) (by decide +kernel)) rfl⟩
abbrev rmX5_add : Room := { frames := 1, cells := 0, slots := 0, locals := 22 }
def wX5_add : List Cond := [.fieldLink "ZoneCapacity$Zones" 9 "ZoneCapacity$Zones" "many" "I", .fieldLink "ZoneCapacity$Zones" 15 "ZoneCapacity$Zones" "outer" "[I", .static yX6_put, .fieldLink "ZoneCapacity$Zones" 19 "ZoneCapacity$Zones" "in" "[I", .fieldLink "ZoneCapacity$Zones" 22 "ZoneCapacity$Zones" "out" "[I", .fieldLink "ZoneCapacity$Zones" 25 "ZoneCapacity$Zones" "points" "[I"]
theorem iX5_add : ∀ w ∈ wX5_add, w ∈ TW := tw_of (ids := [114, 118, 348, 121, 125, 129]) (by decide +kernel)
def f5_add (mm : Mem) (a0 : Nat) (a1 : Int32) (a2 : Int32) (a3 : Int32) : Option (Int32 × Mem) := nm (mm a0 0) (fun v1 => bd (f6_put mm (a0 + 1) v1 a1) (fun r2 => bd (f6_put r2 (a0 + 2) v1 a2) (fun r3 => bd (f6_put r3 (a0 + 3) v1 a3) (fun r4 => bd (f6_put r4 (a0 + 4) v1 (0 : Int32)) (fun r5 => nm (up2 r5 a0 0 (v1 + (1 : Int32))) (fun m6 => some (v1, m6)))))))
theorem ctX5_add {l : Launch} {C : Cfg} (hj : Dj C) {mm : Mem} {a0 : Nat} {a1 : Int32} {a2 : Int32} {a3 : Int32} {x : (Int32 × Mem)} (o_a0 : Ob a0 5) (hf : f5_add mm a0 a1 a2 a3 = some x) : Ct l C yX5_add cX5_add 5 (some .int) 1 22 [.ref a0, .int a1, .int a2, .int a3] mm (some (.int x.1)) x.2 := by
  refine Ct.of (tb := tbX5_add) hj miX5_add.2.1 miX5_add.1 dtX5_add (Nat.le_of_ble_eq_true rfl) ?_
  intro E B hQ hr X
  unfold f5_add at hf
  show G E 5 0 [(0, .ref a0), (1, .int a1), (2, .int a2), (3, .int a3)] [] mm
  refine z_aload_n B 0 rfl 0 0 rfl rfl ?_
  refine z_geti 5 0 a0 B 1 rfl o_a0 rfl (iX5_add _ (List.mem_of_getElem? (i := 0) rfl)) rfl ?_
  obtain ⟨v1, ex, hf⟩ := nm_x hf
  refine z_top ex ?_
  refine z_istore [(4, .int v1), (0, .ref a0), (1, .int a1), (2, .int a2), (3, .int a3)] B 2 rfl (by decide) rfl ?_
  refine z_aload_n B 3 rfl 0 1 rfl rfl ?_
  refine z_getr 5 1 a0 B 4 rfl o_a0 rfl (iX5_add _ (List.mem_of_getElem? (i := 1) rfl)) rfl ?_
  refine z_iload B 5 rfl 0 rfl ?_
  refine z_iload_n B 6 rfl 1 2 rfl rfl ?_
  obtain ⟨r2, ec, hf⟩ := bd_e hf
  refine z_callN [.ref (a0 + 1), .int v1, .int a1] [] [] X B 7 rfl miX6_put ⟨List.mem_of_getElem? (i := 13) rfl, (iX5_add _ (List.mem_of_getElem? (i := 2) rfl))⟩ (ctX6_put hj (obf_5_1 o_a0) ec) ⟨Nat.le_of_ble_eq_true rfl, Nat.le_of_ble_eq_true rfl⟩ rfl rfl (Nat.le_of_ble_eq_true rfl) rfl ?_
  refine z_aload_n B 8 rfl 0 1 rfl rfl ?_
  refine z_getr 5 2 a0 B 9 rfl o_a0 rfl (iX5_add _ (List.mem_of_getElem? (i := 3) rfl)) rfl ?_
  refine z_iload B 10 rfl 0 rfl ?_
  refine z_iload_n B 11 rfl 2 3 rfl rfl ?_
  obtain ⟨r3, ec, hf⟩ := bd_e hf
  refine z_callN [.ref (a0 + 2), .int v1, .int a2] [] [] X B 12 rfl miX6_put ⟨List.mem_of_getElem? (i := 13) rfl, (iX5_add _ (List.mem_of_getElem? (i := 2) rfl))⟩ (ctX6_put hj (obf_5_2 o_a0) ec) ⟨Nat.le_of_ble_eq_true rfl, Nat.le_of_ble_eq_true rfl⟩ rfl rfl (Nat.le_of_ble_eq_true rfl) rfl ?_
  refine z_aload_n B 13 rfl 0 1 rfl rfl ?_
  refine z_getr 5 3 a0 B 14 rfl o_a0 rfl (iX5_add _ (List.mem_of_getElem? (i := 4) rfl)) rfl ?_
  refine z_iload B 15 rfl 0 rfl ?_
  refine z_iload_n B 16 rfl 3 4 rfl rfl ?_
  obtain ⟨r4, ec, hf⟩ := bd_e hf
  refine z_callN [.ref (a0 + 3), .int v1, .int a3] [] [] X B 17 rfl miX6_put ⟨List.mem_of_getElem? (i := 13) rfl, (iX5_add _ (List.mem_of_getElem? (i := 2) rfl))⟩ (ctX6_put hj (obf_5_3 o_a0) ec) ⟨Nat.le_of_ble_eq_true rfl, Nat.le_of_ble_eq_true rfl⟩ rfl rfl (Nat.le_of_ble_eq_true rfl) rfl ?_
  refine z_aload_n B 18 rfl 0 1 rfl rfl ?_
  refine z_getr 5 4 a0 B 19 rfl o_a0 rfl (iX5_add _ (List.mem_of_getElem? (i := 5) rfl)) rfl ?_
  refine z_iload B 20 rfl 0 rfl ?_
  refine z_iconst 0 B 21 rfl (by decide) ?_
  obtain ⟨r5, ec, hf⟩ := bd_e hf
  refine z_callN [.ref (a0 + 4), .int v1, .int (0 : Int32)] [] [] X B 22 rfl miX6_put ⟨List.mem_of_getElem? (i := 13) rfl, (iX5_add _ (List.mem_of_getElem? (i := 2) rfl))⟩ (ctX6_put hj (obf_5_4 o_a0) ec) ⟨Nat.le_of_ble_eq_true rfl, Nat.le_of_ble_eq_true rfl⟩ rfl rfl (Nat.le_of_ble_eq_true rfl) rfl ?_
  refine z_aload_n B 23 rfl 0 1 rfl rfl ?_
  refine z_iload B 24 rfl 0 rfl ?_
  refine z_iconst 1 B 25 rfl (by decide) ?_
  refine z_iadd B 26 rfl ?_
  refine z_puti 5 0 a0 B 27 rfl o_a0 rfl (iX5_add _ (List.mem_of_getElem? (i := 0) rfl)) rfl (ty := .int) (by decide) rfl rfl rfl ?_
  obtain ⟨m6, ex, hf⟩ := nm_x hf
  refine z_mem ex ?_
  refine z_iload B 28 rfl 0 rfl ?_
  cases hf
  exact z_iret B 29 rfl rfl hQ hr
/-! ZoneCapacity$Teller.takeEnd()Z -/
def tbX4_takeEnd : Tb := [(0, .aload_n 0, 1, 1), (1, .getfield 35, 3, 4), (4, .iconst 2, 1, 5), (5, .if_icmp .eq 13, 3, 8), (8, .aload_n 0, 1, 9), (9, .iconst 1, 1, 10), (10, .aload_n 0, 1, 11), (11, .getfield 81, 3, 14), (14, .invokevirtual 84, 3, 17), (17, .ireturn, 1, 18), (18, .aload_n 0, 1, 19), (19, .invokevirtual 32, 3, 22), (22, .iconst 1, 1, 23), (23, .ireturn, 1, 24)]
theorem dtX4_takeEnd : ∀ q ∈ tbX4_takeEnd, decode cX4_takeEnd q.1 = .ok (q.2.1, q.2.2.1) ∧ q.1 + q.2.2.1 = q.2.2.2 := by decide +kernel
theorem miX4_takeEnd : MI yX4_takeEnd cX4_takeEnd 1 (some .boolean) 0 := ⟨tw_mem (List.mem_of_getElem? (i := 475) (by decide +kernel)) rfl, by decide, by decide +kernel, tw_mem (List.mem_of_getElem? (i := 76) (by decide +kernel)) rfl⟩
abbrev rmX4_takeEnd : Room := { frames := 2, cells := 0, slots := 0, locals := 42 }
def wX4_takeEnd : List Cond := [.fieldLink "ZoneCapacity$Teller" 35 "ZoneCapacity$Teller" "token" "I", .methodLink "ZoneCapacity$Teller" 32 yX4_advance, .instanceMethod yX4_advance, .selects "ZoneCapacity$Teller" yX4_advance yX4_advance, .fieldLink "ZoneCapacity$Teller" 81 "ZoneCapacity$Teller" "place" "I", .methodLink "ZoneCapacity$Teller" 84 yX4_blame, .instanceMethod yX4_blame, .selects "ZoneCapacity$Teller" yX4_blame yX4_blame]
theorem iX4_takeEnd : ∀ w ∈ wX4_takeEnd, w ∈ TW := tw_of (ids := [293, 381, 383, 0, 294, 458, 460, 4]) (by decide +kernel)
def f4_takeEnd (mm : Mem) : Option (Int32 × Mem) := if (mm 73 3) = (2 : Int32) then bd (f4_advance mm) (fun r1 => some ((1 : Int32), r1)) else bd (f4_blame mm (1 : Int32) (mm 73 4)) (fun r2 => bok r2.1 (some (r2.1, r2.2)))
theorem ctX4_takeEnd {l : Launch} {C : Cfg} (hj : Dj C) {mm : Mem} {x : (Int32 × Mem)} (hf : f4_takeEnd mm = some x) : Ct l C yX4_takeEnd cX4_takeEnd 1 (some .boolean) 2 42 [.ref 73] mm (some (.int x.1)) x.2 := by
  refine Ct.of (tb := tbX4_takeEnd) hj miX4_takeEnd.2.1 miX4_takeEnd.1 dtX4_takeEnd (Nat.le_of_ble_eq_true rfl) ?_
  intro E B hQ hr X
  unfold f4_takeEnd at hf
  show G E 1 0 [(0, .ref 73)] [] mm
  refine z_aload_n B 0 rfl 0 0 rfl rfl ?_
  refine z_geti 4 3 73 B 1 rfl ob_73 rfl (iX4_takeEnd _ (List.mem_of_getElem? (i := 0) rfl)) rfl ?_
  refine z_iconst 2 B 2 rfl (by decide) ?_
  by_cases hc : (mm 73 3) = (2 : Int32)
  · replace hf := (if_pos hc).symm.trans hf
    refine z_icmp_eq_t B 3 rfl 18 (by decide) hc ?_
    refine z_aload_n B 10 rfl 0 0 rfl rfl ?_
    obtain ⟨r1, ec, hf⟩ := bd_e hf
    refine z_callV 73 4 [] [] [] X B 11 rfl ob_73 rfl rfl miX4_advance ⟨(iX4_takeEnd _ (List.mem_of_getElem? (i := 1) rfl)), (iX4_takeEnd _ (List.mem_of_getElem? (i := 2) rfl)), (iX4_takeEnd _ (List.mem_of_getElem? (i := 3) rfl))⟩ (ctX4_advance hj ec) ⟨Nat.le_of_ble_eq_true rfl, Nat.le_of_ble_eq_true rfl⟩ rfl rfl (Nat.le_of_ble_eq_true rfl) rfl ?_
    refine z_iconst 1 B 12 rfl (by decide) ?_
    cases hf
    exact z_iret B 13 rfl (by decide) hQ hr
  · replace hf := (if_neg hc).symm.trans hf
    refine z_icmp_eq_f B 3 rfl 18 (by decide) hc ?_
    refine z_aload_n B 4 rfl 0 0 rfl rfl ?_
    refine z_iconst 1 B 5 rfl (by decide) ?_
    refine z_aload_n B 6 rfl 0 0 rfl rfl ?_
    refine z_geti 4 4 73 B 7 rfl ob_73 rfl (iX4_takeEnd _ (List.mem_of_getElem? (i := 4) rfl)) rfl ?_
    obtain ⟨r2, ec, hf⟩ := bd_e hf
    refine z_callV 73 4 [.int (1 : Int32), .int (mm 73 4)] [] [.int r2.1] X B 8 rfl ob_73 rfl rfl miX4_blame ⟨(iX4_takeEnd _ (List.mem_of_getElem? (i := 5) rfl)), (iX4_takeEnd _ (List.mem_of_getElem? (i := 6) rfl)), (iX4_takeEnd _ (List.mem_of_getElem? (i := 7) rfl))⟩ (ctX4_blame hj ec) ⟨Nat.le_of_ble_eq_true rfl, Nat.le_of_ble_eq_true rfl⟩ rfl rfl (Nat.le_of_ble_eq_true rfl) rfl ?_
    obtain ⟨hb, hf⟩ := bok_e hf
    cases hf
    exact z_iret B 9 rfl (bok_n hb) hQ hr
/-! ZoneCapacity$Teller.tellZone()Z -/
def tbX4_tellZone : Tb := [(0, .aload_n 0, 1, 1), (1, .getfield 21, 3, 4), (4, .getfield 88, 3, 7), (7, .astore_n 1, 1, 8), (8, .aload_n 1, 1, 9), (9, .getfield 92, 3, 12), (12, .bipush 6, 2, 14), (14, .if_icmp .lt 13, 3, 17), (17, .aload_n 0, 1, 18), (18, .iconst 3, 1, 19), (19, .aload_n 0, 1, 20), (20, .getfield 81, 3, 23), (23, .invokevirtual 84, 3, 26), (26, .ireturn, 1, 27), (27, .aload_n 0, 1, 28), (28, .invokevirtual 32, 3, 31), (31, .aload_n 0, 1, 32), (32, .iconst 0, 1, 33), (33, .aload_n 1, 1, 34), (34, .getfield 92, 3, 37), (37, .iconst 1, 1, 38), (38, .isub, 1, 39), (39, .invokevirtual 97, 3, 42), (42, .ifCond .ne 5, 3, 45), (45, .iconst 0, 1, 46), (46, .ireturn, 1, 47), (47, .aload_n 0, 1, 48), (48, .getfield 100, 3, 51), (51, .istore_n 2, 1, 52), (52, .aload_n 0, 1, 53), (53, .iconst 0, 1, 54), (54, .sipush 9999, 3, 57), (57, .invokevirtual 97, 3, 60), (60, .ifCond .ne 5, 3, 63), (63, .iconst 0, 1, 64), (64, .ireturn, 1, 65), (65, .aload_n 0, 1, 66), (66, .getfield 100, 3, 69), (69, .istore_n 3, 1, 70), (70, .aload_n 0, 1, 71), (71, .iconst 0, 1, 72), (72, .sipush 9999, 3, 75), (75, .invokevirtual 97, 3, 78), (78, .ifCond .ne 5, 3, 81), (81, .iconst 0, 1, 82), (82, .ireturn, 1, 83), (83, .aload_n 1, 1, 84), (84, .iload_n 2, 1, 85), (85, .iload_n 3, 1, 86), (86, .aload_n 0, 1, 87), (87, .getfield 100, 3, 90), (90, .invokevirtual 103, 3, 93), (93, .pop, 1, 94), (94, .aload_n 0, 1, 95), (95, .invokevirtual 107, 3, 98), (98, .ireturn, 1, 99)]
theorem dtX4_tellZone : ∀ q ∈ tbX4_tellZone, decode cX4_tellZone q.1 = .ok (q.2.1, q.2.2.1) ∧ q.1 + q.2.2.1 = q.2.2.2 := by decide +kernel
theorem miX4_tellZone : MI yX4_tellZone cX4_tellZone 4 (some .boolean) 0 := ⟨tw_mem (List.mem_of_getElem? (i := 457) (by decide +kernel)) rfl, by decide, by decide +kernel, tw_mem (List.mem_of_getElem? (i := 76) (by decide +kernel)) rfl⟩
abbrev rmX4_tellZone : Room := { frames := 3, cells := 0, slots := 0, locals := 64 }
def wX4_tellZone : List Cond := [.fieldLink "ZoneCapacity$Teller" 21 "ZoneCapacity$Teller" "draft" "LZoneCapacity$Market;", .fieldLink "ZoneCapacity$Teller" 88 "ZoneCapacity$Market" "zones" "LZoneCapacity$Zones;", .fieldLink "ZoneCapacity$Teller" 92 "ZoneCapacity$Zones" "many" "I", .methodLink "ZoneCapacity$Teller" 32 yX4_advance, .instanceMethod yX4_advance, .selects "ZoneCapacity$Teller" yX4_advance yX4_advance, .methodLink "ZoneCapacity$Teller" 97 yX4_takeNumber, .instanceMethod yX4_takeNumber, .selects "ZoneCapacity$Teller" yX4_takeNumber yX4_takeNumber, .fieldLink "ZoneCapacity$Teller" 100 "ZoneCapacity$Teller" "got" "I", .methodLink "ZoneCapacity$Teller" 103 yX5_add, .instanceMethod yX5_add, .selects "ZoneCapacity$Zones" yX5_add yX5_add, .methodLink "ZoneCapacity$Teller" 107 yX4_takeEnd, .instanceMethod yX4_takeEnd, .selects "ZoneCapacity$Teller" yX4_takeEnd yX4_takeEnd, .fieldLink "ZoneCapacity$Teller" 81 "ZoneCapacity$Teller" "place" "I", .methodLink "ZoneCapacity$Teller" 84 yX4_blame, .instanceMethod yX4_blame, .selects "ZoneCapacity$Teller" yX4_blame yX4_blame]
theorem iX4_tellZone : ∀ w ∈ wX4_tellZone, w ∈ TW := tw_of (ids := [289, 210, 116, 381, 383, 0, 462, 464, 5, 297, 467, 468, 469, 472, 474, 6, 294, 458, 460, 4]) (by decide +kernel)
def f4_tellZone (mm : Mem) : Option (Int32 × Mem) := if (mm 77 0) < (6 : Int32) then bd (f4_advance mm) (fun r1 => bd (f4_takeNumber r1 (0 : Int32) ((r1 77 0) - (1 : Int32))) (fun r2 => if r2.1 = 0 then some ((0 : Int32), r2.2) else nm (r2.2 73 7) (fun v3 => bd (f4_takeNumber r2.2 (0 : Int32) (9999 : Int32)) (fun r4 => if r4.1 = 0 then some ((0 : Int32), r4.2) else nm (r4.2 73 7) (fun v5 => bd (f4_takeNumber r4.2 (0 : Int32) (9999 : Int32)) (fun r6 => if r6.1 = 0 then some ((0 : Int32), r6.2) else bd (f5_add r6.2 77 v3 v5 (r6.2 73 7)) (fun r7 => bd (f4_takeEnd r7.2) (fun r8 => bok r8.1 (some (r8.1, r8.2)))))))))) else bd (f4_blame mm (3 : Int32) (mm 73 4)) (fun r9 => bok r9.1 (some (r9.1, r9.2)))
theorem ctX4_tellZone {l : Launch} {C : Cfg} (hj : Dj C) {mm : Mem} {x : (Int32 × Mem)} (hf : f4_tellZone mm = some x) : Ct l C yX4_tellZone cX4_tellZone 4 (some .boolean) 3 64 [.ref 73] mm (some (.int x.1)) x.2 := by
  refine Ct.of (tb := tbX4_tellZone) hj miX4_tellZone.2.1 miX4_tellZone.1 dtX4_tellZone (Nat.le_of_ble_eq_true rfl) ?_
  intro E B hQ hr X
  unfold f4_tellZone at hf
  show G E 4 0 [(0, .ref 73)] [] mm
  refine z_aload_n B 0 rfl 0 0 rfl rfl ?_
  refine z_getr 4 1 73 B 1 rfl ob_73 rfl (iX4_tellZone _ (List.mem_of_getElem? (i := 0) rfl)) rfl ?_
  refine z_getr 1 0 76 B 2 rfl ob_76 rfl (iX4_tellZone _ (List.mem_of_getElem? (i := 1) rfl)) rfl ?_
  refine z_astore_n [(1, .ref 77), (0, .ref 73)] B 3 rfl 1 rfl (by decide) rfl ?_
  refine z_aload_n B 4 rfl 1 0 rfl rfl ?_
  refine z_geti 5 0 77 B 5 rfl ob_77 rfl (iX4_tellZone _ (List.mem_of_getElem? (i := 2) rfl)) rfl ?_
  refine z_bipush 6 B 6 rfl (by decide) ?_
  by_cases hc : (mm 77 0) < (6 : Int32)
  · replace hf := (if_pos hc).symm.trans hf
    refine z_icmp_lt_t B 7 rfl 27 (by decide) hc ?_
    refine z_aload_n B 14 rfl 0 1 rfl rfl ?_
    obtain ⟨r1, ec, hf⟩ := bd_e hf
    refine z_callV 73 4 [] [] [] X B 15 rfl ob_73 rfl rfl miX4_advance ⟨(iX4_tellZone _ (List.mem_of_getElem? (i := 3) rfl)), (iX4_tellZone _ (List.mem_of_getElem? (i := 4) rfl)), (iX4_tellZone _ (List.mem_of_getElem? (i := 5) rfl))⟩ (ctX4_advance hj ec) ⟨Nat.le_of_ble_eq_true rfl, Nat.le_of_ble_eq_true rfl⟩ rfl rfl (Nat.le_of_ble_eq_true rfl) rfl ?_
    refine z_aload_n B 16 rfl 0 1 rfl rfl ?_
    refine z_iconst 0 B 17 rfl (by decide) ?_
    refine z_aload_n B 18 rfl 1 0 rfl rfl ?_
    refine z_geti 5 0 77 B 19 rfl ob_77 rfl (iX4_tellZone _ (List.mem_of_getElem? (i := 2) rfl)) rfl ?_
    refine z_iconst 1 B 20 rfl (by decide) ?_
    refine z_isub B 21 rfl ?_
    obtain ⟨r2, ec, hf⟩ := bd_e hf
    refine z_callV 73 4 [.int (0 : Int32), .int ((r1 77 0) - (1 : Int32))] [] [.int r2.1] X B 22 rfl ob_73 rfl rfl miX4_takeNumber ⟨(iX4_tellZone _ (List.mem_of_getElem? (i := 6) rfl)), (iX4_tellZone _ (List.mem_of_getElem? (i := 7) rfl)), (iX4_tellZone _ (List.mem_of_getElem? (i := 8) rfl))⟩ (ctX4_takeNumber hj ec) ⟨Nat.le_of_ble_eq_true rfl, Nat.le_of_ble_eq_true rfl⟩ rfl rfl (Nat.le_of_ble_eq_true rfl) rfl ?_
    by_cases hc : r2.1 = 0
    · replace hf := (if_pos hc).symm.trans hf
      refine z_if_ne_f B 23 rfl 47 (by decide) hc ?_
      refine z_iconst 0 B 24 rfl (by decide) ?_
      cases hf
      exact z_iret B 25 rfl (by decide) hQ hr
    · replace hf := (if_neg hc).symm.trans hf
      refine z_if_ne_t B 23 rfl 47 (by decide) hc ?_
      refine z_aload_n B 26 rfl 0 1 rfl rfl ?_
      refine z_geti 4 7 73 B 27 rfl ob_73 rfl (iX4_tellZone _ (List.mem_of_getElem? (i := 9) rfl)) rfl ?_
      obtain ⟨v3, ex, hf⟩ := nm_x hf
      refine z_top ex ?_
      refine z_istore_n [(2, .int v3), (1, .ref 77), (0, .ref 73)] B 28 rfl 2 rfl (by decide) rfl ?_
      refine z_aload_n B 29 rfl 0 2 rfl rfl ?_
      refine z_iconst 0 B 30 rfl (by decide) ?_
      refine z_sipush 9999 B 31 rfl (by decide) ?_
      obtain ⟨r4, ec, hf⟩ := bd_e hf
      refine z_callV 73 4 [.int (0 : Int32), .int (9999 : Int32)] [] [.int r4.1] X B 32 rfl ob_73 rfl rfl miX4_takeNumber ⟨(iX4_tellZone _ (List.mem_of_getElem? (i := 6) rfl)), (iX4_tellZone _ (List.mem_of_getElem? (i := 7) rfl)), (iX4_tellZone _ (List.mem_of_getElem? (i := 8) rfl))⟩ (ctX4_takeNumber hj ec) ⟨Nat.le_of_ble_eq_true rfl, Nat.le_of_ble_eq_true rfl⟩ rfl rfl (Nat.le_of_ble_eq_true rfl) rfl ?_
      by_cases hc : r4.1 = 0
      · replace hf := (if_pos hc).symm.trans hf
        refine z_if_ne_f B 33 rfl 65 (by decide) hc ?_
        refine z_iconst 0 B 34 rfl (by decide) ?_
        cases hf
        exact z_iret B 35 rfl (by decide) hQ hr
      · replace hf := (if_neg hc).symm.trans hf
        refine z_if_ne_t B 33 rfl 65 (by decide) hc ?_
        refine z_aload_n B 36 rfl 0 2 rfl rfl ?_
        refine z_geti 4 7 73 B 37 rfl ob_73 rfl (iX4_tellZone _ (List.mem_of_getElem? (i := 9) rfl)) rfl ?_
        obtain ⟨v5, ex, hf⟩ := nm_x hf
        refine z_top ex ?_
        refine z_istore_n [(3, .int v5), (2, .int v3), (1, .ref 77), (0, .ref 73)] B 38 rfl 3 rfl (by decide) rfl ?_
        refine z_aload_n B 39 rfl 0 3 rfl rfl ?_
        refine z_iconst 0 B 40 rfl (by decide) ?_
        refine z_sipush 9999 B 41 rfl (by decide) ?_
        obtain ⟨r6, ec, hf⟩ := bd_e hf
        refine z_callV 73 4 [.int (0 : Int32), .int (9999 : Int32)] [] [.int r6.1] X B 42 rfl ob_73 rfl rfl miX4_takeNumber ⟨(iX4_tellZone _ (List.mem_of_getElem? (i := 6) rfl)), (iX4_tellZone _ (List.mem_of_getElem? (i := 7) rfl)), (iX4_tellZone _ (List.mem_of_getElem? (i := 8) rfl))⟩ (ctX4_takeNumber hj ec) ⟨Nat.le_of_ble_eq_true rfl, Nat.le_of_ble_eq_true rfl⟩ rfl rfl (Nat.le_of_ble_eq_true rfl) rfl ?_
        by_cases hc : r6.1 = 0
        · replace hf := (if_pos hc).symm.trans hf
          refine z_if_ne_f B 43 rfl 83 (by decide) hc ?_
          refine z_iconst 0 B 44 rfl (by decide) ?_
          cases hf
          exact z_iret B 45 rfl (by decide) hQ hr
        · replace hf := (if_neg hc).symm.trans hf
          refine z_if_ne_t B 43 rfl 83 (by decide) hc ?_
          refine z_aload_n B 46 rfl 1 2 rfl rfl ?_
          refine z_iload_n B 47 rfl 2 1 rfl rfl ?_
          refine z_iload_n B 48 rfl 3 0 rfl rfl ?_
          refine z_aload_n B 49 rfl 0 3 rfl rfl ?_
          refine z_geti 4 7 73 B 50 rfl ob_73 rfl (iX4_tellZone _ (List.mem_of_getElem? (i := 9) rfl)) rfl ?_
          obtain ⟨r7, ec, hf⟩ := bd_e hf
          refine z_callV 77 5 [.int v3, .int v5, .int (r6.2 73 7)] [] [.int r7.1] X B 51 rfl ob_77 rfl rfl miX5_add ⟨(iX4_tellZone _ (List.mem_of_getElem? (i := 10) rfl)), (iX4_tellZone _ (List.mem_of_getElem? (i := 11) rfl)), (iX4_tellZone _ (List.mem_of_getElem? (i := 12) rfl))⟩ (ctX5_add hj ob_77 ec) ⟨Nat.le_of_ble_eq_true rfl, Nat.le_of_ble_eq_true rfl⟩ rfl rfl (Nat.le_of_ble_eq_true rfl) rfl ?_
          refine z_pop B 52 rfl rfl ?_
          refine z_aload_n B 53 rfl 0 3 rfl rfl ?_
          obtain ⟨r8, ec, hf⟩ := bd_e hf
          refine z_callV 73 4 [] [] [.int r8.1] X B 54 rfl ob_73 rfl rfl miX4_takeEnd ⟨(iX4_tellZone _ (List.mem_of_getElem? (i := 13) rfl)), (iX4_tellZone _ (List.mem_of_getElem? (i := 14) rfl)), (iX4_tellZone _ (List.mem_of_getElem? (i := 15) rfl))⟩ (ctX4_takeEnd hj ec) ⟨Nat.le_of_ble_eq_true rfl, Nat.le_of_ble_eq_true rfl⟩ rfl rfl (Nat.le_of_ble_eq_true rfl) rfl ?_
          obtain ⟨hb, hf⟩ := bok_e hf
          cases hf
          exact z_iret B 55 rfl (bok_n hb) hQ hr
  · replace hf := (if_neg hc).symm.trans hf
    refine z_icmp_lt_f B 7 rfl 27 (by decide) hc ?_
    refine z_aload_n B 8 rfl 0 1 rfl rfl ?_
    refine z_iconst 3 B 9 rfl (by decide) ?_
    refine z_aload_n B 10 rfl 0 1 rfl rfl ?_
    refine z_geti 4 4 73 B 11 rfl ob_73 rfl (iX4_tellZone _ (List.mem_of_getElem? (i := 16) rfl)) rfl ?_
    obtain ⟨r9, ec, hf⟩ := bd_e hf
    refine z_callV 73 4 [.int (3 : Int32), .int (mm 73 4)] [] [.int r9.1] X B 12 rfl ob_73 rfl rfl miX4_blame ⟨(iX4_tellZone _ (List.mem_of_getElem? (i := 17) rfl)), (iX4_tellZone _ (List.mem_of_getElem? (i := 18) rfl)), (iX4_tellZone _ (List.mem_of_getElem? (i := 19) rfl))⟩ (ctX4_blame hj ec) ⟨Nat.le_of_ble_eq_true rfl, Nat.le_of_ble_eq_true rfl⟩ rfl rfl (Nat.le_of_ble_eq_true rfl) rfl ?_
    obtain ⟨hb, hf⟩ := bok_e hf
    cases hf
    exact z_iret B 13 rfl (bok_n hb) hQ hr
/-! ZoneCapacity$Zones.dropPoints(I)I -/
def tbX5_dropPoints : Tb := [(0, .aload_n 0, 1, 1), (1, .getfield 25, 3, 4), (4, .iload_n 1, 1, 5), (5, .invokestatic 46, 3, 8), (8, .istore_n 2, 1, 9), (9, .aload_n 0, 1, 10), (10, .getfield 25, 3, 13), (13, .iload_n 1, 1, 14), (14, .iconst 0, 1, 15), (15, .invokestatic 42, 3, 18), (18, .iload_n 2, 1, 19), (19, .ireturn, 1, 20)]
theorem dtX5_dropPoints : ∀ q ∈ tbX5_dropPoints, decode cX5_dropPoints q.1 = .ok (q.2.1, q.2.2.1) ∧ q.1 + q.2.2.1 = q.2.2.2 := by decide +kernel
theorem miX5_dropPoints : MI yX5_dropPoints cX5_dropPoints 3 (some .int) 1 := ⟨tw_mem (List.mem_of_getElem? (i := 484) (by decide +kernel)) rfl, by decide, by decide +kernel, tw_mem (List.mem_of_getElem? (i := 74) (by decide +kernel)) rfl⟩
abbrev rmX5_dropPoints : Room := { frames := 1, cells := 0, slots := 0, locals := 22 }
def wX5_dropPoints : List Cond := [.fieldLink "ZoneCapacity$Zones" 25 "ZoneCapacity$Zones" "points" "[I", .static yX6_at, .static yX6_put]
theorem iX5_dropPoints : ∀ w ∈ wX5_dropPoints, w ∈ TW := tw_of (ids := [129, 386, 348]) (by decide +kernel)
def f5_dropPoints (mm : Mem) (a0 : Nat) (a1 : Int32) : Option (Int32 × Mem) := bd (f6_at mm (a0 + 4) a1) (fun r1 => bd (f6_put mm (a0 + 4) a1 (0 : Int32)) (fun r2 => some (r1, r2)))
theorem ctX5_dropPoints {l : Launch} {C : Cfg} (hj : Dj C) {mm : Mem} {a0 : Nat} {a1 : Int32} {x : (Int32 × Mem)} (o_a0 : Ob a0 5) (hf : f5_dropPoints mm a0 a1 = some x) : Ct l C yX5_dropPoints cX5_dropPoints 3 (some .int) 1 22 [.ref a0, .int a1] mm (some (.int x.1)) x.2 := by
  refine Ct.of (tb := tbX5_dropPoints) hj miX5_dropPoints.2.1 miX5_dropPoints.1 dtX5_dropPoints (Nat.le_of_ble_eq_true rfl) ?_
  intro E B hQ hr X
  unfold f5_dropPoints at hf
  show G E 3 0 [(0, .ref a0), (1, .int a1)] [] mm
  refine z_aload_n B 0 rfl 0 0 rfl rfl ?_
  refine z_getr 5 4 a0 B 1 rfl o_a0 rfl (iX5_dropPoints _ (List.mem_of_getElem? (i := 0) rfl)) rfl ?_
  refine z_iload_n B 2 rfl 1 1 rfl rfl ?_
  obtain ⟨r1, ec, hf⟩ := bd_e hf
  refine z_callN [.ref (a0 + 4), .int a1] [] [.int r1] X B 3 rfl miX6_at ⟨List.mem_of_getElem? (i := 14) rfl, (iX5_dropPoints _ (List.mem_of_getElem? (i := 1) rfl))⟩ (ctX6_at hj (obf_5_4 o_a0) ec) ⟨Nat.le_of_ble_eq_true rfl, Nat.le_of_ble_eq_true rfl⟩ rfl rfl (Nat.le_of_ble_eq_true rfl) rfl ?_
  refine z_istore_n [(2, .int r1), (0, .ref a0), (1, .int a1)] B 4 rfl 2 rfl (by decide) rfl ?_
  refine z_aload_n B 5 rfl 0 1 rfl rfl ?_
  refine z_getr 5 4 a0 B 6 rfl o_a0 rfl (iX5_dropPoints _ (List.mem_of_getElem? (i := 0) rfl)) rfl ?_
  refine z_iload_n B 7 rfl 1 2 rfl rfl ?_
  refine z_iconst 0 B 8 rfl (by decide) ?_
  obtain ⟨r2, ec, hf⟩ := bd_e hf
  refine z_callN [.ref (a0 + 4), .int a1, .int (0 : Int32)] [] [] X B 9 rfl miX6_put ⟨List.mem_of_getElem? (i := 13) rfl, (iX5_dropPoints _ (List.mem_of_getElem? (i := 2) rfl))⟩ (ctX6_put hj (obf_5_4 o_a0) ec) ⟨Nat.le_of_ble_eq_true rfl, Nat.le_of_ble_eq_true rfl⟩ rfl rfl (Nat.le_of_ble_eq_true rfl) rfl ?_
  refine z_iload_n B 10 rfl 2 0 rfl rfl ?_
  cases hf
  exact z_iret B 11 rfl rfl hQ hr
/-! ZoneCapacity$Zones.wanted(I)I -/
def tbX5_wanted : Tb := [(0, .aload_n 0, 1, 1), (1, .getfield 25, 3, 4), (4, .iload_n 1, 1, 5), (5, .invokestatic 46, 3, 8), (8, .istore_n 2, 1, 9), (9, .iload_n 2, 1, 10), (10, .ifCond .ne 7, 3, 13), (13, .iconst 0, 1, 14), (14, .goto 17, 3, 17), (17, .aload_n 0, 1, 18), (18, .getfield 28, 3, 21), (21, .iload_n 1, 1, 22), (22, .iconst 4, 1, 23), (23, .imul, 1, 24), (24, .iload_n 2, 1, 25), (25, .iadd, 1, 26), (26, .iconst 1, 1, 27), (27, .isub, 1, 28), (28, .invokestatic 46, 3, 31), (31, .ireturn, 1, 32)]
theorem dtX5_wanted : ∀ q ∈ tbX5_wanted, decode cX5_wanted q.1 = .ok (q.2.1, q.2.2.1) ∧ q.1 + q.2.2.1 = q.2.2.2 := by decide +kernel
theorem miX5_wanted : MI yX5_wanted cX5_wanted 3 (some .int) 1 := ⟨tw_mem (List.mem_of_getElem? (i := 489) (by decide +kernel)) rfl, by decide, by decide +kernel, tw_mem (List.mem_of_getElem? (i := 74) (by decide +kernel)) rfl⟩
abbrev rmX5_wanted : Room := { frames := 1, cells := 0, slots := 0, locals := 21 }
def wX5_wanted : List Cond := [.fieldLink "ZoneCapacity$Zones" 25 "ZoneCapacity$Zones" "points" "[I", .static yX6_at, .fieldLink "ZoneCapacity$Zones" 28 "ZoneCapacity$Zones" "pointUnits" "[I"]
theorem iX5_wanted : ∀ w ∈ wX5_wanted, w ∈ TW := tw_of (ids := [129, 386, 131]) (by decide +kernel)
def f5_wanted (mm : Mem) (a0 : Nat) (a1 : Int32) : Option Int32 := bd (f6_at mm (a0 + 4) a1) (fun r1 => if r1 = 0 then some ((0 : Int32)) else bd (f6_at mm (a0 + 5) (((a1 * (4 : Int32)) + r1) - (1 : Int32))) (fun r2 => some (r2)))
theorem ctX5_wanted {l : Launch} {C : Cfg} (hj : Dj C) {mm : Mem} {a0 : Nat} {a1 : Int32} {x : Int32} (o_a0 : Ob a0 5) (hf : f5_wanted mm a0 a1 = some x) : Ct l C yX5_wanted cX5_wanted 3 (some .int) 1 21 [.ref a0, .int a1] mm (some (.int x)) mm := by
  refine Ct.of (tb := tbX5_wanted) hj miX5_wanted.2.1 miX5_wanted.1 dtX5_wanted (Nat.le_of_ble_eq_true rfl) ?_
  intro E B hQ hr X
  unfold f5_wanted at hf
  show G E 3 0 [(0, .ref a0), (1, .int a1)] [] mm
  refine z_aload_n B 0 rfl 0 0 rfl rfl ?_
  refine z_getr 5 4 a0 B 1 rfl o_a0 rfl (iX5_wanted _ (List.mem_of_getElem? (i := 0) rfl)) rfl ?_
  refine z_iload_n B 2 rfl 1 1 rfl rfl ?_
  obtain ⟨r1, ec, hf⟩ := bd_e hf
  refine z_callN [.ref (a0 + 4), .int a1] [] [.int r1] X B 3 rfl miX6_at ⟨List.mem_of_getElem? (i := 14) rfl, (iX5_wanted _ (List.mem_of_getElem? (i := 1) rfl))⟩ (ctX6_at hj (obf_5_4 o_a0) ec) ⟨Nat.le_of_ble_eq_true rfl, Nat.le_of_ble_eq_true rfl⟩ rfl rfl (Nat.le_of_ble_eq_true rfl) rfl ?_
  refine z_istore_n [(2, .int r1), (0, .ref a0), (1, .int a1)] B 4 rfl 2 rfl (by decide) rfl ?_
  refine z_iload_n B 5 rfl 2 0 rfl rfl ?_
  by_cases hc : r1 = 0
  · replace hf := (if_pos hc).symm.trans hf
    refine z_if_ne_f B 6 rfl 17 (by decide) hc ?_
    refine z_iconst 0 B 7 rfl (by decide) ?_
    refine z_goto B 8 rfl 31 (by decide) ?_
    cases hf
    exact z_iret B 19 rfl rfl hQ hr
  · replace hf := (if_neg hc).symm.trans hf
    refine z_if_ne_t B 6 rfl 17 (by decide) hc ?_
    refine z_aload_n B 9 rfl 0 1 rfl rfl ?_
    refine z_getr 5 5 a0 B 10 rfl o_a0 rfl (iX5_wanted _ (List.mem_of_getElem? (i := 2) rfl)) rfl ?_
    refine z_iload_n B 11 rfl 1 2 rfl rfl ?_
    refine z_iconst 4 B 12 rfl (by decide) ?_
    refine z_imul B 13 rfl ?_
    refine z_iload_n B 14 rfl 2 0 rfl rfl ?_
    refine z_iadd B 15 rfl ?_
    refine z_iconst 1 B 16 rfl (by decide) ?_
    refine z_isub B 17 rfl ?_
    obtain ⟨r2, ec, hf⟩ := bd_e hf
    refine z_callN [.ref (a0 + 5), .int (((a1 * (4 : Int32)) + r1) - (1 : Int32))] [] [.int r2] X B 18 rfl miX6_at ⟨List.mem_of_getElem? (i := 14) rfl, (iX5_wanted _ (List.mem_of_getElem? (i := 1) rfl))⟩ (ctX6_at hj (obf_5_5 o_a0) ec) ⟨Nat.le_of_ble_eq_true rfl, Nat.le_of_ble_eq_true rfl⟩ rfl rfl (Nat.le_of_ble_eq_true rfl) rfl ?_
    cases hf
    exact z_iret B 19 rfl rfl hQ hr
/-! ZoneCapacity$Zones.lastPrice(I)I -/
def tbX5_lastPrice : Tb := [(0, .aload_n 0, 1, 1), (1, .getfield 25, 3, 4), (4, .iload_n 1, 1, 5), (5, .invokestatic 46, 3, 8), (8, .istore_n 2, 1, 9), (9, .iload_n 2, 1, 10), (10, .ifCond .ne 9, 3, 13), (13, .sipush 9999, 3, 16), (16, .goto 17, 3, 19), (19, .aload_n 0, 1, 20), (20, .getfield 31, 3, 23), (23, .iload_n 1, 1, 24), (24, .iconst 4, 1, 25), (25, .imul, 1, 26), (26, .iload_n 2, 1, 27), (27, .iadd, 1, 28), (28, .iconst 1, 1, 29), (29, .isub, 1, 30), (30, .invokestatic 46, 3, 33), (33, .ireturn, 1, 34)]
theorem dtX5_lastPrice : ∀ q ∈ tbX5_lastPrice, decode cX5_lastPrice q.1 = .ok (q.2.1, q.2.2.1) ∧ q.1 + q.2.2.1 = q.2.2.2 := by decide +kernel
theorem miX5_lastPrice : MI yX5_lastPrice cX5_lastPrice 3 (some .int) 1 := ⟨tw_mem (List.mem_of_getElem? (i := 493) (by decide +kernel)) rfl, by decide, by decide +kernel, tw_mem (List.mem_of_getElem? (i := 74) (by decide +kernel)) rfl⟩
abbrev rmX5_lastPrice : Room := { frames := 1, cells := 0, slots := 0, locals := 21 }
def wX5_lastPrice : List Cond := [.fieldLink "ZoneCapacity$Zones" 25 "ZoneCapacity$Zones" "points" "[I", .static yX6_at, .fieldLink "ZoneCapacity$Zones" 31 "ZoneCapacity$Zones" "pointPrices" "[I"]
theorem iX5_lastPrice : ∀ w ∈ wX5_lastPrice, w ∈ TW := tw_of (ids := [129, 386, 132]) (by decide +kernel)
def f5_lastPrice (mm : Mem) (a0 : Nat) (a1 : Int32) : Option Int32 := bd (f6_at mm (a0 + 4) a1) (fun r1 => if r1 = 0 then some ((9999 : Int32)) else bd (f6_at mm (a0 + 6) (((a1 * (4 : Int32)) + r1) - (1 : Int32))) (fun r2 => some (r2)))
theorem ctX5_lastPrice {l : Launch} {C : Cfg} (hj : Dj C) {mm : Mem} {a0 : Nat} {a1 : Int32} {x : Int32} (o_a0 : Ob a0 5) (hf : f5_lastPrice mm a0 a1 = some x) : Ct l C yX5_lastPrice cX5_lastPrice 3 (some .int) 1 21 [.ref a0, .int a1] mm (some (.int x)) mm := by
  refine Ct.of (tb := tbX5_lastPrice) hj miX5_lastPrice.2.1 miX5_lastPrice.1 dtX5_lastPrice (Nat.le_of_ble_eq_true rfl) ?_
  intro E B hQ hr X
  unfold f5_lastPrice at hf
  show G E 3 0 [(0, .ref a0), (1, .int a1)] [] mm
  refine z_aload_n B 0 rfl 0 0 rfl rfl ?_
  refine z_getr 5 4 a0 B 1 rfl o_a0 rfl (iX5_lastPrice _ (List.mem_of_getElem? (i := 0) rfl)) rfl ?_
  refine z_iload_n B 2 rfl 1 1 rfl rfl ?_
  obtain ⟨r1, ec, hf⟩ := bd_e hf
  refine z_callN [.ref (a0 + 4), .int a1] [] [.int r1] X B 3 rfl miX6_at ⟨List.mem_of_getElem? (i := 14) rfl, (iX5_lastPrice _ (List.mem_of_getElem? (i := 1) rfl))⟩ (ctX6_at hj (obf_5_4 o_a0) ec) ⟨Nat.le_of_ble_eq_true rfl, Nat.le_of_ble_eq_true rfl⟩ rfl rfl (Nat.le_of_ble_eq_true rfl) rfl ?_
  refine z_istore_n [(2, .int r1), (0, .ref a0), (1, .int a1)] B 4 rfl 2 rfl (by decide) rfl ?_
  refine z_iload_n B 5 rfl 2 0 rfl rfl ?_
  by_cases hc : r1 = 0
  · replace hf := (if_pos hc).symm.trans hf
    refine z_if_ne_f B 6 rfl 19 (by decide) hc ?_
    refine z_sipush 9999 B 7 rfl (by decide) ?_
    refine z_goto B 8 rfl 33 (by decide) ?_
    cases hf
    exact z_iret B 19 rfl rfl hQ hr
  · replace hf := (if_neg hc).symm.trans hf
    refine z_if_ne_t B 6 rfl 19 (by decide) hc ?_
    refine z_aload_n B 9 rfl 0 1 rfl rfl ?_
    refine z_getr 5 6 a0 B 10 rfl o_a0 rfl (iX5_lastPrice _ (List.mem_of_getElem? (i := 2) rfl)) rfl ?_
    refine z_iload_n B 11 rfl 1 2 rfl rfl ?_
    refine z_iconst 4 B 12 rfl (by decide) ?_
    refine z_imul B 13 rfl ?_
    refine z_iload_n B 14 rfl 2 0 rfl rfl ?_
    refine z_iadd B 15 rfl ?_
    refine z_iconst 1 B 16 rfl (by decide) ?_
    refine z_isub B 17 rfl ?_
    obtain ⟨r2, ec, hf⟩ := bd_e hf
    refine z_callN [.ref (a0 + 6), .int (((a1 * (4 : Int32)) + r1) - (1 : Int32))] [] [.int r2] X B 18 rfl miX6_at ⟨List.mem_of_getElem? (i := 14) rfl, (iX5_lastPrice _ (List.mem_of_getElem? (i := 1) rfl))⟩ (ctX6_at hj (obf_5_6 o_a0) ec) ⟨Nat.le_of_ble_eq_true rfl, Nat.le_of_ble_eq_true rfl⟩ rfl rfl (Nat.le_of_ble_eq_true rfl) rfl ?_
    cases hf
    exact z_iret B 19 rfl rfl hQ hr
/-! ZoneCapacity$Zones.addPoint(III)I -/
def tbX5_addPoint : Tb := [(0, .aload_n 0, 1, 1), (1, .getfield 25, 3, 4), (4, .iload_n 1, 1, 5), (5, .invokestatic 46, 3, 8), (8, .istore 4, 2, 10), (10, .aload_n 0, 1, 11), (11, .getfield 28, 3, 14), (14, .iload_n 1, 1, 15), (15, .iconst 4, 1, 16), (16, .imul, 1, 17), (17, .iload 4, 2, 19), (19, .iadd, 1, 20), (20, .iload_n 2, 1, 21), (21, .invokestatic 42, 3, 24), (24, .aload_n 0, 1, 25), (25, .getfield 31, 3, 28), (28, .iload_n 1, 1, 29), (29, .iconst 4, 1, 30), (30, .imul, 1, 31), (31, .iload 4, 2, 33), (33, .iadd, 1, 34), (34, .iload_n 3, 1, 35), (35, .invokestatic 42, 3, 38), (38, .aload_n 0, 1, 39), (39, .getfield 25, 3, 42), (42, .iload_n 1, 1, 43), (43, .iload 4, 2, 45), (45, .iconst 1, 1, 46), (46, .iadd, 1, 47), (47, .invokestatic 42, 3, 50), (50, .iload 4, 2, 52), (52, .iconst 1, 1, 53), (53, .iadd, 1, 54), (54, .ireturn, 1, 55)]
theorem dtX5_addPoint : ∀ q ∈ tbX5_addPoint, decode cX5_addPoint q.1 = .ok (q.2.1, q.2.2.1) ∧ q.1 + q.2.2.1 = q.2.2.2 := by decide +kernel
theorem miX5_addPoint : MI yX5_addPoint cX5_addPoint 5 (some .int) 3 := ⟨tw_mem (List.mem_of_getElem? (i := 497) (by decide +kernel)) rfl, by decide, by decide +kernel, tw_mem (List.mem_of_getElem? (i := 74) (by decide +kernel)) rfl⟩
abbrev rmX5_addPoint : Room := { frames := 1, cells := 0, slots := 0, locals := 22 }
def wX5_addPoint : List Cond := [.fieldLink "ZoneCapacity$Zones" 25 "ZoneCapacity$Zones" "points" "[I", .static yX6_at, .fieldLink "ZoneCapacity$Zones" 28 "ZoneCapacity$Zones" "pointUnits" "[I", .static yX6_put, .fieldLink "ZoneCapacity$Zones" 31 "ZoneCapacity$Zones" "pointPrices" "[I"]
theorem iX5_addPoint : ∀ w ∈ wX5_addPoint, w ∈ TW := tw_of (ids := [129, 386, 131, 348, 132]) (by decide +kernel)
def f5_addPoint (mm : Mem) (a0 : Nat) (a1 : Int32) (a2 : Int32) (a3 : Int32) : Option (Int32 × Mem) := bd (f6_at mm (a0 + 4) a1) (fun r1 => bd (f6_put mm (a0 + 5) ((a1 * (4 : Int32)) + r1) a2) (fun r2 => bd (f6_put r2 (a0 + 6) ((a1 * (4 : Int32)) + r1) a3) (fun r3 => bd (f6_put r3 (a0 + 4) a1 (r1 + (1 : Int32))) (fun r4 => some (r1 + (1 : Int32), r4)))))
theorem ctX5_addPoint {l : Launch} {C : Cfg} (hj : Dj C) {mm : Mem} {a0 : Nat} {a1 : Int32} {a2 : Int32} {a3 : Int32} {x : (Int32 × Mem)} (o_a0 : Ob a0 5) (hf : f5_addPoint mm a0 a1 a2 a3 = some x) : Ct l C yX5_addPoint cX5_addPoint 5 (some .int) 1 22 [.ref a0, .int a1, .int a2, .int a3] mm (some (.int x.1)) x.2 := by
  refine Ct.of (tb := tbX5_addPoint) hj miX5_addPoint.2.1 miX5_addPoint.1 dtX5_addPoint (Nat.le_of_ble_eq_true rfl) ?_
  intro E B hQ hr X
  unfold f5_addPoint at hf
  show G E 5 0 [(0, .ref a0), (1, .int a1), (2, .int a2), (3, .int a3)] [] mm
  refine z_aload_n B 0 rfl 0 0 rfl rfl ?_
  refine z_getr 5 4 a0 B 1 rfl o_a0 rfl (iX5_addPoint _ (List.mem_of_getElem? (i := 0) rfl)) rfl ?_
  refine z_iload_n B 2 rfl 1 1 rfl rfl ?_
  obtain ⟨r1, ec, hf⟩ := bd_e hf
  refine z_callN [.ref (a0 + 4), .int a1] [] [.int r1] X B 3 rfl miX6_at ⟨List.mem_of_getElem? (i := 14) rfl, (iX5_addPoint _ (List.mem_of_getElem? (i := 1) rfl))⟩ (ctX6_at hj (obf_5_4 o_a0) ec) ⟨Nat.le_of_ble_eq_true rfl, Nat.le_of_ble_eq_true rfl⟩ rfl rfl (Nat.le_of_ble_eq_true rfl) rfl ?_
  refine z_istore [(4, .int r1), (0, .ref a0), (1, .int a1), (2, .int a2), (3, .int a3)] B 4 rfl (by decide) rfl ?_
  refine z_aload_n B 5 rfl 0 1 rfl rfl ?_
  refine z_getr 5 5 a0 B 6 rfl o_a0 rfl (iX5_addPoint _ (List.mem_of_getElem? (i := 2) rfl)) rfl ?_
  refine z_iload_n B 7 rfl 1 2 rfl rfl ?_
  refine z_iconst 4 B 8 rfl (by decide) ?_
  refine z_imul B 9 rfl ?_
  refine z_iload B 10 rfl 0 rfl ?_
  refine z_iadd B 11 rfl ?_
  refine z_iload_n B 12 rfl 2 3 rfl rfl ?_
  obtain ⟨r2, ec, hf⟩ := bd_e hf
  refine z_callN [.ref (a0 + 5), .int ((a1 * (4 : Int32)) + r1), .int a2] [] [] X B 13 rfl miX6_put ⟨List.mem_of_getElem? (i := 13) rfl, (iX5_addPoint _ (List.mem_of_getElem? (i := 3) rfl))⟩ (ctX6_put hj (obf_5_5 o_a0) ec) ⟨Nat.le_of_ble_eq_true rfl, Nat.le_of_ble_eq_true rfl⟩ rfl rfl (Nat.le_of_ble_eq_true rfl) rfl ?_
  refine z_aload_n B 14 rfl 0 1 rfl rfl ?_
  refine z_getr 5 6 a0 B 15 rfl o_a0 rfl (iX5_addPoint _ (List.mem_of_getElem? (i := 4) rfl)) rfl ?_
  refine z_iload_n B 16 rfl 1 2 rfl rfl ?_
  refine z_iconst 4 B 17 rfl (by decide) ?_
  refine z_imul B 18 rfl ?_
  refine z_iload B 19 rfl 0 rfl ?_
  refine z_iadd B 20 rfl ?_
  refine z_iload_n B 21 rfl 3 4 rfl rfl ?_
  obtain ⟨r3, ec, hf⟩ := bd_e hf
  refine z_callN [.ref (a0 + 6), .int ((a1 * (4 : Int32)) + r1), .int a3] [] [] X B 22 rfl miX6_put ⟨List.mem_of_getElem? (i := 13) rfl, (iX5_addPoint _ (List.mem_of_getElem? (i := 3) rfl))⟩ (ctX6_put hj (obf_5_6 o_a0) ec) ⟨Nat.le_of_ble_eq_true rfl, Nat.le_of_ble_eq_true rfl⟩ rfl rfl (Nat.le_of_ble_eq_true rfl) rfl ?_
  refine z_aload_n B 23 rfl 0 1 rfl rfl ?_
  refine z_getr 5 4 a0 B 24 rfl o_a0 rfl (iX5_addPoint _ (List.mem_of_getElem? (i := 0) rfl)) rfl ?_
  refine z_iload_n B 25 rfl 1 2 rfl rfl ?_
  refine z_iload B 26 rfl 0 rfl ?_
  refine z_iconst 1 B 27 rfl (by decide) ?_
  refine z_iadd B 28 rfl ?_
  obtain ⟨r4, ec, hf⟩ := bd_e hf
  refine z_callN [.ref (a0 + 4), .int a1, .int (r1 + (1 : Int32))] [] [] X B 29 rfl miX6_put ⟨List.mem_of_getElem? (i := 13) rfl, (iX5_addPoint _ (List.mem_of_getElem? (i := 3) rfl))⟩ (ctX6_put hj (obf_5_4 o_a0) ec) ⟨Nat.le_of_ble_eq_true rfl, Nat.le_of_ble_eq_true rfl⟩ rfl rfl (Nat.le_of_ble_eq_true rfl) rfl ?_
  refine z_iload B 30 rfl 0 rfl ?_
  refine z_iconst 1 B 31 rfl (by decide) ?_
  refine z_iadd B 32 rfl ?_
  cases hf
  exact z_iret B 33 rfl rfl hQ hr
/-! ZoneCapacity$Teller.tellCurve()Z -/
def tbX4_tellCurve : Tb := [(0, .aload_n 0, 1, 1), (1, .getfield 21, 3, 4), (4, .getfield 88, 3, 7), (7, .astore_n 1, 1, 8), (8, .aload_n 0, 1, 9), (9, .invokevirtual 32, 3, 12), (12, .aload_n 0, 1, 13), (13, .iconst 0, 1, 14), (14, .aload_n 1, 1, 15), (15, .getfield 92, 3, 18), (18, .iconst 1, 1, 19), (19, .isub, 1, 20), (20, .invokevirtual 97, 3, 23), (23, .ifCond .ne 5, 3, 26), (26, .iconst 0, 1, 27), (27, .ireturn, 1, 28), (28, .aload_n 0, 1, 29), (29, .getfield 100, 3, 32), (32, .istore_n 2, 1, 33), (33, .aload_n 1, 1, 34), (34, .iload_n 2, 1, 35), (35, .invokevirtual 110, 3, 38), (38, .pop, 1, 39), (39, .iconst 0, 1, 40), (40, .istore_n 3, 1, 41), (41, .iload_n 3, 1, 42), (42, .iconst 4, 1, 43), (43, .if_icmp .gt 84, 3, 46), (46, .aload_n 0, 1, 47), (47, .getfield 35, 3, 50), (50, .iconst 1, 1, 51), (51, .if_icmp .ne 76, 3, 54), (54, .iload_n 3, 1, 55), (55, .iconst 4, 1, 56), (56, .if_icmp .ne 13, 3, 59), (59, .aload_n 0, 1, 60), (60, .iconst 3, 1, 61), (61, .aload_n 0, 1, 62), (62, .getfield 81, 3, 65), (65, .invokevirtual 84, 3, 68), (68, .ireturn, 1, 69), (69, .aload_n 0, 1, 70), (70, .aload_n 1, 1, 71), (71, .iload_n 2, 1, 72), (72, .invokevirtual 114, 3, 75), (75, .iconst 1, 1, 76), (76, .iadd, 1, 77), (77, .sipush 2000, 3, 80), (80, .invokevirtual 97, 3, 83), (83, .ifCond .ne 5, 3, 86), (86, .iconst 0, 1, 87), (87, .ireturn, 1, 88), (88, .aload_n 0, 1, 89), (89, .getfield 100, 3, 92), (92, .istore 4, 2, 94), (94, .aload_n 0, 1, 95), (95, .iconst 0, 1, 96), (96, .aload_n 1, 1, 97), (97, .iload_n 2, 1, 98), (98, .invokevirtual 117, 3, 101), (101, .invokevirtual 97, 3, 104), (104, .ifCond .ne 5, 3, 107), (107, .iconst 0, 1, 108), (108, .ireturn, 1, 109), (109, .aload_n 1, 1, 110), (110, .iload_n 2, 1, 111), (111, .iload 4, 2, 113), (113, .aload_n 0, 1, 114), (114, .getfield 100, 3, 117), (117, .invokevirtual 120, 3, 120), (120, .pop, 1, 121), (121, .iinc 3 1, 3, 124), (124, .goto (-83), 3, 127), (127, .aload_n 0, 1, 128), (128, .invokevirtual 107, 3, 131), (131, .ireturn, 1, 132)]
theorem dtX4_tellCurve : ∀ q ∈ tbX4_tellCurve, decode cX4_tellCurve q.1 = .ok (q.2.1, q.2.2.1) ∧ q.1 + q.2.2.1 = q.2.2.2 := by decide +kernel
theorem miX4_tellCurve : MI yX4_tellCurve cX4_tellCurve 5 (some .boolean) 0 := ⟨tw_mem (List.mem_of_getElem? (i := 480) (by decide +kernel)) rfl, by decide, by decide +kernel, tw_mem (List.mem_of_getElem? (i := 76) (by decide +kernel)) rfl⟩
abbrev rmX4_tellCurve : Room := { frames := 3, cells := 0, slots := 0, locals := 64 }
def wX4_tellCurve : List Cond := [.fieldLink "ZoneCapacity$Teller" 21 "ZoneCapacity$Teller" "draft" "LZoneCapacity$Market;", .fieldLink "ZoneCapacity$Teller" 88 "ZoneCapacity$Market" "zones" "LZoneCapacity$Zones;", .methodLink "ZoneCapacity$Teller" 32 yX4_advance, .instanceMethod yX4_advance, .selects "ZoneCapacity$Teller" yX4_advance yX4_advance, .fieldLink "ZoneCapacity$Teller" 92 "ZoneCapacity$Zones" "many" "I", .methodLink "ZoneCapacity$Teller" 97 yX4_takeNumber, .instanceMethod yX4_takeNumber, .selects "ZoneCapacity$Teller" yX4_takeNumber yX4_takeNumber, .fieldLink "ZoneCapacity$Teller" 100 "ZoneCapacity$Teller" "got" "I", .methodLink "ZoneCapacity$Teller" 110 yX5_dropPoints, .instanceMethod yX5_dropPoints, .selects "ZoneCapacity$Zones" yX5_dropPoints yX5_dropPoints, .methodLink "ZoneCapacity$Teller" 107 yX4_takeEnd, .instanceMethod yX4_takeEnd, .selects "ZoneCapacity$Teller" yX4_takeEnd yX4_takeEnd, .fieldLink "ZoneCapacity$Teller" 35 "ZoneCapacity$Teller" "token" "I", .methodLink "ZoneCapacity$Teller" 114 yX5_wanted, .instanceMethod yX5_wanted, .selects "ZoneCapacity$Zones" yX5_wanted yX5_wanted, .methodLink "ZoneCapacity$Teller" 117 yX5_lastPrice, .instanceMethod yX5_lastPrice, .selects "ZoneCapacity$Zones" yX5_lastPrice yX5_lastPrice, .methodLink "ZoneCapacity$Teller" 120 yX5_addPoint, .instanceMethod yX5_addPoint, .selects "ZoneCapacity$Zones" yX5_addPoint yX5_addPoint, .fieldLink "ZoneCapacity$Teller" 81 "ZoneCapacity$Teller" "place" "I", .methodLink "ZoneCapacity$Teller" 84 yX4_blame, .instanceMethod yX4_blame, .selects "ZoneCapacity$Teller" yX4_blame yX4_blame]
theorem iX4_tellCurve : ∀ w ∈ wX4_tellCurve, w ∈ TW := tw_of (ids := [289, 210, 381, 383, 0, 116, 462, 464, 5, 297, 481, 482, 483, 472, 474, 6, 293, 486, 487, 488, 490, 491, 492, 494, 495, 496, 294, 458, 460, 4]) (by decide +kernel)
def f4_tellCurve_j127 (mm : Mem) : Option (Int32 × Mem) := bd (f4_takeEnd mm) (fun r5 => bok r5.1 (some (r5.1, r5.2)))
theorem f4_tellCurve_j127_ok {E : Ev} {l : Launch} {C : Cfg} {x : (Int32 × Mem)} (hj : Dj C) (X : Ec E l C rmX4_tellCurve) (B : Bx E RX4 tbX4_tellCurve 5 (some .boolean)) (hQ : Rt E) (hr : Rs E (some (.int x.1)) x.2) (mm : Mem) (hf : f4_tellCurve_j127 mm = some x) : G E 5 127 [(0, .ref 73)] [] mm := by
  unfold f4_tellCurve_j127 at hf
  refine z_aload_n B 73 rfl 0 0 rfl rfl ?_
  obtain ⟨r5, ec, hf⟩ := bd_e hf
  refine z_callV 73 4 [] [] [.int r5.1] X B 74 rfl ob_73 rfl rfl miX4_takeEnd ⟨(iX4_tellCurve _ (List.mem_of_getElem? (i := 13) rfl)), (iX4_tellCurve _ (List.mem_of_getElem? (i := 14) rfl)), (iX4_tellCurve _ (List.mem_of_getElem? (i := 15) rfl))⟩ (ctX4_takeEnd hj ec) ⟨Nat.le_of_ble_eq_true rfl, Nat.le_of_ble_eq_true rfl⟩ rfl rfl (Nat.le_of_ble_eq_true rfl) rfl ?_
  obtain ⟨hb, hf⟩ := bok_e hf
  cases hf
  exact z_iret B 75 rfl (bok_n hb) hQ hr
def f4_tellCurve_l41 : Nat → Int32 → Int32 → Mem → Option (Int32 × Mem)
  | 0, _, _, _ => none
  | n + 1, x2, x3, mm => if (4 : Int32) < x3 then f4_tellCurve_j127 mm else if (mm 73 3) = (1 : Int32) then if x3 = (4 : Int32) then bd (f4_blame mm (3 : Int32) (mm 73 4)) (fun r13 => bok r13.1 (some (r13.1, r13.2))) else bd (f5_wanted mm 77 x2) (fun r6 => bd (f4_takeNumber mm (r6 + (1 : Int32)) (2000 : Int32)) (fun r7 => if r7.1 = 0 then some ((0 : Int32), r7.2) else nm (r7.2 73 7) (fun v8 => bd (f5_lastPrice r7.2 77 x2) (fun r9 => bd (f4_takeNumber r7.2 (0 : Int32) r9) (fun r10 => if r10.1 = 0 then some ((0 : Int32), r10.2) else bd (f5_addPoint r10.2 77 x2 v8 (r10.2 73 7)) (fun r11 => nm (x3 + 1) (fun v12 => f4_tellCurve_l41 n x2 v12 r11.2))))))) else f4_tellCurve_j127 mm
theorem f4_tellCurve_l41_ok {E : Ev} {l : Launch} {C : Cfg} {x : (Int32 × Mem)} (hj : Dj C) (X : Ec E l C rmX4_tellCurve) (B : Bx E RX4 tbX4_tellCurve 5 (some .boolean)) (hQ : Rt E) (hr : Rs E (some (.int x.1)) x.2) (n : Nat) : ∀ (x2 : Int32) (x3 : Int32) (mm : Mem), f4_tellCurve_l41 n x2 x3 mm = some x → G E 5 41 [(0, .ref 73), (1, .ref 77), (2, .int x2), (3, .int x3)] [] mm := by
  induction n with
  | zero =>
    intro x2 x3 mm hf
    rw [f4_tellCurve_l41] at hf
    cases hf
  | succ n ih =>
    intro x2 x3 mm hf
    rw [f4_tellCurve_l41] at hf
    refine z_iload_n B 25 rfl 3 3 rfl rfl ?_
    refine z_iconst 4 B 26 rfl (by decide) ?_
    by_cases hc : (4 : Int32) < x3
    · replace hf := (if_pos hc).symm.trans hf
      refine z_icmp_gt_t B 27 rfl 127 (by decide) hc ?_
      refine z_sub [(0, .ref 73)] [0] rfl ?_
      exact f4_tellCurve_j127_ok hj X B hQ hr _ hf
    · replace hf := (if_neg hc).symm.trans hf
      refine z_icmp_gt_f B 27 rfl 127 (by decide) hc ?_
      refine z_aload_n B 28 rfl 0 0 rfl rfl ?_
      refine z_geti 4 3 73 B 29 rfl ob_73 rfl (iX4_tellCurve _ (List.mem_of_getElem? (i := 16) rfl)) rfl ?_
      refine z_iconst 1 B 30 rfl (by decide) ?_
      by_cases hc : (mm 73 3) = (1 : Int32)
      · replace hf := (if_pos hc).symm.trans hf
        refine z_icmp_ne_f B 31 rfl 127 (by decide) hc ?_
        refine z_iload_n B 32 rfl 3 3 rfl rfl ?_
        refine z_iconst 4 B 33 rfl (by decide) ?_
        by_cases hc : x3 = (4 : Int32)
        · replace hf := (if_pos hc).symm.trans hf
          refine z_icmp_ne_f B 34 rfl 69 (by decide) hc ?_
          refine z_aload_n B 35 rfl 0 0 rfl rfl ?_
          refine z_iconst 3 B 36 rfl (by decide) ?_
          refine z_aload_n B 37 rfl 0 0 rfl rfl ?_
          refine z_geti 4 4 73 B 38 rfl ob_73 rfl (iX4_tellCurve _ (List.mem_of_getElem? (i := 26) rfl)) rfl ?_
          obtain ⟨r13, ec, hf⟩ := bd_e hf
          refine z_callV 73 4 [.int (3 : Int32), .int (mm 73 4)] [] [.int r13.1] X B 39 rfl ob_73 rfl rfl miX4_blame ⟨(iX4_tellCurve _ (List.mem_of_getElem? (i := 27) rfl)), (iX4_tellCurve _ (List.mem_of_getElem? (i := 28) rfl)), (iX4_tellCurve _ (List.mem_of_getElem? (i := 29) rfl))⟩ (ctX4_blame hj ec) ⟨Nat.le_of_ble_eq_true rfl, Nat.le_of_ble_eq_true rfl⟩ rfl rfl (Nat.le_of_ble_eq_true rfl) rfl ?_
          obtain ⟨hb, hf⟩ := bok_e hf
          cases hf
          exact z_iret B 40 rfl (bok_n hb) hQ hr
        · replace hf := (if_neg hc).symm.trans hf
          refine z_icmp_ne_t B 34 rfl 69 (by decide) hc ?_
          refine z_aload_n B 41 rfl 0 0 rfl rfl ?_
          refine z_aload_n B 42 rfl 1 1 rfl rfl ?_
          refine z_iload_n B 43 rfl 2 2 rfl rfl ?_
          obtain ⟨r6, ec, hf⟩ := bd_e hf
          refine z_callV 77 5 [.int x2] [.ref 73] [.int r6, .ref 73] X B 44 rfl ob_77 rfl rfl miX5_wanted ⟨(iX4_tellCurve _ (List.mem_of_getElem? (i := 17) rfl)), (iX4_tellCurve _ (List.mem_of_getElem? (i := 18) rfl)), (iX4_tellCurve _ (List.mem_of_getElem? (i := 19) rfl))⟩ (ctX5_wanted hj ob_77 ec) ⟨Nat.le_of_ble_eq_true rfl, Nat.le_of_ble_eq_true rfl⟩ rfl rfl (Nat.le_of_ble_eq_true rfl) rfl ?_
          refine z_iconst 1 B 45 rfl (by decide) ?_
          refine z_iadd B 46 rfl ?_
          refine z_sipush 2000 B 47 rfl (by decide) ?_
          obtain ⟨r7, ec, hf⟩ := bd_e hf
          refine z_callV 73 4 [.int (r6 + (1 : Int32)), .int (2000 : Int32)] [] [.int r7.1] X B 48 rfl ob_73 rfl rfl miX4_takeNumber ⟨(iX4_tellCurve _ (List.mem_of_getElem? (i := 6) rfl)), (iX4_tellCurve _ (List.mem_of_getElem? (i := 7) rfl)), (iX4_tellCurve _ (List.mem_of_getElem? (i := 8) rfl))⟩ (ctX4_takeNumber hj ec) ⟨Nat.le_of_ble_eq_true rfl, Nat.le_of_ble_eq_true rfl⟩ rfl rfl (Nat.le_of_ble_eq_true rfl) rfl ?_
          by_cases hc : r7.1 = 0
          · replace hf := (if_pos hc).symm.trans hf
            refine z_if_ne_f B 49 rfl 88 (by decide) hc ?_
            refine z_iconst 0 B 50 rfl (by decide) ?_
            cases hf
            exact z_iret B 51 rfl (by decide) hQ hr
          · replace hf := (if_neg hc).symm.trans hf
            refine z_if_ne_t B 49 rfl 88 (by decide) hc ?_
            refine z_aload_n B 52 rfl 0 0 rfl rfl ?_
            refine z_geti 4 7 73 B 53 rfl ob_73 rfl (iX4_tellCurve _ (List.mem_of_getElem? (i := 9) rfl)) rfl ?_
            obtain ⟨v8, ex, hf⟩ := nm_x hf
            refine z_top ex ?_
            refine z_istore [(4, .int v8), (0, .ref 73), (1, .ref 77), (2, .int x2), (3, .int x3)] B 54 rfl (by decide) rfl ?_
            refine z_aload_n B 55 rfl 0 1 rfl rfl ?_
            refine z_iconst 0 B 56 rfl (by decide) ?_
            refine z_aload_n B 57 rfl 1 2 rfl rfl ?_
            refine z_iload_n B 58 rfl 2 3 rfl rfl ?_
            obtain ⟨r9, ec, hf⟩ := bd_e hf
            refine z_callV 77 5 [.int x2] [.int (0 : Int32), .ref 73] [.int r9, .int (0 : Int32), .ref 73] X B 59 rfl ob_77 rfl rfl miX5_lastPrice ⟨(iX4_tellCurve _ (List.mem_of_getElem? (i := 20) rfl)), (iX4_tellCurve _ (List.mem_of_getElem? (i := 21) rfl)), (iX4_tellCurve _ (List.mem_of_getElem? (i := 22) rfl))⟩ (ctX5_lastPrice hj ob_77 ec) ⟨Nat.le_of_ble_eq_true rfl, Nat.le_of_ble_eq_true rfl⟩ rfl rfl (Nat.le_of_ble_eq_true rfl) rfl ?_
            obtain ⟨r10, ec, hf⟩ := bd_e hf
            refine z_callV 73 4 [.int (0 : Int32), .int r9] [] [.int r10.1] X B 60 rfl ob_73 rfl rfl miX4_takeNumber ⟨(iX4_tellCurve _ (List.mem_of_getElem? (i := 6) rfl)), (iX4_tellCurve _ (List.mem_of_getElem? (i := 7) rfl)), (iX4_tellCurve _ (List.mem_of_getElem? (i := 8) rfl))⟩ (ctX4_takeNumber hj ec) ⟨Nat.le_of_ble_eq_true rfl, Nat.le_of_ble_eq_true rfl⟩ rfl rfl (Nat.le_of_ble_eq_true rfl) rfl ?_
            by_cases hc : r10.1 = 0
            · replace hf := (if_pos hc).symm.trans hf
              refine z_if_ne_f B 61 rfl 109 (by decide) hc ?_
              refine z_iconst 0 B 62 rfl (by decide) ?_
              cases hf
              exact z_iret B 63 rfl (by decide) hQ hr
            · replace hf := (if_neg hc).symm.trans hf
              refine z_if_ne_t B 61 rfl 109 (by decide) hc ?_
              refine z_aload_n B 64 rfl 1 2 rfl rfl ?_
              refine z_iload_n B 65 rfl 2 3 rfl rfl ?_
              refine z_iload B 66 rfl 0 rfl ?_
              refine z_aload_n B 67 rfl 0 1 rfl rfl ?_
              refine z_geti 4 7 73 B 68 rfl ob_73 rfl (iX4_tellCurve _ (List.mem_of_getElem? (i := 9) rfl)) rfl ?_
              obtain ⟨r11, ec, hf⟩ := bd_e hf
              refine z_callV 77 5 [.int x2, .int v8, .int (r10.2 73 7)] [] [.int r11.1] X B 69 rfl ob_77 rfl rfl miX5_addPoint ⟨(iX4_tellCurve _ (List.mem_of_getElem? (i := 23) rfl)), (iX4_tellCurve _ (List.mem_of_getElem? (i := 24) rfl)), (iX4_tellCurve _ (List.mem_of_getElem? (i := 25) rfl))⟩ (ctX5_addPoint hj ob_77 ec) ⟨Nat.le_of_ble_eq_true rfl, Nat.le_of_ble_eq_true rfl⟩ rfl rfl (Nat.le_of_ble_eq_true rfl) rfl ?_
              refine z_pop B 70 rfl rfl ?_
              obtain ⟨v12, ex, hf⟩ := nm_x hf
              refine z_iinc v12 [(3, .int v12), (4, .int v8), (0, .ref 73), (1, .ref 77), (2, .int x2)] B 71 rfl 4 rfl (ex.symm) (by decide) rfl ?_
              refine z_goto B 72 rfl 41 (by decide) ?_
              refine z_sub [(0, .ref 73), (1, .ref 77), (2, .int x2), (3, .int v12)] [2, 3, 4, 0] rfl ?_
              exact ih _ _ _ hf
      · replace hf := (if_neg hc).symm.trans hf
        refine z_icmp_ne_t B 31 rfl 127 (by decide) hc ?_
        refine z_sub [(0, .ref 73)] [0] rfl ?_
        exact f4_tellCurve_j127_ok hj X B hQ hr _ hf
def f4_tellCurve (mm : Mem) : Option (Int32 × Mem) := bd (f4_advance mm) (fun r1 => bd (f4_takeNumber r1 (0 : Int32) ((r1 77 0) - (1 : Int32))) (fun r2 => if r2.1 = 0 then some ((0 : Int32), r2.2) else nm (r2.2 73 7) (fun v3 => bd (f5_dropPoints r2.2 77 v3) (fun r4 => f4_tellCurve_l41 FU v3 (0 : Int32) r4.2))))
theorem ctX4_tellCurve {l : Launch} {C : Cfg} (hj : Dj C) {mm : Mem} {x : (Int32 × Mem)} (hf : f4_tellCurve mm = some x) : Ct l C yX4_tellCurve cX4_tellCurve 5 (some .boolean) 3 64 [.ref 73] mm (some (.int x.1)) x.2 := by
  refine Ct.of (tb := tbX4_tellCurve) hj miX4_tellCurve.2.1 miX4_tellCurve.1 dtX4_tellCurve (Nat.le_of_ble_eq_true rfl) ?_
  intro E B hQ hr X
  unfold f4_tellCurve at hf
  show G E 5 0 [(0, .ref 73)] [] mm
  refine z_aload_n B 0 rfl 0 0 rfl rfl ?_
  refine z_getr 4 1 73 B 1 rfl ob_73 rfl (iX4_tellCurve _ (List.mem_of_getElem? (i := 0) rfl)) rfl ?_
  refine z_getr 1 0 76 B 2 rfl ob_76 rfl (iX4_tellCurve _ (List.mem_of_getElem? (i := 1) rfl)) rfl ?_
  refine z_astore_n [(1, .ref 77), (0, .ref 73)] B 3 rfl 1 rfl (by decide) rfl ?_
  refine z_aload_n B 4 rfl 0 1 rfl rfl ?_
  obtain ⟨r1, ec, hf⟩ := bd_e hf
  refine z_callV 73 4 [] [] [] X B 5 rfl ob_73 rfl rfl miX4_advance ⟨(iX4_tellCurve _ (List.mem_of_getElem? (i := 2) rfl)), (iX4_tellCurve _ (List.mem_of_getElem? (i := 3) rfl)), (iX4_tellCurve _ (List.mem_of_getElem? (i := 4) rfl))⟩ (ctX4_advance hj ec) ⟨Nat.le_of_ble_eq_true rfl, Nat.le_of_ble_eq_true rfl⟩ rfl rfl (Nat.le_of_ble_eq_true rfl) rfl ?_
  refine z_aload_n B 6 rfl 0 1 rfl rfl ?_
  refine z_iconst 0 B 7 rfl (by decide) ?_
  refine z_aload_n B 8 rfl 1 0 rfl rfl ?_
  refine z_geti 5 0 77 B 9 rfl ob_77 rfl (iX4_tellCurve _ (List.mem_of_getElem? (i := 5) rfl)) rfl ?_
  refine z_iconst 1 B 10 rfl (by decide) ?_
  refine z_isub B 11 rfl ?_
  obtain ⟨r2, ec, hf⟩ := bd_e hf
  refine z_callV 73 4 [.int (0 : Int32), .int ((r1 77 0) - (1 : Int32))] [] [.int r2.1] X B 12 rfl ob_73 rfl rfl miX4_takeNumber ⟨(iX4_tellCurve _ (List.mem_of_getElem? (i := 6) rfl)), (iX4_tellCurve _ (List.mem_of_getElem? (i := 7) rfl)), (iX4_tellCurve _ (List.mem_of_getElem? (i := 8) rfl))⟩ (ctX4_takeNumber hj ec) ⟨Nat.le_of_ble_eq_true rfl, Nat.le_of_ble_eq_true rfl⟩ rfl rfl (Nat.le_of_ble_eq_true rfl) rfl ?_
  by_cases hc : r2.1 = 0
  · replace hf := (if_pos hc).symm.trans hf
    refine z_if_ne_f B 13 rfl 28 (by decide) hc ?_
    refine z_iconst 0 B 14 rfl (by decide) ?_
    cases hf
    exact z_iret B 15 rfl (by decide) hQ hr
  · replace hf := (if_neg hc).symm.trans hf
    refine z_if_ne_t B 13 rfl 28 (by decide) hc ?_
    refine z_aload_n B 16 rfl 0 1 rfl rfl ?_
    refine z_geti 4 7 73 B 17 rfl ob_73 rfl (iX4_tellCurve _ (List.mem_of_getElem? (i := 9) rfl)) rfl ?_
    obtain ⟨v3, ex, hf⟩ := nm_x hf
    refine z_top ex ?_
    refine z_istore_n [(2, .int v3), (1, .ref 77), (0, .ref 73)] B 18 rfl 2 rfl (by decide) rfl ?_
    refine z_aload_n B 19 rfl 1 1 rfl rfl ?_
    refine z_iload_n B 20 rfl 2 0 rfl rfl ?_
    obtain ⟨r4, ec, hf⟩ := bd_e hf
    refine z_callV 77 5 [.int v3] [] [.int r4.1] X B 21 rfl ob_77 rfl rfl miX5_dropPoints ⟨(iX4_tellCurve _ (List.mem_of_getElem? (i := 10) rfl)), (iX4_tellCurve _ (List.mem_of_getElem? (i := 11) rfl)), (iX4_tellCurve _ (List.mem_of_getElem? (i := 12) rfl))⟩ (ctX5_dropPoints hj ob_77 ec) ⟨Nat.le_of_ble_eq_true rfl, Nat.le_of_ble_eq_true rfl⟩ rfl rfl (Nat.le_of_ble_eq_true rfl) rfl ?_
    refine z_pop B 22 rfl rfl ?_
    refine z_iconst 0 B 23 rfl (by decide) ?_
    refine z_istore_n [(3, .int (0 : Int32)), (2, .int v3), (1, .ref 77), (0, .ref 73)] B 24 rfl 3 rfl (by decide) rfl ?_
    refine z_sub [(0, .ref 73), (1, .ref 77), (2, .int v3), (3, .int (0 : Int32))] [3, 2, 1, 0] rfl ?_
    exact f4_tellCurve_l41_ok hj X B hQ hr FU _ _ _ hf
/-! ZoneCapacity$Teller.takeWord(Ljava/lang/String;)Z -/
def tbX4_takeWord : Tb := [(0, .aload_n 0, 1, 1), (1, .aload_n 1, 1, 2), (2, .invokevirtual 44, 3, 5), (5, .ifCond .ne 5, 3, 8), (8, .iconst 0, 1, 9), (9, .ireturn, 1, 10), (10, .aload_n 0, 1, 11), (11, .invokevirtual 32, 3, 14), (14, .iconst 1, 1, 15), (15, .ireturn, 1, 16)]
theorem dtX4_takeWord : ∀ q ∈ tbX4_takeWord, decode cX4_takeWord q.1 = .ok (q.2.1, q.2.2.1) ∧ q.1 + q.2.2.1 = q.2.2.2 := by decide +kernel
theorem miX4_takeWord : MI yX4_takeWord cX4_takeWord 2 (some .boolean) 1 := ⟨tw_mem (List.mem_of_getElem? (i := 507) (by decide +kernel)) rfl, by decide, by decide +kernel, tw_mem (List.mem_of_getElem? (i := 76) (by decide +kernel)) rfl⟩
abbrev rmX4_takeWord : Room := { frames := 5, cells := 0, slots := 0, locals := 107 }
def wX4_takeWord : List Cond := [.methodLink "ZoneCapacity$Teller" 44 yX4_isWord, .instanceMethod yX4_isWord, .selects "ZoneCapacity$Teller" yX4_isWord yX4_isWord, .methodLink "ZoneCapacity$Teller" 32 yX4_advance, .instanceMethod yX4_advance, .selects "ZoneCapacity$Teller" yX4_advance yX4_advance]
theorem iX4_takeWord : ∀ w ∈ wX4_takeWord, w ∈ TW := tw_of (ids := [402, 404, 2, 381, 383, 0]) (by decide +kernel)
def f4_takeWord (mm : Mem) (a1 : Nat) : Option (Int32 × Mem) := bd (f4_isWord mm a1) (fun r1 => if r1 = 0 then some ((0 : Int32), mm) else bd (f4_advance mm) (fun r2 => some ((1 : Int32), r2)))
theorem ctX4_takeWord {l : Launch} {C : Cfg} (hj : Dj C) {mm : Mem} {a1 : Nat} {x : (Int32 × Mem)} (o_a1 : So a1) (hf : f4_takeWord mm a1 = some x) : Ct l C yX4_takeWord cX4_takeWord 2 (some .boolean) 5 107 [.ref 73, .ref a1] mm (some (.int x.1)) x.2 := by
  refine Ct.of (tb := tbX4_takeWord) hj miX4_takeWord.2.1 miX4_takeWord.1 dtX4_takeWord (Nat.le_of_ble_eq_true rfl) ?_
  intro E B hQ hr X
  unfold f4_takeWord at hf
  show G E 2 0 [(0, .ref 73), (1, .ref a1)] [] mm
  refine z_aload_n B 0 rfl 0 0 rfl rfl ?_
  refine z_aload_n B 1 rfl 1 1 rfl rfl ?_
  obtain ⟨r1, ec, hf⟩ := bd_e hf
  refine z_callV 73 4 [.ref a1] [] [.int r1] X B 2 rfl ob_73 rfl rfl miX4_isWord ⟨(iX4_takeWord _ (List.mem_of_getElem? (i := 0) rfl)), (iX4_takeWord _ (List.mem_of_getElem? (i := 1) rfl)), (iX4_takeWord _ (List.mem_of_getElem? (i := 2) rfl))⟩ (ctX4_isWord hj o_a1 ec) ⟨Nat.le_of_ble_eq_true rfl, Nat.le_of_ble_eq_true rfl⟩ rfl rfl (Nat.le_of_ble_eq_true rfl) rfl ?_
  by_cases hc : r1 = 0
  · replace hf := (if_pos hc).symm.trans hf
    refine z_if_ne_f B 3 rfl 10 (by decide) hc ?_
    refine z_iconst 0 B 4 rfl (by decide) ?_
    cases hf
    exact z_iret B 5 rfl (by decide) hQ hr
  · replace hf := (if_neg hc).symm.trans hf
    refine z_if_ne_t B 3 rfl 10 (by decide) hc ?_
    refine z_aload_n B 6 rfl 0 0 rfl rfl ?_
    obtain ⟨r2, ec, hf⟩ := bd_e hf
    refine z_callV 73 4 [] [] [] X B 7 rfl ob_73 rfl rfl miX4_advance ⟨(iX4_takeWord _ (List.mem_of_getElem? (i := 3) rfl)), (iX4_takeWord _ (List.mem_of_getElem? (i := 4) rfl)), (iX4_takeWord _ (List.mem_of_getElem? (i := 5) rfl))⟩ (ctX4_advance hj ec) ⟨Nat.le_of_ble_eq_true rfl, Nat.le_of_ble_eq_true rfl⟩ rfl rfl (Nat.le_of_ble_eq_true rfl) rfl ?_
    refine z_iconst 1 B 8 rfl (by decide) ?_
    cases hf
    exact z_iret B 9 rfl (by decide) hQ hr
/-! ZoneCapacity$Teller.tellResource()Z -/
def tbX4_tellResource : Tb := [(0, .aload_n 0, 1, 1), (1, .getfield 21, 3, 4), (4, .getfield 123, 3, 7), (7, .astore_n 1, 1, 8), (8, .aload_n 1, 1, 9), (9, .getfield 127, 3, 12), (12, .bipush 12, 2, 14), (14, .if_icmp .lt 13, 3, 17), (17, .aload_n 0, 1, 18), (18, .iconst 3, 1, 19), (19, .aload_n 0, 1, 20), (20, .getfield 81, 3, 23), (23, .invokevirtual 84, 3, 26), (26, .ireturn, 1, 27), (27, .aload_n 0, 1, 28), (28, .invokevirtual 32, 3, 31), (31, .aload_n 0, 1, 32), (32, .iconst 0, 1, 33), (33, .aload_n 0, 1, 34), (34, .getfield 21, 3, 37), (37, .getfield 88, 3, 40), (40, .getfield 92, 3, 43), (43, .iconst 1, 1, 44), (44, .isub, 1, 45), (45, .invokevirtual 97, 3, 48), (48, .ifCond .ne 5, 3, 51), (51, .iconst 0, 1, 52), (52, .ireturn, 1, 53), (53, .aload_n 0, 1, 54), (54, .getfield 100, 3, 57), (57, .istore_n 2, 1, 58), (58, .aload_n 0, 1, 59), (59, .iconst 1, 1, 60), (60, .sipush 500, 3, 63), (63, .invokevirtual 97, 3, 66), (66, .ifCond .ne 5, 3, 69), (69, .iconst 0, 1, 70), (70, .ireturn, 1, 71), (71, .aload_n 0, 1, 72), (72, .getfield 100, 3, 75), (75, .istore_n 3, 1, 76), (76, .aload_n 0, 1, 77), (77, .iconst 0, 1, 78), (78, .iconst 3, 1, 79), (79, .invokevirtual 97, 3, 82), (82, .ifCond .ne 5, 3, 85), (85, .iconst 0, 1, 86), (86, .ireturn, 1, 87), (87, .aload_n 0, 1, 88), (88, .getfield 100, 3, 91), (91, .istore 4, 2, 93), (93, .aload_n 0, 1, 94), (94, .iconst 0, 1, 95), (95, .iconst 5, 1, 96), (96, .invokevirtual 97, 3, 99), (99, .ifCond .ne 5, 3, 102), (102, .iconst 0, 1, 103), (103, .ireturn, 1, 104), (104, .aload_n 0, 1, 105), (105, .getfield 100, 3, 108), (108, .istore 5, 2, 110), (110, .aload_n 0, 1, 111), (111, .ldc 130, 2, 113), (113, .invokevirtual 132, 3, 116), (116, .istore 6, 2, 118), (118, .aload_n 0, 1, 119), (119, .ldc 135, 2, 121), (121, .invokevirtual 132, 3, 124), (124, .istore 7, 2, 126), (126, .aload_n 1, 1, 127), (127, .iload_n 2, 1, 128), (128, .iload_n 3, 1, 129), (129, .iload 4, 2, 131), (131, .iload 5, 2, 133), (133, .iload 6, 2, 135), (135, .iload 7, 2, 137), (137, .invokevirtual 137, 3, 140), (140, .pop, 1, 141), (141, .aload_n 0, 1, 142), (142, .invokevirtual 107, 3, 145), (145, .ireturn, 1, 146)]
theorem dtX4_tellResource : ∀ q ∈ tbX4_tellResource, decode cX4_tellResource q.1 = .ok (q.2.1, q.2.2.1) ∧ q.1 + q.2.2.1 = q.2.2.2 := by decide +kernel
theorem miX4_tellResource : MI yX4_tellResource cX4_tellResource 8 (some .boolean) 0 := ⟨tw_mem (List.mem_of_getElem? (i := 502) (by decide +kernel)) rfl, by decide, by decide +kernel, tw_mem (List.mem_of_getElem? (i := 76) (by decide +kernel)) rfl⟩
abbrev rmX4_tellResource : Room := { frames := 6, cells := 0, slots := 0, locals := 128 }
def wX4_tellResource : List Cond := [.fieldLink "ZoneCapacity$Teller" 21 "ZoneCapacity$Teller" "draft" "LZoneCapacity$Market;", .fieldLink "ZoneCapacity$Teller" 123 "ZoneCapacity$Market" "offers" "LZoneCapacity$Offers;", .fieldLink "ZoneCapacity$Teller" 127 "ZoneCapacity$Offers" "many" "I", .methodLink "ZoneCapacity$Teller" 32 yX4_advance, .instanceMethod yX4_advance, .selects "ZoneCapacity$Teller" yX4_advance yX4_advance, .fieldLink "ZoneCapacity$Teller" 88 "ZoneCapacity$Market" "zones" "LZoneCapacity$Zones;", .fieldLink "ZoneCapacity$Teller" 92 "ZoneCapacity$Zones" "many" "I", .methodLink "ZoneCapacity$Teller" 97 yX4_takeNumber, .instanceMethod yX4_takeNumber, .selects "ZoneCapacity$Teller" yX4_takeNumber yX4_takeNumber, .fieldLink "ZoneCapacity$Teller" 100 "ZoneCapacity$Teller" "got" "I", .methodLink "ZoneCapacity$Teller" 132 yX4_takeWord, .instanceMethod yX4_takeWord, .selects "ZoneCapacity$Teller" yX4_takeWord yX4_takeWord, .methodLink "ZoneCapacity$Teller" 137 yX2_add, .instanceMethod yX2_add, .selects "ZoneCapacity$Offers" yX2_add yX2_add, .methodLink "ZoneCapacity$Teller" 107 yX4_takeEnd, .instanceMethod yX4_takeEnd, .selects "ZoneCapacity$Teller" yX4_takeEnd yX4_takeEnd, .fieldLink "ZoneCapacity$Teller" 81 "ZoneCapacity$Teller" "place" "I", .methodLink "ZoneCapacity$Teller" 84 yX4_blame, .instanceMethod yX4_blame, .selects "ZoneCapacity$Teller" yX4_blame yX4_blame]
theorem iX4_tellResource : ∀ w ∈ wX4_tellResource, w ∈ TW := tw_of (ids := [289, 214, 157, 381, 383, 0, 210, 116, 462, 464, 5, 297, 504, 506, 9, 509, 510, 511, 472, 474, 6, 294, 458, 460, 4]) (by decide +kernel)
def f4_tellResource (mm : Mem) : Option (Int32 × Mem) := if (mm 84 0) < (12 : Int32) then bd (f4_advance mm) (fun r1 => bd (f4_takeNumber r1 (0 : Int32) ((r1 77 0) - (1 : Int32))) (fun r2 => if r2.1 = 0 then some ((0 : Int32), r2.2) else nm (r2.2 73 7) (fun v3 => bd (f4_takeNumber r2.2 (1 : Int32) (500 : Int32)) (fun r4 => if r4.1 = 0 then some ((0 : Int32), r4.2) else nm (r4.2 73 7) (fun v5 => bd (f4_takeNumber r4.2 (0 : Int32) (3 : Int32)) (fun r6 => if r6.1 = 0 then some ((0 : Int32), r6.2) else nm (r6.2 73 7) (fun v7 => bd (f4_takeNumber r6.2 (0 : Int32) (5 : Int32)) (fun r8 => if r8.1 = 0 then some ((0 : Int32), r8.2) else nm (r8.2 73 7) (fun v9 => bd (f4_takeWord r8.2 1007) (fun r10 => bd (f4_takeWord r10.2 1008) (fun r11 => bd (f2_add r11.2 84 v3 v5 v7 v9 r10.1 r11.1) (fun r12 => bd (f4_takeEnd r12.2) (fun r13 => bok r13.1 (some (r13.1, r13.2))))))))))))))) else bd (f4_blame mm (3 : Int32) (mm 73 4)) (fun r14 => bok r14.1 (some (r14.1, r14.2)))
theorem ctX4_tellResource {l : Launch} {C : Cfg} (hj : Dj C) {mm : Mem} {x : (Int32 × Mem)} (hf : f4_tellResource mm = some x) : Ct l C yX4_tellResource cX4_tellResource 8 (some .boolean) 6 128 [.ref 73] mm (some (.int x.1)) x.2 := by
  refine Ct.of (tb := tbX4_tellResource) hj miX4_tellResource.2.1 miX4_tellResource.1 dtX4_tellResource (Nat.le_of_ble_eq_true rfl) ?_
  intro E B hQ hr X
  unfold f4_tellResource at hf
  show G E 8 0 [(0, .ref 73)] [] mm
  refine z_aload_n B 0 rfl 0 0 rfl rfl ?_
  refine z_getr 4 1 73 B 1 rfl ob_73 rfl (iX4_tellResource _ (List.mem_of_getElem? (i := 0) rfl)) rfl ?_
  refine z_getr 1 1 76 B 2 rfl ob_76 rfl (iX4_tellResource _ (List.mem_of_getElem? (i := 1) rfl)) rfl ?_
  refine z_astore_n [(1, .ref 84), (0, .ref 73)] B 3 rfl 1 rfl (by decide) rfl ?_
  refine z_aload_n B 4 rfl 1 0 rfl rfl ?_
  refine z_geti 2 0 84 B 5 rfl ob_84 rfl (iX4_tellResource _ (List.mem_of_getElem? (i := 2) rfl)) rfl ?_
  refine z_bipush 12 B 6 rfl (by decide) ?_
  by_cases hc : (mm 84 0) < (12 : Int32)
  · replace hf := (if_pos hc).symm.trans hf
    refine z_icmp_lt_t B 7 rfl 27 (by decide) hc ?_
    refine z_aload_n B 14 rfl 0 1 rfl rfl ?_
    obtain ⟨r1, ec, hf⟩ := bd_e hf
    refine z_callV 73 4 [] [] [] X B 15 rfl ob_73 rfl rfl miX4_advance ⟨(iX4_tellResource _ (List.mem_of_getElem? (i := 3) rfl)), (iX4_tellResource _ (List.mem_of_getElem? (i := 4) rfl)), (iX4_tellResource _ (List.mem_of_getElem? (i := 5) rfl))⟩ (ctX4_advance hj ec) ⟨Nat.le_of_ble_eq_true rfl, Nat.le_of_ble_eq_true rfl⟩ rfl rfl (Nat.le_of_ble_eq_true rfl) rfl ?_
    refine z_aload_n B 16 rfl 0 1 rfl rfl ?_
    refine z_iconst 0 B 17 rfl (by decide) ?_
    refine z_aload_n B 18 rfl 0 1 rfl rfl ?_
    refine z_getr 4 1 73 B 19 rfl ob_73 rfl (iX4_tellResource _ (List.mem_of_getElem? (i := 0) rfl)) rfl ?_
    refine z_getr 1 0 76 B 20 rfl ob_76 rfl (iX4_tellResource _ (List.mem_of_getElem? (i := 6) rfl)) rfl ?_
    refine z_geti 5 0 77 B 21 rfl ob_77 rfl (iX4_tellResource _ (List.mem_of_getElem? (i := 7) rfl)) rfl ?_
    refine z_iconst 1 B 22 rfl (by decide) ?_
    refine z_isub B 23 rfl ?_
    obtain ⟨r2, ec, hf⟩ := bd_e hf
    refine z_callV 73 4 [.int (0 : Int32), .int ((r1 77 0) - (1 : Int32))] [] [.int r2.1] X B 24 rfl ob_73 rfl rfl miX4_takeNumber ⟨(iX4_tellResource _ (List.mem_of_getElem? (i := 8) rfl)), (iX4_tellResource _ (List.mem_of_getElem? (i := 9) rfl)), (iX4_tellResource _ (List.mem_of_getElem? (i := 10) rfl))⟩ (ctX4_takeNumber hj ec) ⟨Nat.le_of_ble_eq_true rfl, Nat.le_of_ble_eq_true rfl⟩ rfl rfl (Nat.le_of_ble_eq_true rfl) rfl ?_
    by_cases hc : r2.1 = 0
    · replace hf := (if_pos hc).symm.trans hf
      refine z_if_ne_f B 25 rfl 53 (by decide) hc ?_
      refine z_iconst 0 B 26 rfl (by decide) ?_
      cases hf
      exact z_iret B 27 rfl (by decide) hQ hr
    · replace hf := (if_neg hc).symm.trans hf
      refine z_if_ne_t B 25 rfl 53 (by decide) hc ?_
      refine z_aload_n B 28 rfl 0 1 rfl rfl ?_
      refine z_geti 4 7 73 B 29 rfl ob_73 rfl (iX4_tellResource _ (List.mem_of_getElem? (i := 11) rfl)) rfl ?_
      obtain ⟨v3, ex, hf⟩ := nm_x hf
      refine z_top ex ?_
      refine z_istore_n [(2, .int v3), (1, .ref 84), (0, .ref 73)] B 30 rfl 2 rfl (by decide) rfl ?_
      refine z_aload_n B 31 rfl 0 2 rfl rfl ?_
      refine z_iconst 1 B 32 rfl (by decide) ?_
      refine z_sipush 500 B 33 rfl (by decide) ?_
      obtain ⟨r4, ec, hf⟩ := bd_e hf
      refine z_callV 73 4 [.int (1 : Int32), .int (500 : Int32)] [] [.int r4.1] X B 34 rfl ob_73 rfl rfl miX4_takeNumber ⟨(iX4_tellResource _ (List.mem_of_getElem? (i := 8) rfl)), (iX4_tellResource _ (List.mem_of_getElem? (i := 9) rfl)), (iX4_tellResource _ (List.mem_of_getElem? (i := 10) rfl))⟩ (ctX4_takeNumber hj ec) ⟨Nat.le_of_ble_eq_true rfl, Nat.le_of_ble_eq_true rfl⟩ rfl rfl (Nat.le_of_ble_eq_true rfl) rfl ?_
      by_cases hc : r4.1 = 0
      · replace hf := (if_pos hc).symm.trans hf
        refine z_if_ne_f B 35 rfl 71 (by decide) hc ?_
        refine z_iconst 0 B 36 rfl (by decide) ?_
        cases hf
        exact z_iret B 37 rfl (by decide) hQ hr
      · replace hf := (if_neg hc).symm.trans hf
        refine z_if_ne_t B 35 rfl 71 (by decide) hc ?_
        refine z_aload_n B 38 rfl 0 2 rfl rfl ?_
        refine z_geti 4 7 73 B 39 rfl ob_73 rfl (iX4_tellResource _ (List.mem_of_getElem? (i := 11) rfl)) rfl ?_
        obtain ⟨v5, ex, hf⟩ := nm_x hf
        refine z_top ex ?_
        refine z_istore_n [(3, .int v5), (2, .int v3), (1, .ref 84), (0, .ref 73)] B 40 rfl 3 rfl (by decide) rfl ?_
        refine z_aload_n B 41 rfl 0 3 rfl rfl ?_
        refine z_iconst 0 B 42 rfl (by decide) ?_
        refine z_iconst 3 B 43 rfl (by decide) ?_
        obtain ⟨r6, ec, hf⟩ := bd_e hf
        refine z_callV 73 4 [.int (0 : Int32), .int (3 : Int32)] [] [.int r6.1] X B 44 rfl ob_73 rfl rfl miX4_takeNumber ⟨(iX4_tellResource _ (List.mem_of_getElem? (i := 8) rfl)), (iX4_tellResource _ (List.mem_of_getElem? (i := 9) rfl)), (iX4_tellResource _ (List.mem_of_getElem? (i := 10) rfl))⟩ (ctX4_takeNumber hj ec) ⟨Nat.le_of_ble_eq_true rfl, Nat.le_of_ble_eq_true rfl⟩ rfl rfl (Nat.le_of_ble_eq_true rfl) rfl ?_
        by_cases hc : r6.1 = 0
        · replace hf := (if_pos hc).symm.trans hf
          refine z_if_ne_f B 45 rfl 87 (by decide) hc ?_
          refine z_iconst 0 B 46 rfl (by decide) ?_
          cases hf
          exact z_iret B 47 rfl (by decide) hQ hr
        · replace hf := (if_neg hc).symm.trans hf
          refine z_if_ne_t B 45 rfl 87 (by decide) hc ?_
          refine z_aload_n B 48 rfl 0 3 rfl rfl ?_
          refine z_geti 4 7 73 B 49 rfl ob_73 rfl (iX4_tellResource _ (List.mem_of_getElem? (i := 11) rfl)) rfl ?_
          obtain ⟨v7, ex, hf⟩ := nm_x hf
          refine z_top ex ?_
          refine z_istore [(4, .int v7), (3, .int v5), (2, .int v3), (1, .ref 84), (0, .ref 73)] B 50 rfl (by decide) rfl ?_
          refine z_aload_n B 51 rfl 0 4 rfl rfl ?_
          refine z_iconst 0 B 52 rfl (by decide) ?_
          refine z_iconst 5 B 53 rfl (by decide) ?_
          obtain ⟨r8, ec, hf⟩ := bd_e hf
          refine z_callV 73 4 [.int (0 : Int32), .int (5 : Int32)] [] [.int r8.1] X B 54 rfl ob_73 rfl rfl miX4_takeNumber ⟨(iX4_tellResource _ (List.mem_of_getElem? (i := 8) rfl)), (iX4_tellResource _ (List.mem_of_getElem? (i := 9) rfl)), (iX4_tellResource _ (List.mem_of_getElem? (i := 10) rfl))⟩ (ctX4_takeNumber hj ec) ⟨Nat.le_of_ble_eq_true rfl, Nat.le_of_ble_eq_true rfl⟩ rfl rfl (Nat.le_of_ble_eq_true rfl) rfl ?_
          by_cases hc : r8.1 = 0
          · replace hf := (if_pos hc).symm.trans hf
            refine z_if_ne_f B 55 rfl 104 (by decide) hc ?_
            refine z_iconst 0 B 56 rfl (by decide) ?_
            cases hf
            exact z_iret B 57 rfl (by decide) hQ hr
          · replace hf := (if_neg hc).symm.trans hf
            refine z_if_ne_t B 55 rfl 104 (by decide) hc ?_
            refine z_aload_n B 58 rfl 0 4 rfl rfl ?_
            refine z_geti 4 7 73 B 59 rfl ob_73 rfl (iX4_tellResource _ (List.mem_of_getElem? (i := 11) rfl)) rfl ?_
            obtain ⟨v9, ex, hf⟩ := nm_x hf
            refine z_top ex ?_
            refine z_istore [(5, .int v9), (4, .int v7), (3, .int v5), (2, .int v3), (1, .ref 84), (0, .ref 73)] B 60 rfl (by decide) rfl ?_
            refine z_aload_n B 61 rfl 0 5 rfl rfl ?_
            refine z_ldcs 7 1007 B 62 rfl rfl rfl rfl ?_
            obtain ⟨r10, ec, hf⟩ := bd_e hf
            refine z_callV 73 4 [.ref 1007] [] [.int r10.1] X B 63 rfl ob_73 rfl rfl miX4_takeWord ⟨(iX4_tellResource _ (List.mem_of_getElem? (i := 12) rfl)), (iX4_tellResource _ (List.mem_of_getElem? (i := 13) rfl)), (iX4_tellResource _ (List.mem_of_getElem? (i := 14) rfl))⟩ (ctX4_takeWord hj (so_mk 7 (by decide)) ec) ⟨Nat.le_of_ble_eq_true rfl, Nat.le_of_ble_eq_true rfl⟩ rfl rfl (Nat.le_of_ble_eq_true rfl) rfl ?_
            refine z_istore [(6, .int r10.1), (5, .int v9), (4, .int v7), (3, .int v5), (2, .int v3), (1, .ref 84), (0, .ref 73)] B 64 rfl (by decide) rfl ?_
            refine z_aload_n B 65 rfl 0 6 rfl rfl ?_
            refine z_ldcs 8 1008 B 66 rfl rfl rfl rfl ?_
            obtain ⟨r11, ec, hf⟩ := bd_e hf
            refine z_callV 73 4 [.ref 1008] [] [.int r11.1] X B 67 rfl ob_73 rfl rfl miX4_takeWord ⟨(iX4_tellResource _ (List.mem_of_getElem? (i := 12) rfl)), (iX4_tellResource _ (List.mem_of_getElem? (i := 13) rfl)), (iX4_tellResource _ (List.mem_of_getElem? (i := 14) rfl))⟩ (ctX4_takeWord hj (so_mk 8 (by decide)) ec) ⟨Nat.le_of_ble_eq_true rfl, Nat.le_of_ble_eq_true rfl⟩ rfl rfl (Nat.le_of_ble_eq_true rfl) rfl ?_
            refine z_istore [(7, .int r11.1), (6, .int r10.1), (5, .int v9), (4, .int v7), (3, .int v5), (2, .int v3), (1, .ref 84), (0, .ref 73)] B 68 rfl (by decide) rfl ?_
            refine z_aload_n B 69 rfl 1 6 rfl rfl ?_
            refine z_iload_n B 70 rfl 2 5 rfl rfl ?_
            refine z_iload_n B 71 rfl 3 4 rfl rfl ?_
            refine z_iload B 72 rfl 3 rfl ?_
            refine z_iload B 73 rfl 2 rfl ?_
            refine z_iload B 74 rfl 1 rfl ?_
            refine z_iload B 75 rfl 0 rfl ?_
            obtain ⟨r12, ec, hf⟩ := bd_e hf
            refine z_callV 84 2 [.int v3, .int v5, .int v7, .int v9, .int r10.1, .int r11.1] [] [.int r12.1] X B 76 rfl ob_84 rfl rfl miX2_add ⟨(iX4_tellResource _ (List.mem_of_getElem? (i := 15) rfl)), (iX4_tellResource _ (List.mem_of_getElem? (i := 16) rfl)), (iX4_tellResource _ (List.mem_of_getElem? (i := 17) rfl))⟩ (ctX2_add hj ob_84 ec) ⟨Nat.le_of_ble_eq_true rfl, Nat.le_of_ble_eq_true rfl⟩ rfl rfl (Nat.le_of_ble_eq_true rfl) rfl ?_
            refine z_pop B 77 rfl rfl ?_
            refine z_aload_n B 78 rfl 0 7 rfl rfl ?_
            obtain ⟨r13, ec, hf⟩ := bd_e hf
            refine z_callV 73 4 [] [] [.int r13.1] X B 79 rfl ob_73 rfl rfl miX4_takeEnd ⟨(iX4_tellResource _ (List.mem_of_getElem? (i := 18) rfl)), (iX4_tellResource _ (List.mem_of_getElem? (i := 19) rfl)), (iX4_tellResource _ (List.mem_of_getElem? (i := 20) rfl))⟩ (ctX4_takeEnd hj ec) ⟨Nat.le_of_ble_eq_true rfl, Nat.le_of_ble_eq_true rfl⟩ rfl rfl (Nat.le_of_ble_eq_true rfl) rfl ?_
            obtain ⟨hb, hf⟩ := bok_e hf
            cases hf
            exact z_iret B 80 rfl (bok_n hb) hQ hr
  · replace hf := (if_neg hc).symm.trans hf
    refine z_icmp_lt_f B 7 rfl 27 (by decide) hc ?_
    refine z_aload_n B 8 rfl 0 1 rfl rfl ?_
    refine z_iconst 3 B 9 rfl (by decide) ?_
    refine z_aload_n B 10 rfl 0 1 rfl rfl ?_
    refine z_geti 4 4 73 B 11 rfl ob_73 rfl (iX4_tellResource _ (List.mem_of_getElem? (i := 21) rfl)) rfl ?_
    obtain ⟨r14, ec, hf⟩ := bd_e hf
    refine z_callV 73 4 [.int (3 : Int32), .int (mm 73 4)] [] [.int r14.1] X B 12 rfl ob_73 rfl rfl miX4_blame ⟨(iX4_tellResource _ (List.mem_of_getElem? (i := 22) rfl)), (iX4_tellResource _ (List.mem_of_getElem? (i := 23) rfl)), (iX4_tellResource _ (List.mem_of_getElem? (i := 24) rfl))⟩ (ctX4_blame hj ec) ⟨Nat.le_of_ble_eq_true rfl, Nat.le_of_ble_eq_true rfl⟩ rfl rfl (Nat.le_of_ble_eq_true rfl) rfl ?_
    obtain ⟨hb, hf⟩ := bok_e hf
    cases hf
    exact z_iret B 13 rfl (bok_n hb) hQ hr
/-! ZoneCapacity$Teller.tellOffer()Z -/
def tbX4_tellOffer : Tb := [(0, .aload_n 0, 1, 1), (1, .getfield 21, 3, 4), (4, .getfield 123, 3, 7), (7, .astore_n 1, 1, 8), (8, .aload_n 0, 1, 9), (9, .getfield 81, 3, 12), (12, .istore_n 2, 1, 13), (13, .aload_n 0, 1, 14), (14, .invokevirtual 32, 3, 17), (17, .aload_n 0, 1, 18), (18, .iconst 0, 1, 19), (19, .aload_n 1, 1, 20), (20, .getfield 127, 3, 23), (23, .iconst 1, 1, 24), (24, .isub, 1, 25), (25, .invokevirtual 97, 3, 28), (28, .ifCond .ne 5, 3, 31), (31, .iconst 0, 1, 32), (32, .ireturn, 1, 33), (33, .aload_n 0, 1, 34), (34, .getfield 100, 3, 37), (37, .istore_n 3, 1, 38), (38, .aload_n 1, 1, 39), (39, .iload_n 3, 1, 40), (40, .invokevirtual 140, 3, 43), (43, .pop, 1, 44), (44, .iconst 0, 1, 45), (45, .istore 4, 2, 47), (47, .iload 4, 2, 49), (49, .iconst 3, 1, 50), (50, .if_icmp .gt 81, 3, 53), (53, .aload_n 0, 1, 54), (54, .getfield 35, 3, 57), (57, .iconst 1, 1, 58), (58, .if_icmp .ne 73, 3, 61), (61, .iload 4, 2, 63), (63, .iconst 3, 1, 64), (64, .if_icmp .ne 13, 3, 67), (67, .aload_n 0, 1, 68), (68, .iconst 3, 1, 69), (69, .aload_n 0, 1, 70), (70, .getfield 81, 3, 73), (73, .invokevirtual 84, 3, 76), (76, .ireturn, 1, 77), (77, .aload_n 0, 1, 78), (78, .iconst 1, 1, 79), (79, .sipush 500, 3, 82), (82, .invokevirtual 97, 3, 85), (85, .ifCond .ne 5, 3, 88), (88, .iconst 0, 1, 89), (89, .ireturn, 1, 90), (90, .aload_n 0, 1, 91), (91, .getfield 100, 3, 94), (94, .istore 5, 2, 96), (96, .aload_n 0, 1, 97), (97, .aload_n 1, 1, 98), (98, .iload_n 3, 1, 99), (99, .invokevirtual 143, 3, 102), (102, .sipush 9999, 3, 105), (105, .invokevirtual 97, 3, 108), (108, .ifCond .ne 5, 3, 111), (111, .iconst 0, 1, 112), (112, .ireturn, 1, 113), (113, .aload_n 1, 1, 114), (114, .iload_n 3, 1, 115), (115, .iload 5, 2, 117), (117, .aload_n 0, 1, 118), (118, .getfield 100, 3, 121), (121, .invokevirtual 144, 3, 124), (124, .pop, 1, 125), (125, .iinc 4 1, 3, 128), (128, .goto (-81), 3, 131), (131, .aload_n 0, 1, 132), (132, .invokevirtual 107, 3, 135), (135, .ifCond .ne 5, 3, 138), (138, .iconst 0, 1, 139), (139, .ireturn, 1, 140), (140, .aload_n 1, 1, 141), (141, .iload_n 3, 1, 142), (142, .invokevirtual 147, 3, 145), (145, .ifCond .ge 12, 3, 148), (148, .aload_n 0, 1, 149), (149, .iconst 4, 1, 150), (150, .iload_n 2, 1, 151), (151, .invokevirtual 84, 3, 154), (154, .ifCond .eq 7, 3, 157), (157, .iconst 1, 1, 158), (158, .goto 4, 3, 161), (161, .iconst 0, 1, 162), (162, .ireturn, 1, 163)]
theorem dtX4_tellOffer : ∀ q ∈ tbX4_tellOffer, decode cX4_tellOffer q.1 = .ok (q.2.1, q.2.2.1) ∧ q.1 + q.2.2.1 = q.2.2.2 := by decide +kernel
theorem miX4_tellOffer : MI yX4_tellOffer cX4_tellOffer 6 (some .boolean) 0 := ⟨tw_mem (List.mem_of_getElem? (i := 518) (by decide +kernel)) rfl, by decide, by decide +kernel, tw_mem (List.mem_of_getElem? (i := 76) (by decide +kernel)) rfl⟩
abbrev rmX4_tellOffer : Room := { frames := 3, cells := 0, slots := 0, locals := 64 }
def wX4_tellOffer : List Cond := [.fieldLink "ZoneCapacity$Teller" 21 "ZoneCapacity$Teller" "draft" "LZoneCapacity$Market;", .fieldLink "ZoneCapacity$Teller" 123 "ZoneCapacity$Market" "offers" "LZoneCapacity$Offers;", .fieldLink "ZoneCapacity$Teller" 81 "ZoneCapacity$Teller" "place" "I", .methodLink "ZoneCapacity$Teller" 32 yX4_advance, .instanceMethod yX4_advance, .selects "ZoneCapacity$Teller" yX4_advance yX4_advance, .fieldLink "ZoneCapacity$Teller" 127 "ZoneCapacity$Offers" "many" "I", .methodLink "ZoneCapacity$Teller" 97 yX4_takeNumber, .instanceMethod yX4_takeNumber, .selects "ZoneCapacity$Teller" yX4_takeNumber yX4_takeNumber, .fieldLink "ZoneCapacity$Teller" 100 "ZoneCapacity$Teller" "got" "I", .methodLink "ZoneCapacity$Teller" 140 yX2_dropSteps, .instanceMethod yX2_dropSteps, .selects "ZoneCapacity$Offers" yX2_dropSteps yX2_dropSteps, .methodLink "ZoneCapacity$Teller" 107 yX4_takeEnd, .instanceMethod yX4_takeEnd, .selects "ZoneCapacity$Teller" yX4_takeEnd yX4_takeEnd, .methodLink "ZoneCapacity$Teller" 147 yX2_rest, .instanceMethod yX2_rest, .selects "ZoneCapacity$Offers" yX2_rest yX2_rest, .methodLink "ZoneCapacity$Teller" 84 yX4_blame, .instanceMethod yX4_blame, .selects "ZoneCapacity$Teller" yX4_blame yX4_blame, .fieldLink "ZoneCapacity$Teller" 35 "ZoneCapacity$Teller" "token" "I", .methodLink "ZoneCapacity$Teller" 143 yX2_lastPrice, .instanceMethod yX2_lastPrice, .selects "ZoneCapacity$Offers" yX2_lastPrice yX2_lastPrice, .methodLink "ZoneCapacity$Teller" 144 yX2_addStep, .instanceMethod yX2_addStep, .selects "ZoneCapacity$Offers" yX2_addStep yX2_addStep]
theorem iX4_tellOffer : ∀ w ∈ wX4_tellOffer, w ∈ TW := tw_of (ids := [289, 214, 294, 381, 383, 0, 157, 462, 464, 5, 297, 519, 520, 521, 472, 474, 6, 532, 533, 534, 458, 460, 4, 293, 524, 525, 526, 528, 529, 530]) (by decide +kernel)
def f4_tellOffer_j157 (mm : Mem) : Option (Int32 × Mem) := some ((1 : Int32), mm)
theorem f4_tellOffer_j157_ok {E : Ev} {l : Launch} {C : Cfg} {x : (Int32 × Mem)} (hj : Dj C) (X : Ec E l C rmX4_tellOffer) (B : Bx E RX4 tbX4_tellOffer 6 (some .boolean)) (hQ : Rt E) (hr : Rs E (some (.int x.1)) x.2) (mm : Mem) (hf : f4_tellOffer_j157 mm = some x) : G E 6 157 [] [] mm := by
  unfold f4_tellOffer_j157 at hf
  refine z_iconst 1 B 86 rfl (by decide) ?_
  refine z_goto B 87 rfl 162 (by decide) ?_
  cases hf
  exact z_iret B 89 rfl (by decide) hQ hr
def f4_tellOffer_j131 (x2 : Int32) (x3 : Int32) (mm : Mem) : Option (Int32 × Mem) := bd (f4_takeEnd mm) (fun r6 => if r6.1 = 0 then some ((0 : Int32), r6.2) else bd (f2_rest r6.2 84 x3) (fun r7 => if r7 < 0 then bd (f4_blame r6.2 (4 : Int32) x2) (fun r8 => if r8.1 = 0 then some ((0 : Int32), r8.2) else f4_tellOffer_j157 r8.2) else f4_tellOffer_j157 r6.2))
theorem f4_tellOffer_j131_ok {E : Ev} {l : Launch} {C : Cfg} {x : (Int32 × Mem)} (hj : Dj C) (X : Ec E l C rmX4_tellOffer) (B : Bx E RX4 tbX4_tellOffer 6 (some .boolean)) (hQ : Rt E) (hr : Rs E (some (.int x.1)) x.2) (x2 : Int32) (x3 : Int32) (mm : Mem) (hf : f4_tellOffer_j131 x2 x3 mm = some x) : G E 6 131 [(0, .ref 73), (1, .ref 84), (2, .int x2), (3, .int x3)] [] mm := by
  unfold f4_tellOffer_j131 at hf
  refine z_aload_n B 72 rfl 0 0 rfl rfl ?_
  obtain ⟨r6, ec, hf⟩ := bd_e hf
  refine z_callV 73 4 [] [] [.int r6.1] X B 73 rfl ob_73 rfl rfl miX4_takeEnd ⟨(iX4_tellOffer _ (List.mem_of_getElem? (i := 14) rfl)), (iX4_tellOffer _ (List.mem_of_getElem? (i := 15) rfl)), (iX4_tellOffer _ (List.mem_of_getElem? (i := 16) rfl))⟩ (ctX4_takeEnd hj ec) ⟨Nat.le_of_ble_eq_true rfl, Nat.le_of_ble_eq_true rfl⟩ rfl rfl (Nat.le_of_ble_eq_true rfl) rfl ?_
  by_cases hc : r6.1 = 0
  · replace hf := (if_pos hc).symm.trans hf
    refine z_if_ne_f B 74 rfl 140 (by decide) hc ?_
    refine z_iconst 0 B 75 rfl (by decide) ?_
    cases hf
    exact z_iret B 76 rfl (by decide) hQ hr
  · replace hf := (if_neg hc).symm.trans hf
    refine z_if_ne_t B 74 rfl 140 (by decide) hc ?_
    refine z_aload_n B 77 rfl 1 1 rfl rfl ?_
    refine z_iload_n B 78 rfl 3 3 rfl rfl ?_
    obtain ⟨r7, ec, hf⟩ := bd_e hf
    refine z_callV 84 2 [.int x3] [] [.int r7] X B 79 rfl ob_84 rfl rfl miX2_rest ⟨(iX4_tellOffer _ (List.mem_of_getElem? (i := 17) rfl)), (iX4_tellOffer _ (List.mem_of_getElem? (i := 18) rfl)), (iX4_tellOffer _ (List.mem_of_getElem? (i := 19) rfl))⟩ (ctX2_rest hj ob_84 ec) ⟨Nat.le_of_ble_eq_true rfl, Nat.le_of_ble_eq_true rfl⟩ rfl rfl (Nat.le_of_ble_eq_true rfl) rfl ?_
    by_cases hc : r7 < 0
    · replace hf := (if_pos hc).symm.trans hf
      refine z_if_ge_f B 80 rfl 157 (by decide) hc ?_
      refine z_aload_n B 81 rfl 0 0 rfl rfl ?_
      refine z_iconst 4 B 82 rfl (by decide) ?_
      refine z_iload_n B 83 rfl 2 2 rfl rfl ?_
      obtain ⟨r8, ec, hf⟩ := bd_e hf
      refine z_callV 73 4 [.int (4 : Int32), .int x2] [] [.int r8.1] X B 84 rfl ob_73 rfl rfl miX4_blame ⟨(iX4_tellOffer _ (List.mem_of_getElem? (i := 20) rfl)), (iX4_tellOffer _ (List.mem_of_getElem? (i := 21) rfl)), (iX4_tellOffer _ (List.mem_of_getElem? (i := 22) rfl))⟩ (ctX4_blame hj ec) ⟨Nat.le_of_ble_eq_true rfl, Nat.le_of_ble_eq_true rfl⟩ rfl rfl (Nat.le_of_ble_eq_true rfl) rfl ?_
      by_cases hc : r8.1 = 0
      · replace hf := (if_pos hc).symm.trans hf
        refine z_if_eq_t B 85 rfl 161 (by decide) hc ?_
        refine z_iconst 0 B 88 rfl (by decide) ?_
        cases hf
        exact z_iret B 89 rfl (by decide) hQ hr
      · replace hf := (if_neg hc).symm.trans hf
        refine z_if_eq_f B 85 rfl 161 (by decide) hc ?_
        refine z_sub [] [] rfl ?_
        exact f4_tellOffer_j157_ok hj X B hQ hr _ hf
    · replace hf := (if_neg hc).symm.trans hf
      refine z_if_ge_t B 80 rfl 157 (by decide) hc ?_
      refine z_sub [] [] rfl ?_
      exact f4_tellOffer_j157_ok hj X B hQ hr _ hf
def f4_tellOffer_l47 : Nat → Int32 → Int32 → Int32 → Mem → Option (Int32 × Mem)
  | 0, _, _, _, _ => none
  | n + 1, x2, x3, x4, mm => if (3 : Int32) < x4 then f4_tellOffer_j131 x2 x3 mm else if (mm 73 3) = (1 : Int32) then if x4 = (3 : Int32) then bd (f4_blame mm (3 : Int32) (mm 73 4)) (fun r15 => bok r15.1 (some (r15.1, r15.2))) else bd (f4_takeNumber mm (1 : Int32) (500 : Int32)) (fun r9 => if r9.1 = 0 then some ((0 : Int32), r9.2) else nm (r9.2 73 7) (fun v10 => bd (f2_lastPrice r9.2 84 x3) (fun r11 => bd (f4_takeNumber r9.2 r11 (9999 : Int32)) (fun r12 => if r12.1 = 0 then some ((0 : Int32), r12.2) else bd (f2_addStep r12.2 84 x3 v10 (r12.2 73 7)) (fun r13 => nm (x4 + 1) (fun v14 => f4_tellOffer_l47 n x2 x3 v14 r13.2)))))) else f4_tellOffer_j131 x2 x3 mm
theorem f4_tellOffer_l47_ok {E : Ev} {l : Launch} {C : Cfg} {x : (Int32 × Mem)} (hj : Dj C) (X : Ec E l C rmX4_tellOffer) (B : Bx E RX4 tbX4_tellOffer 6 (some .boolean)) (hQ : Rt E) (hr : Rs E (some (.int x.1)) x.2) (n : Nat) : ∀ (x2 : Int32) (x3 : Int32) (x4 : Int32) (mm : Mem), f4_tellOffer_l47 n x2 x3 x4 mm = some x → G E 6 47 [(0, .ref 73), (1, .ref 84), (2, .int x2), (3, .int x3), (4, .int x4)] [] mm := by
  induction n with
  | zero =>
    intro x2 x3 x4 mm hf
    rw [f4_tellOffer_l47] at hf
    cases hf
  | succ n ih =>
    intro x2 x3 x4 mm hf
    rw [f4_tellOffer_l47] at hf
    refine z_iload B 28 rfl 4 rfl ?_
    refine z_iconst 3 B 29 rfl (by decide) ?_
    by_cases hc : (3 : Int32) < x4
    · replace hf := (if_pos hc).symm.trans hf
      refine z_icmp_gt_t B 30 rfl 131 (by decide) hc ?_
      refine z_sub [(0, .ref 73), (1, .ref 84), (2, .int x2), (3, .int x3)] [0, 1, 2, 3] rfl ?_
      exact f4_tellOffer_j131_ok hj X B hQ hr _ _ _ hf
    · replace hf := (if_neg hc).symm.trans hf
      refine z_icmp_gt_f B 30 rfl 131 (by decide) hc ?_
      refine z_aload_n B 31 rfl 0 0 rfl rfl ?_
      refine z_geti 4 3 73 B 32 rfl ob_73 rfl (iX4_tellOffer _ (List.mem_of_getElem? (i := 23) rfl)) rfl ?_
      refine z_iconst 1 B 33 rfl (by decide) ?_
      by_cases hc : (mm 73 3) = (1 : Int32)
      · replace hf := (if_pos hc).symm.trans hf
        refine z_icmp_ne_f B 34 rfl 131 (by decide) hc ?_
        refine z_iload B 35 rfl 4 rfl ?_
        refine z_iconst 3 B 36 rfl (by decide) ?_
        by_cases hc : x4 = (3 : Int32)
        · replace hf := (if_pos hc).symm.trans hf
          refine z_icmp_ne_f B 37 rfl 77 (by decide) hc ?_
          refine z_aload_n B 38 rfl 0 0 rfl rfl ?_
          refine z_iconst 3 B 39 rfl (by decide) ?_
          refine z_aload_n B 40 rfl 0 0 rfl rfl ?_
          refine z_geti 4 4 73 B 41 rfl ob_73 rfl (iX4_tellOffer _ (List.mem_of_getElem? (i := 2) rfl)) rfl ?_
          obtain ⟨r15, ec, hf⟩ := bd_e hf
          refine z_callV 73 4 [.int (3 : Int32), .int (mm 73 4)] [] [.int r15.1] X B 42 rfl ob_73 rfl rfl miX4_blame ⟨(iX4_tellOffer _ (List.mem_of_getElem? (i := 20) rfl)), (iX4_tellOffer _ (List.mem_of_getElem? (i := 21) rfl)), (iX4_tellOffer _ (List.mem_of_getElem? (i := 22) rfl))⟩ (ctX4_blame hj ec) ⟨Nat.le_of_ble_eq_true rfl, Nat.le_of_ble_eq_true rfl⟩ rfl rfl (Nat.le_of_ble_eq_true rfl) rfl ?_
          obtain ⟨hb, hf⟩ := bok_e hf
          cases hf
          exact z_iret B 43 rfl (bok_n hb) hQ hr
        · replace hf := (if_neg hc).symm.trans hf
          refine z_icmp_ne_t B 37 rfl 77 (by decide) hc ?_
          refine z_aload_n B 44 rfl 0 0 rfl rfl ?_
          refine z_iconst 1 B 45 rfl (by decide) ?_
          refine z_sipush 500 B 46 rfl (by decide) ?_
          obtain ⟨r9, ec, hf⟩ := bd_e hf
          refine z_callV 73 4 [.int (1 : Int32), .int (500 : Int32)] [] [.int r9.1] X B 47 rfl ob_73 rfl rfl miX4_takeNumber ⟨(iX4_tellOffer _ (List.mem_of_getElem? (i := 7) rfl)), (iX4_tellOffer _ (List.mem_of_getElem? (i := 8) rfl)), (iX4_tellOffer _ (List.mem_of_getElem? (i := 9) rfl))⟩ (ctX4_takeNumber hj ec) ⟨Nat.le_of_ble_eq_true rfl, Nat.le_of_ble_eq_true rfl⟩ rfl rfl (Nat.le_of_ble_eq_true rfl) rfl ?_
          by_cases hc : r9.1 = 0
          · replace hf := (if_pos hc).symm.trans hf
            refine z_if_ne_f B 48 rfl 90 (by decide) hc ?_
            refine z_iconst 0 B 49 rfl (by decide) ?_
            cases hf
            exact z_iret B 50 rfl (by decide) hQ hr
          · replace hf := (if_neg hc).symm.trans hf
            refine z_if_ne_t B 48 rfl 90 (by decide) hc ?_
            refine z_aload_n B 51 rfl 0 0 rfl rfl ?_
            refine z_geti 4 7 73 B 52 rfl ob_73 rfl (iX4_tellOffer _ (List.mem_of_getElem? (i := 10) rfl)) rfl ?_
            obtain ⟨v10, ex, hf⟩ := nm_x hf
            refine z_top ex ?_
            refine z_istore [(5, .int v10), (0, .ref 73), (1, .ref 84), (2, .int x2), (3, .int x3), (4, .int x4)] B 53 rfl (by decide) rfl ?_
            refine z_aload_n B 54 rfl 0 1 rfl rfl ?_
            refine z_aload_n B 55 rfl 1 2 rfl rfl ?_
            refine z_iload_n B 56 rfl 3 4 rfl rfl ?_
            obtain ⟨r11, ec, hf⟩ := bd_e hf
            refine z_callV 84 2 [.int x3] [.ref 73] [.int r11, .ref 73] X B 57 rfl ob_84 rfl rfl miX2_lastPrice ⟨(iX4_tellOffer _ (List.mem_of_getElem? (i := 24) rfl)), (iX4_tellOffer _ (List.mem_of_getElem? (i := 25) rfl)), (iX4_tellOffer _ (List.mem_of_getElem? (i := 26) rfl))⟩ (ctX2_lastPrice hj ob_84 ec) ⟨Nat.le_of_ble_eq_true rfl, Nat.le_of_ble_eq_true rfl⟩ rfl rfl (Nat.le_of_ble_eq_true rfl) rfl ?_
            refine z_sipush 9999 B 58 rfl (by decide) ?_
            obtain ⟨r12, ec, hf⟩ := bd_e hf
            refine z_callV 73 4 [.int r11, .int (9999 : Int32)] [] [.int r12.1] X B 59 rfl ob_73 rfl rfl miX4_takeNumber ⟨(iX4_tellOffer _ (List.mem_of_getElem? (i := 7) rfl)), (iX4_tellOffer _ (List.mem_of_getElem? (i := 8) rfl)), (iX4_tellOffer _ (List.mem_of_getElem? (i := 9) rfl))⟩ (ctX4_takeNumber hj ec) ⟨Nat.le_of_ble_eq_true rfl, Nat.le_of_ble_eq_true rfl⟩ rfl rfl (Nat.le_of_ble_eq_true rfl) rfl ?_
            by_cases hc : r12.1 = 0
            · replace hf := (if_pos hc).symm.trans hf
              refine z_if_ne_f B 60 rfl 113 (by decide) hc ?_
              refine z_iconst 0 B 61 rfl (by decide) ?_
              cases hf
              exact z_iret B 62 rfl (by decide) hQ hr
            · replace hf := (if_neg hc).symm.trans hf
              refine z_if_ne_t B 60 rfl 113 (by decide) hc ?_
              refine z_aload_n B 63 rfl 1 2 rfl rfl ?_
              refine z_iload_n B 64 rfl 3 4 rfl rfl ?_
              refine z_iload B 65 rfl 0 rfl ?_
              refine z_aload_n B 66 rfl 0 1 rfl rfl ?_
              refine z_geti 4 7 73 B 67 rfl ob_73 rfl (iX4_tellOffer _ (List.mem_of_getElem? (i := 10) rfl)) rfl ?_
              obtain ⟨r13, ec, hf⟩ := bd_e hf
              refine z_callV 84 2 [.int x3, .int v10, .int (r12.2 73 7)] [] [.int r13.1] X B 68 rfl ob_84 rfl rfl miX2_addStep ⟨(iX4_tellOffer _ (List.mem_of_getElem? (i := 27) rfl)), (iX4_tellOffer _ (List.mem_of_getElem? (i := 28) rfl)), (iX4_tellOffer _ (List.mem_of_getElem? (i := 29) rfl))⟩ (ctX2_addStep hj ob_84 ec) ⟨Nat.le_of_ble_eq_true rfl, Nat.le_of_ble_eq_true rfl⟩ rfl rfl (Nat.le_of_ble_eq_true rfl) rfl ?_
              refine z_pop B 69 rfl rfl ?_
              obtain ⟨v14, ex, hf⟩ := nm_x hf
              refine z_iinc v14 [(4, .int v14), (5, .int v10), (0, .ref 73), (1, .ref 84), (2, .int x2), (3, .int x3)] B 70 rfl 5 rfl (ex.symm) (by decide) rfl ?_
              refine z_goto B 71 rfl 47 (by decide) ?_
              refine z_sub [(0, .ref 73), (1, .ref 84), (2, .int x2), (3, .int x3), (4, .int v14)] [2, 3, 4, 5, 0] rfl ?_
              exact ih _ _ _ _ hf
      · replace hf := (if_neg hc).symm.trans hf
        refine z_icmp_ne_t B 34 rfl 131 (by decide) hc ?_
        refine z_sub [(0, .ref 73), (1, .ref 84), (2, .int x2), (3, .int x3)] [0, 1, 2, 3] rfl ?_
        exact f4_tellOffer_j131_ok hj X B hQ hr _ _ _ hf
def f4_tellOffer (mm : Mem) : Option (Int32 × Mem) := nm (mm 73 4) (fun v1 => bd (f4_advance mm) (fun r2 => bd (f4_takeNumber r2 (0 : Int32) ((r2 84 0) - (1 : Int32))) (fun r3 => if r3.1 = 0 then some ((0 : Int32), r3.2) else nm (r3.2 73 7) (fun v4 => bd (f2_dropSteps r3.2 84 v4) (fun r5 => f4_tellOffer_l47 FU v1 v4 (0 : Int32) r5.2)))))
theorem ctX4_tellOffer {l : Launch} {C : Cfg} (hj : Dj C) {mm : Mem} {x : (Int32 × Mem)} (hf : f4_tellOffer mm = some x) : Ct l C yX4_tellOffer cX4_tellOffer 6 (some .boolean) 3 64 [.ref 73] mm (some (.int x.1)) x.2 := by
  refine Ct.of (tb := tbX4_tellOffer) hj miX4_tellOffer.2.1 miX4_tellOffer.1 dtX4_tellOffer (Nat.le_of_ble_eq_true rfl) ?_
  intro E B hQ hr X
  unfold f4_tellOffer at hf
  show G E 6 0 [(0, .ref 73)] [] mm
  refine z_aload_n B 0 rfl 0 0 rfl rfl ?_
  refine z_getr 4 1 73 B 1 rfl ob_73 rfl (iX4_tellOffer _ (List.mem_of_getElem? (i := 0) rfl)) rfl ?_
  refine z_getr 1 1 76 B 2 rfl ob_76 rfl (iX4_tellOffer _ (List.mem_of_getElem? (i := 1) rfl)) rfl ?_
  refine z_astore_n [(1, .ref 84), (0, .ref 73)] B 3 rfl 1 rfl (by decide) rfl ?_
  refine z_aload_n B 4 rfl 0 1 rfl rfl ?_
  refine z_geti 4 4 73 B 5 rfl ob_73 rfl (iX4_tellOffer _ (List.mem_of_getElem? (i := 2) rfl)) rfl ?_
  obtain ⟨v1, ex, hf⟩ := nm_x hf
  refine z_top ex ?_
  refine z_istore_n [(2, .int v1), (1, .ref 84), (0, .ref 73)] B 6 rfl 2 rfl (by decide) rfl ?_
  refine z_aload_n B 7 rfl 0 2 rfl rfl ?_
  obtain ⟨r2, ec, hf⟩ := bd_e hf
  refine z_callV 73 4 [] [] [] X B 8 rfl ob_73 rfl rfl miX4_advance ⟨(iX4_tellOffer _ (List.mem_of_getElem? (i := 3) rfl)), (iX4_tellOffer _ (List.mem_of_getElem? (i := 4) rfl)), (iX4_tellOffer _ (List.mem_of_getElem? (i := 5) rfl))⟩ (ctX4_advance hj ec) ⟨Nat.le_of_ble_eq_true rfl, Nat.le_of_ble_eq_true rfl⟩ rfl rfl (Nat.le_of_ble_eq_true rfl) rfl ?_
  refine z_aload_n B 9 rfl 0 2 rfl rfl ?_
  refine z_iconst 0 B 10 rfl (by decide) ?_
  refine z_aload_n B 11 rfl 1 1 rfl rfl ?_
  refine z_geti 2 0 84 B 12 rfl ob_84 rfl (iX4_tellOffer _ (List.mem_of_getElem? (i := 6) rfl)) rfl ?_
  refine z_iconst 1 B 13 rfl (by decide) ?_
  refine z_isub B 14 rfl ?_
  obtain ⟨r3, ec, hf⟩ := bd_e hf
  refine z_callV 73 4 [.int (0 : Int32), .int ((r2 84 0) - (1 : Int32))] [] [.int r3.1] X B 15 rfl ob_73 rfl rfl miX4_takeNumber ⟨(iX4_tellOffer _ (List.mem_of_getElem? (i := 7) rfl)), (iX4_tellOffer _ (List.mem_of_getElem? (i := 8) rfl)), (iX4_tellOffer _ (List.mem_of_getElem? (i := 9) rfl))⟩ (ctX4_takeNumber hj ec) ⟨Nat.le_of_ble_eq_true rfl, Nat.le_of_ble_eq_true rfl⟩ rfl rfl (Nat.le_of_ble_eq_true rfl) rfl ?_
  by_cases hc : r3.1 = 0
  · replace hf := (if_pos hc).symm.trans hf
    refine z_if_ne_f B 16 rfl 33 (by decide) hc ?_
    refine z_iconst 0 B 17 rfl (by decide) ?_
    cases hf
    exact z_iret B 18 rfl (by decide) hQ hr
  · replace hf := (if_neg hc).symm.trans hf
    refine z_if_ne_t B 16 rfl 33 (by decide) hc ?_
    refine z_aload_n B 19 rfl 0 2 rfl rfl ?_
    refine z_geti 4 7 73 B 20 rfl ob_73 rfl (iX4_tellOffer _ (List.mem_of_getElem? (i := 10) rfl)) rfl ?_
    obtain ⟨v4, ex, hf⟩ := nm_x hf
    refine z_top ex ?_
    refine z_istore_n [(3, .int v4), (2, .int v1), (1, .ref 84), (0, .ref 73)] B 21 rfl 3 rfl (by decide) rfl ?_
    refine z_aload_n B 22 rfl 1 2 rfl rfl ?_
    refine z_iload_n B 23 rfl 3 0 rfl rfl ?_
    obtain ⟨r5, ec, hf⟩ := bd_e hf
    refine z_callV 84 2 [.int v4] [] [.int r5.1] X B 24 rfl ob_84 rfl rfl miX2_dropSteps ⟨(iX4_tellOffer _ (List.mem_of_getElem? (i := 11) rfl)), (iX4_tellOffer _ (List.mem_of_getElem? (i := 12) rfl)), (iX4_tellOffer _ (List.mem_of_getElem? (i := 13) rfl))⟩ (ctX2_dropSteps hj ob_84 ec) ⟨Nat.le_of_ble_eq_true rfl, Nat.le_of_ble_eq_true rfl⟩ rfl rfl (Nat.le_of_ble_eq_true rfl) rfl ?_
    refine z_pop B 25 rfl rfl ?_
    refine z_iconst 0 B 26 rfl (by decide) ?_
    refine z_istore [(4, .int (0 : Int32)), (3, .int v4), (2, .int v1), (1, .ref 84), (0, .ref 73)] B 27 rfl (by decide) rfl ?_
    refine z_sub [(0, .ref 73), (1, .ref 84), (2, .int v1), (3, .int v4), (4, .int (0 : Int32))] [4, 3, 2, 1, 0] rfl ?_
    exact f4_tellOffer_l47_ok hj X B hQ hr FU _ _ _ _ hf
