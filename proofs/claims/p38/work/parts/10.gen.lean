/-! ZoneCapacity.at([II)I -/
def tbX6_at : Tb := [(0, .aload_n 0, 1, 1), (1, .ifnull 19, 3, 4), (4, .iload_n 1, 1, 5), (5, .ifCond .lt 15, 3, 8), (8, .iload_n 1, 1, 9), (9, .aload_n 0, 1, 10), (10, .arraylength, 1, 11), (11, .if_icmp .ge 9, 3, 14), (14, .aload_n 0, 1, 15), (15, .iload_n 1, 1, 16), (16, .iaload, 1, 17), (17, .goto 4, 3, 20), (20, .iconst 0, 1, 21), (21, .ireturn, 1, 22)]
theorem dtX6_at : ∀ q ∈ tbX6_at, decode cX6_at q.1 = .ok (q.2.1, q.2.2.1) ∧ q.1 + q.2.2.1 = q.2.2.2 := by decide +kernel
theorem miX6_at : MI yX6_at cX6_at 2 (some .int) 2 := ⟨tw_mem (List.mem_of_getElem? (i := 273) (by decide +kernel)) rfl, by decide, by decide +kernel, tw_mem (List.mem_of_getElem? (i := 14) (by decide +kernel)) rfl⟩
abbrev rmX6_at : Room := { frames := 0, cells := 0, slots := 0, locals := 0 }
def f6_at (mm : Mem) (a0 : Nat) (a1 : Int32) : Option Int32 := if a1 < 0 then some ((0 : Int32)) else if a1 < (nI (ln a0)) then rdc a0 a1 (nm (mm a0 a1.toNatClampNeg) (fun v1 => some (v1))) else some ((0 : Int32))
theorem ctX6_at {l : Launch} {C : Cfg} (hj : Dj C) {mm : Mem} {a0 : Nat} {a1 : Int32} {x : Int32} (o_a0 : Ob a0 8) (hf : f6_at mm a0 a1 = some x) : Ct l C yX6_at cX6_at 2 (some .int) 0 0 [.ref a0, .int a1] mm (some (.int x)) mm := by
  refine Ct.of (tb := tbX6_at) hj miX6_at.2.1 miX6_at.1 dtX6_at (Nat.le_of_ble_eq_true rfl) ?_
  intro E B hQ hr X
  unfold f6_at at hf
  show G E 2 0 [(0, .ref a0), (1, .int a1)] [] mm
  refine z_aload_n B 0 rfl 0 0 rfl rfl ?_
  refine z_ifnull B 1 rfl ?_
  refine z_iload_n B 2 rfl 1 1 rfl rfl ?_
  by_cases hc : a1 < 0
  · replace hf := (if_pos hc).symm.trans hf
    refine z_if_lt_t B 3 rfl 20 (by decide) hc ?_
    refine z_iconst 0 B 12 rfl (by decide) ?_
    cases hf
    exact z_iret B 13 rfl rfl hQ hr
  · replace hf := (if_neg hc).symm.trans hf
    refine z_if_lt_f B 3 rfl 20 (by decide) hc ?_
    refine z_iload_n B 4 rfl 1 1 rfl rfl ?_
    refine z_aload_n B 5 rfl 0 0 rfl rfl ?_
    refine z_alen B 6 rfl o_a0 ?_
    by_cases hc : a1 < (nI (ln a0))
    · replace hf := (if_pos hc).symm.trans hf
      refine z_icmp_ge_f B 7 rfl 20 (by decide) hc ?_
      refine z_aload_n B 8 rfl 0 0 rfl rfl ?_
      refine z_iload_n B 9 rfl 1 1 rfl rfl ?_
      obtain ⟨hx, hf⟩ := rdc_e hf
      refine z_iald B 10 rfl o_a0 hx ?_
      obtain ⟨v1, ex, hf⟩ := nm_x hf
      refine z_top ex ?_
      refine z_goto B 11 rfl 21 (by decide) ?_
      cases hf
      exact z_iret B 13 rfl rfl hQ hr
    · replace hf := (if_neg hc).symm.trans hf
      refine z_icmp_ge_t B 7 rfl 20 (by decide) hc ?_
      refine z_iconst 0 B 12 rfl (by decide) ?_
      cases hf
      exact z_iret B 13 rfl rfl hQ hr
/-! ZoneCapacity$Offers.rest(I)I -/
def tbX2_rest : Tb := [(0, .aload_n 0, 1, 1), (1, .getfield 22, 3, 4), (4, .iload_n 1, 1, 5), (5, .invokestatic 57, 3, 8), (8, .istore_n 2, 1, 9), (9, .iconst 0, 1, 10), (10, .istore_n 3, 1, 11), (11, .iload_n 3, 1, 12), (12, .aload_n 0, 1, 13), (13, .getfield 37, 3, 16), (16, .iload_n 1, 1, 17), (17, .invokestatic 57, 3, 20), (20, .if_icmp .ge 24, 3, 23), (23, .iload_n 2, 1, 24), (24, .aload_n 0, 1, 25), (25, .getfield 40, 3, 28), (28, .iload_n 1, 1, 29), (29, .iconst 3, 1, 30), (30, .imul, 1, 31), (31, .iload_n 3, 1, 32), (32, .iadd, 1, 33), (33, .invokestatic 57, 3, 36), (36, .isub, 1, 37), (37, .istore_n 2, 1, 38), (38, .iinc 3 1, 3, 41), (41, .goto (-30), 3, 44), (44, .iload_n 2, 1, 45), (45, .ireturn, 1, 46)]
theorem dtX2_rest : ∀ q ∈ tbX2_rest, decode cX2_rest q.1 = .ok (q.2.1, q.2.2.1) ∧ q.1 + q.2.2.1 = q.2.2.2 := by decide +kernel
theorem miX2_rest : MI yX2_rest cX2_rest 4 (some .int) 1 := ⟨tw_mem (List.mem_of_getElem? (i := 347) (by decide +kernel)) rfl, by decide, by decide +kernel, tw_mem (List.mem_of_getElem? (i := 18) (by decide +kernel)) rfl⟩
abbrev rmX2_rest : Room := { frames := 1, cells := 0, slots := 0, locals := 21 }
def wX2_rest : List Cond := [.fieldLink "ZoneCapacity$Offers" 22 "ZoneCapacity$Offers" "sizes" "[I", .static yX6_at, .fieldLink "ZoneCapacity$Offers" 37 "ZoneCapacity$Offers" "steps" "[I", .fieldLink "ZoneCapacity$Offers" 40 "ZoneCapacity$Offers" "stepUnits" "[I"]
theorem iX2_rest : ∀ w ∈ wX2_rest, w ∈ TW := tw_of (ids := [113, 272, 120, 122]) (by decide +kernel)
def f2_rest_l11 (mm : Mem) : Nat → Nat → Int32 → Int32 → Int32 → Option Int32
  | 0, _, _, _, _ => none
  | n + 1, x0, x1, x2, x3 => bd (f6_at mm (x0 + 8) x1) (fun r2 => if x3 < r2 then bd (f6_at mm (x0 + 9) ((x1 * (3 : Int32)) + x3)) (fun r3 => nm (x2 - r3) (fun v4 => nm (x3 + 1) (fun v5 => f2_rest_l11 mm n x0 x1 v4 v5))) else some (x2))
theorem f2_rest_l11_ok {E : Ev} {l : Launch} {C : Cfg} {mm : Mem} {x : Int32} (hj : Dj C) (X : Ec E l C rmX2_rest) (B : Bx E RX2 tbX2_rest 4 (some .int)) (hQ : Rt E) (hr : Rs E (some (.int x)) mm) (n : Nat) : ∀ (x0 : Nat) (x1 : Int32) (x2 : Int32) (x3 : Int32), Ob x0 2 → f2_rest_l11 mm n x0 x1 x2 x3 = some x → G E 4 11 [(0, .ref x0), (1, .int x1), (2, .int x2), (3, .int x3)] [] mm := by
  induction n with
  | zero =>
    intro x0 x1 x2 x3 o_x0 hf
    rw [f2_rest_l11] at hf
    cases hf
  | succ n ih =>
    intro x0 x1 x2 x3 o_x0 hf
    rw [f2_rest_l11] at hf
    refine z_iload_n B 7 rfl 3 3 rfl rfl ?_
    refine z_aload_n B 8 rfl 0 0 rfl rfl ?_
    refine z_getr 2 9 x0 B 9 rfl o_x0 rfl (iX2_rest _ (List.mem_of_getElem? (i := 2) rfl)) rfl ?_
    refine z_iload_n B 10 rfl 1 1 rfl rfl ?_
    obtain ⟨r2, ec, hf⟩ := bd_e hf
    refine z_callN [.ref (x0 + 8), .int x1] [.int x3] [.int r2, .int x3] X B 11 rfl miX6_at ⟨List.mem_of_getElem? (i := 10) rfl, (iX2_rest _ (List.mem_of_getElem? (i := 1) rfl))⟩ (ctX6_at hj (obf_2_9 o_x0) ec) ⟨Nat.le_of_ble_eq_true rfl, Nat.le_of_ble_eq_true rfl⟩ rfl rfl (Nat.le_of_ble_eq_true rfl) rfl ?_
    by_cases hc : x3 < r2
    · replace hf := (if_pos hc).symm.trans hf
      refine z_icmp_ge_f B 12 rfl 44 (by decide) hc ?_
      refine z_iload_n B 13 rfl 2 2 rfl rfl ?_
      refine z_aload_n B 14 rfl 0 0 rfl rfl ?_
      refine z_getr 2 10 x0 B 15 rfl o_x0 rfl (iX2_rest _ (List.mem_of_getElem? (i := 3) rfl)) rfl ?_
      refine z_iload_n B 16 rfl 1 1 rfl rfl ?_
      refine z_iconst 3 B 17 rfl (by decide) ?_
      refine z_imul B 18 rfl ?_
      refine z_iload_n B 19 rfl 3 3 rfl rfl ?_
      refine z_iadd B 20 rfl ?_
      obtain ⟨r3, ec, hf⟩ := bd_e hf
      refine z_callN [.ref (x0 + 9), .int ((x1 * (3 : Int32)) + x3)] [.int x2] [.int r3, .int x2] X B 21 rfl miX6_at ⟨List.mem_of_getElem? (i := 10) rfl, (iX2_rest _ (List.mem_of_getElem? (i := 1) rfl))⟩ (ctX6_at hj (obf_2_10 o_x0) ec) ⟨Nat.le_of_ble_eq_true rfl, Nat.le_of_ble_eq_true rfl⟩ rfl rfl (Nat.le_of_ble_eq_true rfl) rfl ?_
      refine z_isub B 22 rfl ?_
      obtain ⟨v4, ex, hf⟩ := nm_x hf
      refine z_top ex ?_
      refine z_istore_n [(2, .int v4), (0, .ref x0), (1, .int x1), (3, .int x3)] B 23 rfl 2 rfl (by decide) rfl ?_
      obtain ⟨v5, ex, hf⟩ := nm_x hf
      refine z_iinc v5 [(3, .int v5), (2, .int v4), (0, .ref x0), (1, .int x1)] B 24 rfl 3 rfl (ex.symm) (by decide) rfl ?_
      refine z_goto B 25 rfl 11 (by decide) ?_
      refine z_sub [(0, .ref x0), (1, .int x1), (2, .int v4), (3, .int v5)] [2, 3, 1, 0] rfl ?_
      exact ih _ _ _ _ o_x0  hf
    · replace hf := (if_neg hc).symm.trans hf
      refine z_icmp_ge_t B 12 rfl 44 (by decide) hc ?_
      refine z_iload_n B 26 rfl 2 2 rfl rfl ?_
      cases hf
      exact z_iret B 27 rfl rfl hQ hr
def f2_rest (mm : Mem) (a0 : Nat) (a1 : Int32) : Option Int32 := bd (f6_at mm (a0 + 3) a1) (fun r1 => f2_rest_l11 mm FU a0 a1 r1 (0 : Int32))
theorem ctX2_rest {l : Launch} {C : Cfg} (hj : Dj C) {mm : Mem} {a0 : Nat} {a1 : Int32} {x : Int32} (o_a0 : Ob a0 2) (hf : f2_rest mm a0 a1 = some x) : Ct l C yX2_rest cX2_rest 4 (some .int) 1 21 [.ref a0, .int a1] mm (some (.int x)) mm := by
  refine Ct.of (tb := tbX2_rest) hj miX2_rest.2.1 miX2_rest.1 dtX2_rest (Nat.le_of_ble_eq_true rfl) ?_
  intro E B hQ hr X
  unfold f2_rest at hf
  show G E 4 0 [(0, .ref a0), (1, .int a1)] [] mm
  refine z_aload_n B 0 rfl 0 0 rfl rfl ?_
  refine z_getr 2 4 a0 B 1 rfl o_a0 rfl (iX2_rest _ (List.mem_of_getElem? (i := 0) rfl)) rfl ?_
  refine z_iload_n B 2 rfl 1 1 rfl rfl ?_
  obtain ⟨r1, ec, hf⟩ := bd_e hf
  refine z_callN [.ref (a0 + 3), .int a1] [] [.int r1] X B 3 rfl miX6_at ⟨List.mem_of_getElem? (i := 10) rfl, (iX2_rest _ (List.mem_of_getElem? (i := 1) rfl))⟩ (ctX6_at hj (obf_2_4 o_a0) ec) ⟨Nat.le_of_ble_eq_true rfl, Nat.le_of_ble_eq_true rfl⟩ rfl rfl (Nat.le_of_ble_eq_true rfl) rfl ?_
  refine z_istore_n [(2, .int r1), (0, .ref a0), (1, .int a1)] B 4 rfl 2 rfl (by decide) rfl ?_
  refine z_iconst 0 B 5 rfl (by decide) ?_
  refine z_istore_n [(3, .int (0 : Int32)), (2, .int r1), (0, .ref a0), (1, .int a1)] B 6 rfl 3 rfl (by decide) rfl ?_
  refine z_sub [(0, .ref a0), (1, .int a1), (2, .int r1), (3, .int (0 : Int32))] [2, 3, 1, 0] rfl ?_
  exact f2_rest_l11_ok hj X B hQ hr FU _ _ _ _ o_a0  hf
/-! ZoneCapacity$Offers.unitsOf(II)I -/
def tbX2_unitsOf : Tb := [(0, .iload_n 2, 1, 1), (1, .iconst 3, 1, 2), (2, .if_icmp .ne 25, 3, 5), (5, .aload_n 0, 1, 6), (6, .getfield 31, 3, 9), (9, .iload_n 1, 1, 10), (10, .invokestatic 57, 3, 13), (13, .iconst 1, 1, 14), (14, .if_icmp .ne 11, 3, 17), (17, .aload_n 0, 1, 18), (18, .iload_n 1, 1, 19), (19, .invokevirtual 77, 3, 22), (22, .goto 4, 3, 25), (25, .iconst 0, 1, 26), (26, .ireturn, 1, 27), (27, .iload_n 2, 1, 28), (28, .aload_n 0, 1, 29), (29, .getfield 37, 3, 32), (32, .iload_n 1, 1, 33), (33, .invokestatic 57, 3, 36), (36, .if_icmp .ge 18, 3, 39), (39, .aload_n 0, 1, 40), (40, .getfield 40, 3, 43), (43, .iload_n 1, 1, 44), (44, .iconst 3, 1, 45), (45, .imul, 1, 46), (46, .iload_n 2, 1, 47), (47, .iadd, 1, 48), (48, .invokestatic 57, 3, 51), (51, .goto 4, 3, 54), (54, .iconst 0, 1, 55), (55, .ireturn, 1, 56)]
theorem dtX2_unitsOf : ∀ q ∈ tbX2_unitsOf, decode cX2_unitsOf q.1 = .ok (q.2.1, q.2.2.1) ∧ q.1 + q.2.2.1 = q.2.2.2 := by decide +kernel
theorem miX2_unitsOf : MI yX2_unitsOf cX2_unitsOf 3 (some .int) 2 := ⟨tw_mem (List.mem_of_getElem? (i := 343) (by decide +kernel)) rfl, by decide, by decide +kernel, tw_mem (List.mem_of_getElem? (i := 18) (by decide +kernel)) rfl⟩
abbrev rmX2_unitsOf : Room := { frames := 2, cells := 0, slots := 0, locals := 44 }
def wX2_unitsOf : List Cond := [.fieldLink "ZoneCapacity$Offers" 37 "ZoneCapacity$Offers" "steps" "[I", .static yX6_at, .fieldLink "ZoneCapacity$Offers" 40 "ZoneCapacity$Offers" "stepUnits" "[I", .fieldLink "ZoneCapacity$Offers" 31 "ZoneCapacity$Offers" "must" "[I", .methodLink "ZoneCapacity$Offers" 77 yX2_rest, .instanceMethod yX2_rest, .selects "ZoneCapacity$Offers" yX2_rest yX2_rest]
theorem iX2_unitsOf : ∀ w ∈ wX2_unitsOf, w ∈ TW := tw_of (ids := [120, 272, 122, 117, 344, 345, 346]) (by decide +kernel)
def f2_unitsOf (mm : Mem) (a0 : Nat) (a1 : Int32) (a2 : Int32) : Option Int32 := if a2 = (3 : Int32) then bd (f6_at mm (a0 + 6) a1) (fun r3 => if r3 = (1 : Int32) then bd (f2_rest mm a0 a1) (fun r4 => some (r4)) else some ((0 : Int32))) else bd (f6_at mm (a0 + 8) a1) (fun r1 => if a2 < r1 then bd (f6_at mm (a0 + 9) ((a1 * (3 : Int32)) + a2)) (fun r2 => some (r2)) else some ((0 : Int32)))
theorem ctX2_unitsOf {l : Launch} {C : Cfg} (hj : Dj C) {mm : Mem} {a0 : Nat} {a1 : Int32} {a2 : Int32} {x : Int32} (o_a0 : Ob a0 2) (hf : f2_unitsOf mm a0 a1 a2 = some x) : Ct l C yX2_unitsOf cX2_unitsOf 3 (some .int) 2 44 [.ref a0, .int a1, .int a2] mm (some (.int x)) mm := by
  refine Ct.of (tb := tbX2_unitsOf) hj miX2_unitsOf.2.1 miX2_unitsOf.1 dtX2_unitsOf (Nat.le_of_ble_eq_true rfl) ?_
  intro E B hQ hr X
  unfold f2_unitsOf at hf
  show G E 3 0 [(0, .ref a0), (1, .int a1), (2, .int a2)] [] mm
  refine z_iload_n B 0 rfl 2 2 rfl rfl ?_
  refine z_iconst 3 B 1 rfl (by decide) ?_
  by_cases hc : a2 = (3 : Int32)
  · replace hf := (if_pos hc).symm.trans hf
    refine z_icmp_ne_f B 2 rfl 27 (by decide) hc ?_
    refine z_aload_n B 3 rfl 0 0 rfl rfl ?_
    refine z_getr 2 7 a0 B 4 rfl o_a0 rfl (iX2_unitsOf _ (List.mem_of_getElem? (i := 3) rfl)) rfl ?_
    refine z_iload_n B 5 rfl 1 1 rfl rfl ?_
    obtain ⟨r3, ec, hf⟩ := bd_e hf
    refine z_callN [.ref (a0 + 6), .int a1] [] [.int r3] X B 6 rfl miX6_at ⟨List.mem_of_getElem? (i := 10) rfl, (iX2_unitsOf _ (List.mem_of_getElem? (i := 1) rfl))⟩ (ctX6_at hj (obf_2_7 o_a0) ec) ⟨Nat.le_of_ble_eq_true rfl, Nat.le_of_ble_eq_true rfl⟩ rfl rfl (Nat.le_of_ble_eq_true rfl) rfl ?_
    refine z_iconst 1 B 7 rfl (by decide) ?_
    by_cases hc : r3 = (1 : Int32)
    · replace hf := (if_pos hc).symm.trans hf
      refine z_icmp_ne_f B 8 rfl 25 (by decide) hc ?_
      refine z_aload_n B 9 rfl 0 0 rfl rfl ?_
      refine z_iload_n B 10 rfl 1 1 rfl rfl ?_
      obtain ⟨r4, ec, hf⟩ := bd_e hf
      refine z_callV a0 2 [.int a1] [] [.int r4] X B 11 rfl (by decide) o_a0 rfl rfl miX2_rest ⟨(iX2_unitsOf _ (List.mem_of_getElem? (i := 4) rfl)), (iX2_unitsOf _ (List.mem_of_getElem? (i := 5) rfl)), (iX2_unitsOf _ (List.mem_of_getElem? (i := 6) rfl))⟩ (ctX2_rest hj o_a0 ec) ⟨Nat.le_of_ble_eq_true rfl, Nat.le_of_ble_eq_true rfl⟩ rfl rfl (Nat.le_of_ble_eq_true rfl) rfl ?_
      refine z_goto B 12 rfl 26 (by decide) ?_
      cases hf
      exact z_iret B 14 rfl rfl hQ hr
    · replace hf := (if_neg hc).symm.trans hf
      refine z_icmp_ne_t B 8 rfl 25 (by decide) hc ?_
      refine z_iconst 0 B 13 rfl (by decide) ?_
      cases hf
      exact z_iret B 14 rfl rfl hQ hr
  · replace hf := (if_neg hc).symm.trans hf
    refine z_icmp_ne_t B 2 rfl 27 (by decide) hc ?_
    refine z_iload_n B 15 rfl 2 2 rfl rfl ?_
    refine z_aload_n B 16 rfl 0 0 rfl rfl ?_
    refine z_getr 2 9 a0 B 17 rfl o_a0 rfl (iX2_unitsOf _ (List.mem_of_getElem? (i := 0) rfl)) rfl ?_
    refine z_iload_n B 18 rfl 1 1 rfl rfl ?_
    obtain ⟨r1, ec, hf⟩ := bd_e hf
    refine z_callN [.ref (a0 + 8), .int a1] [.int a2] [.int r1, .int a2] X B 19 rfl miX6_at ⟨List.mem_of_getElem? (i := 10) rfl, (iX2_unitsOf _ (List.mem_of_getElem? (i := 1) rfl))⟩ (ctX6_at hj (obf_2_9 o_a0) ec) ⟨Nat.le_of_ble_eq_true rfl, Nat.le_of_ble_eq_true rfl⟩ rfl rfl (Nat.le_of_ble_eq_true rfl) rfl ?_
    by_cases hc : a2 < r1
    · replace hf := (if_pos hc).symm.trans hf
      refine z_icmp_ge_f B 20 rfl 54 (by decide) hc ?_
      refine z_aload_n B 21 rfl 0 0 rfl rfl ?_
      refine z_getr 2 10 a0 B 22 rfl o_a0 rfl (iX2_unitsOf _ (List.mem_of_getElem? (i := 2) rfl)) rfl ?_
      refine z_iload_n B 23 rfl 1 1 rfl rfl ?_
      refine z_iconst 3 B 24 rfl (by decide) ?_
      refine z_imul B 25 rfl ?_
      refine z_iload_n B 26 rfl 2 2 rfl rfl ?_
      refine z_iadd B 27 rfl ?_
      obtain ⟨r2, ec, hf⟩ := bd_e hf
      refine z_callN [.ref (a0 + 9), .int ((a1 * (3 : Int32)) + a2)] [] [.int r2] X B 28 rfl miX6_at ⟨List.mem_of_getElem? (i := 10) rfl, (iX2_unitsOf _ (List.mem_of_getElem? (i := 1) rfl))⟩ (ctX6_at hj (obf_2_10 o_a0) ec) ⟨Nat.le_of_ble_eq_true rfl, Nat.le_of_ble_eq_true rfl⟩ rfl rfl (Nat.le_of_ble_eq_true rfl) rfl ?_
      refine z_goto B 29 rfl 55 (by decide) ?_
      cases hf
      exact z_iret B 31 rfl rfl hQ hr
    · replace hf := (if_neg hc).symm.trans hf
      refine z_icmp_ge_t B 20 rfl 54 (by decide) hc ?_
      refine z_iconst 0 B 30 rfl (by decide) ?_
      cases hf
      exact z_iret B 31 rfl rfl hQ hr
/-! ZoneCapacity.put([III)V -/
def tbX6_put : Tb := [(0, .aload_n 0, 1, 1), (1, .ifnull 17, 3, 4), (4, .iload_n 1, 1, 5), (5, .ifCond .lt 13, 3, 8), (8, .iload_n 1, 1, 9), (9, .aload_n 0, 1, 10), (10, .arraylength, 1, 11), (11, .if_icmp .ge 7, 3, 14), (14, .aload_n 0, 1, 15), (15, .iload_n 1, 1, 16), (16, .iload_n 2, 1, 17), (17, .iastore, 1, 18), (18, .return_, 1, 19)]
theorem dtX6_put : ∀ q ∈ tbX6_put, decode cX6_put q.1 = .ok (q.2.1, q.2.2.1) ∧ q.1 + q.2.2.1 = q.2.2.2 := by decide +kernel
theorem miX6_put : MI yX6_put cX6_put 3 none 3 := ⟨tw_mem (List.mem_of_getElem? (i := 292) (by decide +kernel)) rfl, by decide, by decide +kernel, tw_mem (List.mem_of_getElem? (i := 14) (by decide +kernel)) rfl⟩
abbrev rmX6_put : Room := { frames := 0, cells := 0, slots := 0, locals := 0 }
def f6_put (mm : Mem) (a0 : Nat) (a1 : Int32) (a2 : Int32) : Option Mem := if a1 < 0 then some mm else if a1 < (nI (ln a0)) then rdc a0 a1 (nm (up2 mm a0 a1.toNatClampNeg a2) (fun m1 => some m1)) else some mm
theorem ctX6_put {l : Launch} {C : Cfg} (hj : Dj C) {mm : Mem} {a0 : Nat} {a1 : Int32} {a2 : Int32} {x : Mem} (o_a0 : Ob a0 8) (hf : f6_put mm a0 a1 a2 = some x) : Ct l C yX6_put cX6_put 3 none 0 0 [.ref a0, .int a1, .int a2] mm none x := by
  refine Ct.of (tb := tbX6_put) hj miX6_put.2.1 miX6_put.1 dtX6_put (Nat.le_of_ble_eq_true rfl) ?_
  intro E B hQ hr X
  unfold f6_put at hf
  show G E 3 0 [(0, .ref a0), (1, .int a1), (2, .int a2)] [] mm
  refine z_aload_n B 0 rfl 0 0 rfl rfl ?_
  refine z_ifnull B 1 rfl ?_
  refine z_iload_n B 2 rfl 1 1 rfl rfl ?_
  by_cases hc : a1 < 0
  · replace hf := (if_pos hc).symm.trans hf
    refine z_if_lt_t B 3 rfl 18 (by decide) hc ?_
    cases hf
    exact z_vret B 12 rfl hQ hr
  · replace hf := (if_neg hc).symm.trans hf
    refine z_if_lt_f B 3 rfl 18 (by decide) hc ?_
    refine z_iload_n B 4 rfl 1 1 rfl rfl ?_
    refine z_aload_n B 5 rfl 0 0 rfl rfl ?_
    refine z_alen B 6 rfl o_a0 ?_
    by_cases hc : a1 < (nI (ln a0))
    · replace hf := (if_pos hc).symm.trans hf
      refine z_icmp_ge_f B 7 rfl 18 (by decide) hc ?_
      refine z_aload_n B 8 rfl 0 0 rfl rfl ?_
      refine z_iload_n B 9 rfl 1 1 rfl rfl ?_
      refine z_iload_n B 10 rfl 2 2 rfl rfl ?_
      obtain ⟨hx, hf⟩ := rdc_e hf
      refine z_iast B 11 rfl o_a0 hx ?_
      obtain ⟨m1, ex, hf⟩ := nm_x hf
      refine z_mem ex ?_
      cases hf
      exact z_vret B 12 rfl hQ hr
    · replace hf := (if_neg hc).symm.trans hf
      refine z_icmp_ge_t B 7 rfl 18 (by decide) hc ?_
      cases hf
      exact z_vret B 12 rfl hQ hr
/-! ZoneCapacity$Offers.itsOf(II)I -/
def tbX2_itsOf : Tb := [(0, .iload_n 2, 1, 1), (1, .iconst 3, 1, 2), (2, .if_icmp .ne 5, 3, 5), (5, .iconst 0, 1, 6), (6, .ireturn, 1, 7), (7, .aload_n 0, 1, 8), (8, .getfield 43, 3, 11), (11, .iload_n 1, 1, 12), (12, .iconst 3, 1, 13), (13, .imul, 1, 14), (14, .iload_n 2, 1, 15), (15, .iadd, 1, 16), (16, .invokestatic 57, 3, 19), (19, .istore_n 3, 1, 20), (20, .aload_n 0, 1, 21), (21, .getfield 34, 3, 24), (24, .iload_n 1, 1, 25), (25, .invokestatic 57, 3, 28), (28, .ifCond .ne 23, 3, 31), (31, .iload_n 3, 1, 32), (32, .aload_n 0, 1, 33), (33, .getfield 15, 3, 36), (36, .aload_n 0, 1, 37), (37, .getfield 25, 3, 40), (40, .iload_n 1, 1, 41), (41, .invokestatic 57, 3, 44), (44, .invokestatic 57, 3, 47), (47, .invokestatic 81, 3, 50), (50, .istore_n 3, 1, 51), (51, .aload_n 0, 1, 52), (52, .getfield 31, 3, 55), (55, .iload_n 1, 1, 56), (56, .invokestatic 57, 3, 59), (59, .iconst 1, 1, 60), (60, .if_icmp .ne 14, 3, 63), (63, .iload_n 3, 1, 64), (64, .aload_n 0, 1, 65), (65, .getfield 9, 3, 68), (68, .invokestatic 86, 3, 71), (71, .goto 4, 3, 74), (74, .iload_n 3, 1, 75), (75, .ireturn, 1, 76)]
theorem dtX2_itsOf : ∀ q ∈ tbX2_itsOf, decode cX2_itsOf q.1 = .ok (q.2.1, q.2.2.1) ∧ q.1 + q.2.2.1 = q.2.2.2 := by decide +kernel
theorem miX2_itsOf : MI yX2_itsOf cX2_itsOf 4 (some .int) 2 := ⟨tw_mem (List.mem_of_getElem? (i := 352) (by decide +kernel)) rfl, by decide, by decide +kernel, tw_mem (List.mem_of_getElem? (i := 18) (by decide +kernel)) rfl⟩
abbrev rmX2_itsOf : Room := { frames := 1, cells := 0, slots := 0, locals := 21 }
def wX2_itsOf : List Cond := [.fieldLink "ZoneCapacity$Offers" 43 "ZoneCapacity$Offers" "stepPrices" "[I", .static yX6_at, .fieldLink "ZoneCapacity$Offers" 34 "ZoneCapacity$Offers" "free" "[I", .fieldLink "ZoneCapacity$Offers" 31 "ZoneCapacity$Offers" "must" "[I", .fieldLink "ZoneCapacity$Offers" 9 "ZoneCapacity$Offers" "ceiling" "I", .methodLink "ZoneCapacity$Offers" 86 ⟨"java/lang/Math", "min", "(II)I"⟩, .static ⟨"java/lang/Math", "min", "(II)I"⟩, .initialized "java/lang/Math", .code Lib.Math.min.name Lib.Math.min.code 2 (some .int), .fieldLink "ZoneCapacity$Offers" 15 "ZoneCapacity$Offers" "floors" "[I", .fieldLink "ZoneCapacity$Offers" 25 "ZoneCapacity$Offers" "kinds" "[I", .methodLink "ZoneCapacity$Offers" 81 ⟨"java/lang/Math", "max", "(II)I"⟩, .static ⟨"java/lang/Math", "max", "(II)I"⟩, .code Lib.Math.max.name Lib.Math.max.code 2 (some .int)]
theorem iX2_itsOf : ∀ w ∈ wX2_itsOf, w ∈ TW := tw_of (ids := [123, 272, 118, 117, 108, 356, 357, 26, 358, 109, 114, 353, 354, 355]) (by decide +kernel)
def f2_itsOf_j51 (mm : Mem) (x0 : Nat) (x1 : Int32) (x3 : Int32) : Option Int32 := bd (f6_at mm (x0 + 6) x1) (fun r3 => if r3 = (1 : Int32) then nm (mni x3 (mm x0 1)) (fun v4 => some (v4)) else some (x3))
theorem f2_itsOf_j51_ok {E : Ev} {l : Launch} {C : Cfg} {mm : Mem} {x : Int32} (hj : Dj C) (X : Ec E l C rmX2_itsOf) (B : Bx E RX2 tbX2_itsOf 4 (some .int)) (hQ : Rt E) (hr : Rs E (some (.int x)) mm) (x0 : Nat) (x1 : Int32) (x3 : Int32) (o_x0 : Ob x0 2) (hf : f2_itsOf_j51 mm x0 x1 x3 = some x) : G E 4 51 [(0, .ref x0), (1, .int x1), (3, .int x3)] [] mm := by
  unfold f2_itsOf_j51 at hf
  refine z_aload_n B 29 rfl 0 0 rfl rfl ?_
  refine z_getr 2 7 x0 B 30 rfl o_x0 rfl (iX2_itsOf _ (List.mem_of_getElem? (i := 3) rfl)) rfl ?_
  refine z_iload_n B 31 rfl 1 1 rfl rfl ?_
  obtain ⟨r3, ec, hf⟩ := bd_e hf
  refine z_callN [.ref (x0 + 6), .int x1] [] [.int r3] X B 32 rfl miX6_at ⟨List.mem_of_getElem? (i := 10) rfl, (iX2_itsOf _ (List.mem_of_getElem? (i := 1) rfl))⟩ (ctX6_at hj (obf_2_7 o_x0) ec) ⟨Nat.le_of_ble_eq_true rfl, Nat.le_of_ble_eq_true rfl⟩ rfl rfl (Nat.le_of_ble_eq_true rfl) rfl ?_
  refine z_iconst 1 B 33 rfl (by decide) ?_
  by_cases hc : r3 = (1 : Int32)
  · replace hf := (if_pos hc).symm.trans hf
    refine z_icmp_ne_f B 34 rfl 74 (by decide) hc ?_
    refine z_iload_n B 35 rfl 3 2 rfl rfl ?_
    refine z_aload_n B 36 rfl 0 0 rfl rfl ?_
    refine z_geti 2 1 x0 B 37 rfl o_x0 rfl (iX2_itsOf _ (List.mem_of_getElem? (i := 4) rfl)) rfl ?_
    refine z_mmin X B 38 rfl ⟨(iX2_itsOf _ (List.mem_of_getElem? (i := 5) rfl)), (iX2_itsOf _ (List.mem_of_getElem? (i := 6) rfl)), (iX2_itsOf _ (List.mem_of_getElem? (i := 7) rfl)), (iX2_itsOf _ (List.mem_of_getElem? (i := 8) rfl))⟩ ⟨Nat.le_of_ble_eq_true rfl, Nat.le_of_ble_eq_true rfl⟩ (Nat.le_of_ble_eq_true rfl) ?_
    obtain ⟨v4, ex, hf⟩ := nm_x hf
    refine z_top ex ?_
    refine z_goto B 39 rfl 75 (by decide) ?_
    cases hf
    exact z_iret B 41 rfl rfl hQ hr
  · replace hf := (if_neg hc).symm.trans hf
    refine z_icmp_ne_t B 34 rfl 74 (by decide) hc ?_
    refine z_iload_n B 40 rfl 3 2 rfl rfl ?_
    cases hf
    exact z_iret B 41 rfl rfl hQ hr
def f2_itsOf (mm : Mem) (a0 : Nat) (a1 : Int32) (a2 : Int32) : Option Int32 := if a2 = (3 : Int32) then some ((0 : Int32)) else bd (f6_at mm (a0 + 10) ((a1 * (3 : Int32)) + a2)) (fun r1 => bd (f6_at mm (a0 + 7) a1) (fun r2 => if r2 = 0 then bd (f6_at mm (a0 + 4) a1) (fun r5 => bd (f6_at mm (a0 + 1) r5) (fun r6 => nm (mxi r1 r6) (fun v7 => f2_itsOf_j51 mm a0 a1 v7))) else f2_itsOf_j51 mm a0 a1 r1))
theorem ctX2_itsOf {l : Launch} {C : Cfg} (hj : Dj C) {mm : Mem} {a0 : Nat} {a1 : Int32} {a2 : Int32} {x : Int32} (o_a0 : Ob a0 2) (hf : f2_itsOf mm a0 a1 a2 = some x) : Ct l C yX2_itsOf cX2_itsOf 4 (some .int) 1 21 [.ref a0, .int a1, .int a2] mm (some (.int x)) mm := by
  refine Ct.of (tb := tbX2_itsOf) hj miX2_itsOf.2.1 miX2_itsOf.1 dtX2_itsOf (Nat.le_of_ble_eq_true rfl) ?_
  intro E B hQ hr X
  unfold f2_itsOf at hf
  show G E 4 0 [(0, .ref a0), (1, .int a1), (2, .int a2)] [] mm
  refine z_iload_n B 0 rfl 2 2 rfl rfl ?_
  refine z_iconst 3 B 1 rfl (by decide) ?_
  by_cases hc : a2 = (3 : Int32)
  · replace hf := (if_pos hc).symm.trans hf
    refine z_icmp_ne_f B 2 rfl 7 (by decide) hc ?_
    refine z_iconst 0 B 3 rfl (by decide) ?_
    cases hf
    exact z_iret B 4 rfl rfl hQ hr
  · replace hf := (if_neg hc).symm.trans hf
    refine z_icmp_ne_t B 2 rfl 7 (by decide) hc ?_
    refine z_aload_n B 5 rfl 0 0 rfl rfl ?_
    refine z_getr 2 11 a0 B 6 rfl o_a0 rfl (iX2_itsOf _ (List.mem_of_getElem? (i := 0) rfl)) rfl ?_
    refine z_iload_n B 7 rfl 1 1 rfl rfl ?_
    refine z_iconst 3 B 8 rfl (by decide) ?_
    refine z_imul B 9 rfl ?_
    refine z_iload_n B 10 rfl 2 2 rfl rfl ?_
    refine z_iadd B 11 rfl ?_
    obtain ⟨r1, ec, hf⟩ := bd_e hf
    refine z_callN [.ref (a0 + 10), .int ((a1 * (3 : Int32)) + a2)] [] [.int r1] X B 12 rfl miX6_at ⟨List.mem_of_getElem? (i := 10) rfl, (iX2_itsOf _ (List.mem_of_getElem? (i := 1) rfl))⟩ (ctX6_at hj (obf_2_11 o_a0) ec) ⟨Nat.le_of_ble_eq_true rfl, Nat.le_of_ble_eq_true rfl⟩ rfl rfl (Nat.le_of_ble_eq_true rfl) rfl ?_
    refine z_istore_n [(3, .int r1), (0, .ref a0), (1, .int a1), (2, .int a2)] B 13 rfl 3 rfl (by decide) rfl ?_
    refine z_aload_n B 14 rfl 0 1 rfl rfl ?_
    refine z_getr 2 8 a0 B 15 rfl o_a0 rfl (iX2_itsOf _ (List.mem_of_getElem? (i := 2) rfl)) rfl ?_
    refine z_iload_n B 16 rfl 1 2 rfl rfl ?_
    obtain ⟨r2, ec, hf⟩ := bd_e hf
    refine z_callN [.ref (a0 + 7), .int a1] [] [.int r2] X B 17 rfl miX6_at ⟨List.mem_of_getElem? (i := 10) rfl, (iX2_itsOf _ (List.mem_of_getElem? (i := 1) rfl))⟩ (ctX6_at hj (obf_2_8 o_a0) ec) ⟨Nat.le_of_ble_eq_true rfl, Nat.le_of_ble_eq_true rfl⟩ rfl rfl (Nat.le_of_ble_eq_true rfl) rfl ?_
    by_cases hc : r2 = 0
    · replace hf := (if_pos hc).symm.trans hf
      refine z_if_ne_f B 18 rfl 51 (by decide) hc ?_
      refine z_iload_n B 19 rfl 3 0 rfl rfl ?_
      refine z_aload_n B 20 rfl 0 1 rfl rfl ?_
      refine z_getr 2 2 a0 B 21 rfl o_a0 rfl (iX2_itsOf _ (List.mem_of_getElem? (i := 9) rfl)) rfl ?_
      refine z_aload_n B 22 rfl 0 1 rfl rfl ?_
      refine z_getr 2 5 a0 B 23 rfl o_a0 rfl (iX2_itsOf _ (List.mem_of_getElem? (i := 10) rfl)) rfl ?_
      refine z_iload_n B 24 rfl 1 2 rfl rfl ?_
      obtain ⟨r5, ec, hf⟩ := bd_e hf
      refine z_callN [.ref (a0 + 4), .int a1] [.ref (a0 + 1), .int r1] [.int r5, .ref (a0 + 1), .int r1] X B 25 rfl miX6_at ⟨List.mem_of_getElem? (i := 10) rfl, (iX2_itsOf _ (List.mem_of_getElem? (i := 1) rfl))⟩ (ctX6_at hj (obf_2_5 o_a0) ec) ⟨Nat.le_of_ble_eq_true rfl, Nat.le_of_ble_eq_true rfl⟩ rfl rfl (Nat.le_of_ble_eq_true rfl) rfl ?_
      obtain ⟨r6, ec, hf⟩ := bd_e hf
      refine z_callN [.ref (a0 + 1), .int r5] [.int r1] [.int r6, .int r1] X B 26 rfl miX6_at ⟨List.mem_of_getElem? (i := 10) rfl, (iX2_itsOf _ (List.mem_of_getElem? (i := 1) rfl))⟩ (ctX6_at hj (obf_2_2 o_a0) ec) ⟨Nat.le_of_ble_eq_true rfl, Nat.le_of_ble_eq_true rfl⟩ rfl rfl (Nat.le_of_ble_eq_true rfl) rfl ?_
      refine z_mmax X B 27 rfl ⟨(iX2_itsOf _ (List.mem_of_getElem? (i := 11) rfl)), (iX2_itsOf _ (List.mem_of_getElem? (i := 12) rfl)), (iX2_itsOf _ (List.mem_of_getElem? (i := 7) rfl)), (iX2_itsOf _ (List.mem_of_getElem? (i := 13) rfl))⟩ ⟨Nat.le_of_ble_eq_true rfl, Nat.le_of_ble_eq_true rfl⟩ (Nat.le_of_ble_eq_true rfl) ?_
      obtain ⟨v7, ex, hf⟩ := nm_x hf
      refine z_top ex ?_
      refine z_istore_n [(3, .int v7), (0, .ref a0), (1, .int a1), (2, .int a2)] B 28 rfl 3 rfl (by decide) rfl ?_
      refine z_sub [(0, .ref a0), (1, .int a1), (3, .int v7)] [1, 2, 0] rfl ?_
      exact f2_itsOf_j51_ok hj X B hQ hr _ _ _ o_a0  hf
    · replace hf := (if_neg hc).symm.trans hf
      refine z_if_ne_t B 18 rfl 51 (by decide) hc ?_
      refine z_sub [(0, .ref a0), (1, .int a1), (3, .int r1)] [1, 2, 0] rfl ?_
      exact f2_itsOf_j51_ok hj X B hQ hr _ _ _ o_a0  hf
/-! ZoneCapacity$Auction.readLines()V -/
def tbX0_readLines : Tb := [(0, .aload_n 0, 1, 1), (1, .getfield 12, 3, 4), (4, .getfield 85, 3, 7), (7, .astore_n 1, 1, 8), (8, .iconst 0, 1, 9), (9, .istore_n 2, 1, 10), (10, .iload_n 2, 1, 11), (11, .aload_n 1, 1, 12), (12, .getfield 89, 3, 15), (15, .if_icmp .ge 58, 3, 18), (18, .iconst 0, 1, 19), (19, .istore_n 3, 1, 20), (20, .iload_n 3, 1, 21), (21, .iconst 4, 1, 22), (22, .if_icmp .ge 45, 3, 25), (25, .aload_n 0, 1, 26), (26, .getfield 31, 3, 29), (29, .iload_n 2, 1, 30), (30, .iconst 4, 1, 31), (31, .imul, 1, 32), (32, .iload_n 3, 1, 33), (33, .iadd, 1, 34), (34, .aload_n 1, 1, 35), (35, .iload_n 2, 1, 36), (36, .iload_n 3, 1, 37), (37, .invokevirtual 92, 3, 40), (40, .invokestatic 56, 3, 43), (43, .aload_n 0, 1, 44), (44, .getfield 34, 3, 47), (47, .iload_n 2, 1, 48), (48, .iconst 4, 1, 49), (49, .imul, 1, 50), (50, .iload_n 3, 1, 51), (51, .iadd, 1, 52), (52, .aload_n 1, 1, 53), (53, .iload_n 2, 1, 54), (54, .iload_n 3, 1, 55), (55, .invokevirtual 95, 3, 58), (58, .invokestatic 56, 3, 61), (61, .iinc 3 1, 3, 64), (64, .goto (-44), 3, 67), (67, .iinc 2 1, 3, 70), (70, .goto (-60), 3, 73), (73, .return_, 1, 74)]
theorem dtX0_readLines : ∀ q ∈ tbX0_readLines, decode cX0_readLines q.1 = .ok (q.2.1, q.2.2.1) ∧ q.1 + q.2.2.1 = q.2.2.2 := by decide +kernel
theorem miX0_readLines : MI yX0_readLines cX0_readLines 4 none 0 := ⟨tw_mem (List.mem_of_getElem? (i := 339) (by decide +kernel)) rfl, by decide, by decide +kernel, tw_mem (List.mem_of_getElem? (i := 15) (by decide +kernel)) rfl⟩
abbrev rmX0_readLines : Room := { frames := 3, cells := 0, slots := 0, locals := 66 }
def wX0_readLines : List Cond := [.fieldLink "ZoneCapacity$Auction" 12 "ZoneCapacity$Auction" "market" "LZoneCapacity$Market;", .fieldLink "ZoneCapacity$Auction" 85 "ZoneCapacity$Market" "offers" "LZoneCapacity$Offers;", .fieldLink "ZoneCapacity$Auction" 89 "ZoneCapacity$Offers" "many" "I", .fieldLink "ZoneCapacity$Auction" 31 "ZoneCapacity$Auction" "units" "[I", .methodLink "ZoneCapacity$Auction" 92 yX2_unitsOf, .instanceMethod yX2_unitsOf, .selects "ZoneCapacity$Offers" yX2_unitsOf yX2_unitsOf, .static yX6_put, .fieldLink "ZoneCapacity$Auction" 34 "ZoneCapacity$Auction" "its" "[I", .methodLink "ZoneCapacity$Auction" 95 yX2_itsOf, .instanceMethod yX2_itsOf, .selects "ZoneCapacity$Offers" yX2_itsOf yX2_itsOf]
theorem iX0_readLines : ∀ w ∈ wX0_readLines, w ∈ TW := tw_of (ids := [160, 153, 106, 170, 340, 341, 342, 291, 171, 349, 350, 351]) (by decide +kernel)
def f0_readLines_l20 (k10 : Nat → Nat → Int32 → Mem → Option Mem) : Nat → Nat → Nat → Int32 → Int32 → Mem → Option Mem
  | 0, _, _, _, _, _ => none
  | n + 1, x0, x1, x2, x3, mm => if x3 < (4 : Int32) then bd (f2_unitsOf mm x1 x2 x3) (fun r2 => bd (f6_put mm (x0 + 24) ((x2 * (4 : Int32)) + x3) r2) (fun r3 => bd (f2_itsOf r3 x1 x2 x3) (fun r4 => bd (f6_put r3 (x0 + 25) ((x2 * (4 : Int32)) + x3) r4) (fun r5 => nm (x3 + 1) (fun v6 => f0_readLines_l20 k10 n x0 x1 x2 v6 r5))))) else nm (x2 + 1) (fun v1 => k10 x0 x1 v1 mm)
theorem f0_readLines_l20_ok {E : Ev} {l : Launch} {C : Cfg} {x : Mem} {k10 : Nat → Nat → Int32 → Mem → Option Mem} (hj : Dj C) (X : Ec E l C rmX0_readLines) (B : Bx E RX0 tbX0_readLines 4 none) (hQ : Rt E) (hr : Rs E none x) (hk10 : ∀ (x0 : Nat) (x1 : Nat) (x2 : Int32) (mm : Mem), Ob x0 0 → Ob x1 2 → k10 x0 x1 x2 mm = some x → G E 4 10 [(0, .ref x0), (1, .ref x1), (2, .int x2)] [] mm) (n : Nat) : ∀ (x0 : Nat) (x1 : Nat) (x2 : Int32) (x3 : Int32) (mm : Mem), Ob x0 0 → Ob x1 2 → f0_readLines_l20 k10 n x0 x1 x2 x3 mm = some x → G E 4 20 [(0, .ref x0), (1, .ref x1), (2, .int x2), (3, .int x3)] [] mm := by
  induction n with
  | zero =>
    intro x0 x1 x2 x3 mm o_x0 o_x1 hf
    rw [f0_readLines_l20] at hf
    cases hf
  | succ n ih =>
    intro x0 x1 x2 x3 mm o_x0 o_x1 hf
    rw [f0_readLines_l20] at hf
    refine z_iload_n B 12 rfl 3 3 rfl rfl ?_
    refine z_iconst 4 B 13 rfl (by decide) ?_
    by_cases hc : x3 < (4 : Int32)
    · replace hf := (if_pos hc).symm.trans hf
      refine z_icmp_ge_f B 14 rfl 67 (by decide) hc ?_
      refine z_aload_n B 15 rfl 0 0 rfl rfl ?_
      refine z_getr 0 5 x0 B 16 rfl o_x0 rfl (iX0_readLines _ (List.mem_of_getElem? (i := 3) rfl)) rfl ?_
      refine z_iload_n B 17 rfl 2 2 rfl rfl ?_
      refine z_iconst 4 B 18 rfl (by decide) ?_
      refine z_imul B 19 rfl ?_
      refine z_iload_n B 20 rfl 3 3 rfl rfl ?_
      refine z_iadd B 21 rfl ?_
      refine z_aload_n B 22 rfl 1 1 rfl rfl ?_
      refine z_iload_n B 23 rfl 2 2 rfl rfl ?_
      refine z_iload_n B 24 rfl 3 3 rfl rfl ?_
      obtain ⟨r2, ec, hf⟩ := bd_e hf
      refine z_callV x1 2 [.int x2, .int x3] [.int ((x2 * (4 : Int32)) + x3), .ref (x0 + 24)] [.int r2, .int ((x2 * (4 : Int32)) + x3), .ref (x0 + 24)] X B 25 rfl (by decide) o_x1 rfl rfl miX2_unitsOf ⟨(iX0_readLines _ (List.mem_of_getElem? (i := 4) rfl)), (iX0_readLines _ (List.mem_of_getElem? (i := 5) rfl)), (iX0_readLines _ (List.mem_of_getElem? (i := 6) rfl))⟩ (ctX2_unitsOf hj o_x1 ec) ⟨Nat.le_of_ble_eq_true rfl, Nat.le_of_ble_eq_true rfl⟩ rfl rfl (Nat.le_of_ble_eq_true rfl) rfl ?_
      obtain ⟨r3, ec, hf⟩ := bd_e hf
      refine z_callN [.ref (x0 + 24), .int ((x2 * (4 : Int32)) + x3), .int r2] [] [] X B 26 rfl miX6_put ⟨List.mem_of_getElem? (i := 12) rfl, (iX0_readLines _ (List.mem_of_getElem? (i := 7) rfl))⟩ (ctX6_put hj (obf_0_5 o_x0) ec) ⟨Nat.le_of_ble_eq_true rfl, Nat.le_of_ble_eq_true rfl⟩ rfl rfl (Nat.le_of_ble_eq_true rfl) rfl ?_
      refine z_aload_n B 27 rfl 0 0 rfl rfl ?_
      refine z_getr 0 6 x0 B 28 rfl o_x0 rfl (iX0_readLines _ (List.mem_of_getElem? (i := 8) rfl)) rfl ?_
      refine z_iload_n B 29 rfl 2 2 rfl rfl ?_
      refine z_iconst 4 B 30 rfl (by decide) ?_
      refine z_imul B 31 rfl ?_
      refine z_iload_n B 32 rfl 3 3 rfl rfl ?_
      refine z_iadd B 33 rfl ?_
      refine z_aload_n B 34 rfl 1 1 rfl rfl ?_
      refine z_iload_n B 35 rfl 2 2 rfl rfl ?_
      refine z_iload_n B 36 rfl 3 3 rfl rfl ?_
      obtain ⟨r4, ec, hf⟩ := bd_e hf
      refine z_callV x1 2 [.int x2, .int x3] [.int ((x2 * (4 : Int32)) + x3), .ref (x0 + 25)] [.int r4, .int ((x2 * (4 : Int32)) + x3), .ref (x0 + 25)] X B 37 rfl (by decide) o_x1 rfl rfl miX2_itsOf ⟨(iX0_readLines _ (List.mem_of_getElem? (i := 9) rfl)), (iX0_readLines _ (List.mem_of_getElem? (i := 10) rfl)), (iX0_readLines _ (List.mem_of_getElem? (i := 11) rfl))⟩ (ctX2_itsOf hj o_x1 ec) ⟨Nat.le_of_ble_eq_true rfl, Nat.le_of_ble_eq_true rfl⟩ rfl rfl (Nat.le_of_ble_eq_true rfl) rfl ?_
      obtain ⟨r5, ec, hf⟩ := bd_e hf
      refine z_callN [.ref (x0 + 25), .int ((x2 * (4 : Int32)) + x3), .int r4] [] [] X B 38 rfl miX6_put ⟨List.mem_of_getElem? (i := 12) rfl, (iX0_readLines _ (List.mem_of_getElem? (i := 7) rfl))⟩ (ctX6_put hj (obf_0_6 o_x0) ec) ⟨Nat.le_of_ble_eq_true rfl, Nat.le_of_ble_eq_true rfl⟩ rfl rfl (Nat.le_of_ble_eq_true rfl) rfl ?_
      obtain ⟨v6, ex, hf⟩ := nm_x hf
      refine z_iinc v6 [(3, .int v6), (0, .ref x0), (1, .ref x1), (2, .int x2)] B 39 rfl 3 rfl (ex.symm) (by decide) rfl ?_
      refine z_goto B 40 rfl 20 (by decide) ?_
      refine z_sub [(0, .ref x0), (1, .ref x1), (2, .int x2), (3, .int v6)] [1, 2, 3, 0] rfl ?_
      exact ih _ _ _ _ _ o_x0 o_x1  hf
    · replace hf := (if_neg hc).symm.trans hf
      refine z_icmp_ge_t B 14 rfl 67 (by decide) hc ?_
      obtain ⟨v1, ex, hf⟩ := nm_x hf
      refine z_iinc v1 [(2, .int v1), (0, .ref x0), (1, .ref x1), (3, .int x3)] B 41 rfl 2 rfl (ex.symm) (by decide) rfl ?_
      refine z_goto B 42 rfl 10 (by decide) ?_
      refine z_sub [(0, .ref x0), (1, .ref x1), (2, .int v1)] [1, 2, 0] rfl ?_
      exact hk10 _ _ _ _ o_x0 o_x1  hf
def f0_readLines_l10 : Nat → Nat → Nat → Int32 → Mem → Option Mem
  | 0, _, _, _, _ => none
  | n + 1, x0, x1, x2, mm => if x2 < (mm x1 0) then f0_readLines_l20 (fun x0 x1 x2 mm => f0_readLines_l10 n x0 x1 x2 mm) FU x0 x1 x2 (0 : Int32) mm else some mm
theorem f0_readLines_l10_ok {E : Ev} {l : Launch} {C : Cfg} {x : Mem} (hj : Dj C) (X : Ec E l C rmX0_readLines) (B : Bx E RX0 tbX0_readLines 4 none) (hQ : Rt E) (hr : Rs E none x) (n : Nat) : ∀ (x0 : Nat) (x1 : Nat) (x2 : Int32) (mm : Mem), Ob x0 0 → Ob x1 2 → f0_readLines_l10 n x0 x1 x2 mm = some x → G E 4 10 [(0, .ref x0), (1, .ref x1), (2, .int x2)] [] mm := by
  induction n with
  | zero =>
    intro x0 x1 x2 mm o_x0 o_x1 hf
    rw [f0_readLines_l10] at hf
    cases hf
  | succ n ih =>
    intro x0 x1 x2 mm o_x0 o_x1 hf
    rw [f0_readLines_l10] at hf
    refine z_iload_n B 6 rfl 2 2 rfl rfl ?_
    refine z_aload_n B 7 rfl 1 1 rfl rfl ?_
    refine z_geti 2 0 x1 B 8 rfl o_x1 rfl (iX0_readLines _ (List.mem_of_getElem? (i := 2) rfl)) rfl ?_
    by_cases hc : x2 < (mm x1 0)
    · replace hf := (if_pos hc).symm.trans hf
      refine z_icmp_ge_f B 9 rfl 73 (by decide) hc ?_
      refine z_iconst 0 B 10 rfl (by decide) ?_
      refine z_istore_n [(3, .int (0 : Int32)), (0, .ref x0), (1, .ref x1), (2, .int x2)] B 11 rfl 3 rfl (by decide) rfl ?_
      refine z_sub [(0, .ref x0), (1, .ref x1), (2, .int x2), (3, .int (0 : Int32))] [1, 2, 3, 0] rfl ?_
      exact f0_readLines_l20_ok hj X B hQ hr ih FU _ _ _ _ _ o_x0 o_x1  hf
    · replace hf := (if_neg hc).symm.trans hf
      refine z_icmp_ge_t B 9 rfl 73 (by decide) hc ?_
      cases hf
      exact z_vret B 43 rfl hQ hr
def f0_readLines (mm : Mem) (a0 : Nat) : Option Mem := f0_readLines_l10 FU a0 (a0 + 1 + 8) (0 : Int32) mm
theorem ctX0_readLines {l : Launch} {C : Cfg} (hj : Dj C) {mm : Mem} {a0 : Nat} {x : Mem} (o_a0 : Ob a0 0) (hf : f0_readLines mm a0 = some x) : Ct l C yX0_readLines cX0_readLines 4 none 3 66 [.ref a0] mm none x := by
  refine Ct.of (tb := tbX0_readLines) hj miX0_readLines.2.1 miX0_readLines.1 dtX0_readLines (Nat.le_of_ble_eq_true rfl) ?_
  intro E B hQ hr X
  unfold f0_readLines at hf
  show G E 4 0 [(0, .ref a0)] [] mm
  refine z_aload_n B 0 rfl 0 0 rfl rfl ?_
  refine z_getr 0 0 a0 B 1 rfl o_a0 rfl (iX0_readLines _ (List.mem_of_getElem? (i := 0) rfl)) rfl ?_
  refine z_getr 1 1 (a0 + 1) B 2 rfl (obf_0_0 o_a0) rfl (iX0_readLines _ (List.mem_of_getElem? (i := 1) rfl)) rfl ?_
  refine z_astore_n [(1, .ref (a0 + 1 + 8)), (0, .ref a0)] B 3 rfl 1 rfl (by decide) rfl ?_
  refine z_iconst 0 B 4 rfl (by decide) ?_
  refine z_istore_n [(2, .int (0 : Int32)), (1, .ref (a0 + 1 + 8)), (0, .ref a0)] B 5 rfl 2 rfl (by decide) rfl ?_
  refine z_sub [(0, .ref a0), (1, .ref (a0 + 1 + 8)), (2, .int (0 : Int32))] [2, 1, 0] rfl ?_
  exact f0_readLines_l10_ok hj X B hQ hr FU _ _ _ _ o_a0 (obf_1_1 (obf_0_0 o_a0))  hf
/-! ZoneCapacity$Zones.firstPrice(I)I -/
def tbX5_firstPrice : Tb := [(0, .aload_n 0, 1, 1), (1, .getfield 25, 3, 4), (4, .iload_n 1, 1, 5), (5, .invokestatic 46, 3, 8), (8, .ifCond .ne 7, 3, 11), (11, .iconst 0, 1, 12), (12, .goto 13, 3, 15), (15, .aload_n 0, 1, 16), (16, .getfield 31, 3, 19), (19, .iload_n 1, 1, 20), (20, .iconst 4, 1, 21), (21, .imul, 1, 22), (22, .invokestatic 46, 3, 25), (25, .ireturn, 1, 26)]
theorem dtX5_firstPrice : ∀ q ∈ tbX5_firstPrice, decode cX5_firstPrice q.1 = .ok (q.2.1, q.2.2.1) ∧ q.1 + q.2.2.1 = q.2.2.2 := by decide +kernel
theorem miX5_firstPrice : MI yX5_firstPrice cX5_firstPrice 2 (some .int) 1 := ⟨tw_mem (List.mem_of_getElem? (i := 366) (by decide +kernel)) rfl, by decide, by decide +kernel, tw_mem (List.mem_of_getElem? (i := 17) (by decide +kernel)) rfl⟩
abbrev rmX5_firstPrice : Room := { frames := 1, cells := 0, slots := 0, locals := 21 }
def wX5_firstPrice : List Cond := [.fieldLink "ZoneCapacity$Zones" 25 "ZoneCapacity$Zones" "points" "[I", .static yX6_at, .fieldLink "ZoneCapacity$Zones" 31 "ZoneCapacity$Zones" "pointPrices" "[I"]
theorem iX5_firstPrice : ∀ w ∈ wX5_firstPrice, w ∈ TW := tw_of (ids := [79, 272, 82]) (by decide +kernel)
def f5_firstPrice (mm : Mem) (a0 : Nat) (a1 : Int32) : Option Int32 := bd (f6_at mm (a0 + 4) a1) (fun r1 => if r1 = 0 then some ((0 : Int32)) else bd (f6_at mm (a0 + 6) (a1 * (4 : Int32))) (fun r2 => some (r2)))
theorem ctX5_firstPrice {l : Launch} {C : Cfg} (hj : Dj C) {mm : Mem} {a0 : Nat} {a1 : Int32} {x : Int32} (o_a0 : Ob a0 5) (hf : f5_firstPrice mm a0 a1 = some x) : Ct l C yX5_firstPrice cX5_firstPrice 2 (some .int) 1 21 [.ref a0, .int a1] mm (some (.int x)) mm := by
  refine Ct.of (tb := tbX5_firstPrice) hj miX5_firstPrice.2.1 miX5_firstPrice.1 dtX5_firstPrice (Nat.le_of_ble_eq_true rfl) ?_
  intro E B hQ hr X
  unfold f5_firstPrice at hf
  show G E 2 0 [(0, .ref a0), (1, .int a1)] [] mm
  refine z_aload_n B 0 rfl 0 0 rfl rfl ?_
  refine z_getr 5 4 a0 B 1 rfl o_a0 rfl (iX5_firstPrice _ (List.mem_of_getElem? (i := 0) rfl)) rfl ?_
  refine z_iload_n B 2 rfl 1 1 rfl rfl ?_
  obtain ⟨r1, ec, hf⟩ := bd_e hf
  refine z_callN [.ref (a0 + 4), .int a1] [] [.int r1] X B 3 rfl miX6_at ⟨List.mem_of_getElem? (i := 8) rfl, (iX5_firstPrice _ (List.mem_of_getElem? (i := 1) rfl))⟩ (ctX6_at hj (obf_5_4 o_a0) ec) ⟨Nat.le_of_ble_eq_true rfl, Nat.le_of_ble_eq_true rfl⟩ rfl rfl (Nat.le_of_ble_eq_true rfl) rfl ?_
  by_cases hc : r1 = 0
  · replace hf := (if_pos hc).symm.trans hf
    refine z_if_ne_f B 4 rfl 15 (by decide) hc ?_
    refine z_iconst 0 B 5 rfl (by decide) ?_
    refine z_goto B 6 rfl 25 (by decide) ?_
    cases hf
    exact z_iret B 13 rfl rfl hQ hr
  · replace hf := (if_neg hc).symm.trans hf
    refine z_if_ne_t B 4 rfl 15 (by decide) hc ?_
    refine z_aload_n B 7 rfl 0 0 rfl rfl ?_
    refine z_getr 5 6 a0 B 8 rfl o_a0 rfl (iX5_firstPrice _ (List.mem_of_getElem? (i := 2) rfl)) rfl ?_
    refine z_iload_n B 9 rfl 1 1 rfl rfl ?_
    refine z_iconst 4 B 10 rfl (by decide) ?_
    refine z_imul B 11 rfl ?_
    obtain ⟨r2, ec, hf⟩ := bd_e hf
    refine z_callN [.ref (a0 + 6), .int (a1 * (4 : Int32))] [] [.int r2] X B 12 rfl miX6_at ⟨List.mem_of_getElem? (i := 8) rfl, (iX5_firstPrice _ (List.mem_of_getElem? (i := 1) rfl))⟩ (ctX6_at hj (obf_5_6 o_a0) ec) ⟨Nat.le_of_ble_eq_true rfl, Nat.le_of_ble_eq_true rfl⟩ rfl rfl (Nat.le_of_ble_eq_true rfl) rfl ?_
    cases hf
    exact z_iret B 13 rfl rfl hQ hr
/-! ZoneCapacity$Auction.readTop()V -/
def tbX0_readTop : Tb := [(0, .aload_n 0, 1, 1), (1, .iconst 0, 1, 2), (2, .putfield 98, 3, 5), (5, .iconst 0, 1, 6), (6, .istore_n 1, 1, 7), (7, .iload_n 1, 1, 8), (8, .aload_n 0, 1, 9), (9, .getfield 12, 3, 12), (12, .getfield 60, 3, 15), (15, .getfield 64, 3, 18), (18, .if_icmp .ge 31, 3, 21), (21, .aload_n 0, 1, 22), (22, .aload_n 0, 1, 23), (23, .getfield 98, 3, 26), (26, .aload_n 0, 1, 27), (27, .getfield 12, 3, 30), (30, .getfield 60, 3, 33), (33, .iload_n 1, 1, 34), (34, .invokevirtual 101, 3, 37), (37, .invokestatic 105, 3, 40), (40, .putfield 98, 3, 43), (43, .iinc 1 1, 3, 46), (46, .goto (-39), 3, 49), (49, .return_, 1, 50)]
theorem dtX0_readTop : ∀ q ∈ tbX0_readTop, decode cX0_readTop q.1 = .ok (q.2.1, q.2.2.1) ∧ q.1 + q.2.2.1 = q.2.2.2 := by decide +kernel
theorem miX0_readTop : MI yX0_readTop cX0_readTop 2 none 0 := ⟨tw_mem (List.mem_of_getElem? (i := 362) (by decide +kernel)) rfl, by decide, by decide +kernel, tw_mem (List.mem_of_getElem? (i := 15) (by decide +kernel)) rfl⟩
abbrev rmX0_readTop : Room := { frames := 2, cells := 0, slots := 0, locals := 42 }
def wX0_readTop : List Cond := [.fieldLink "ZoneCapacity$Auction" 98 "ZoneCapacity$Auction" "top" "I", .fieldLink "ZoneCapacity$Auction" 12 "ZoneCapacity$Auction" "market" "LZoneCapacity$Market;", .fieldLink "ZoneCapacity$Auction" 60 "ZoneCapacity$Market" "zones" "LZoneCapacity$Zones;", .fieldLink "ZoneCapacity$Auction" 64 "ZoneCapacity$Zones" "many" "I", .methodLink "ZoneCapacity$Auction" 101 yX5_firstPrice, .instanceMethod yX5_firstPrice, .selects "ZoneCapacity$Zones" yX5_firstPrice yX5_firstPrice, .methodLink "ZoneCapacity$Auction" 105 ⟨"java/lang/Math", "max", "(II)I"⟩, .static ⟨"java/lang/Math", "max", "(II)I"⟩, .initialized "java/lang/Math", .code Lib.Math.max.name Lib.Math.max.code 2 (some .int)]
theorem iX0_readTop : ∀ w ∈ wX0_readTop, w ∈ TW := tw_of (ids := [176, 160, 150, 69, 363, 364, 365, 367, 354, 26, 355]) (by decide +kernel)
def f0_readTop_l7 : Nat → Nat → Int32 → Mem → Option Mem
  | 0, _, _, _ => none
  | n + 1, x0, x1, mm => if x1 < (mm (x0 + 1 + 1) 0) then bd (f5_firstPrice mm (x0 + 1 + 1) x1) (fun r2 => nm (mxi (mm x0 11) r2) (fun v3 => nm (up2 mm x0 11 v3) (fun m4 => nm (x1 + 1) (fun v5 => f0_readTop_l7 n x0 v5 m4)))) else some mm
theorem f0_readTop_l7_ok {E : Ev} {l : Launch} {C : Cfg} {x : Mem} (hj : Dj C) (X : Ec E l C rmX0_readTop) (B : Bx E RX0 tbX0_readTop 2 none) (hQ : Rt E) (hr : Rs E none x) (n : Nat) : ∀ (x0 : Nat) (x1 : Int32) (mm : Mem), Ob x0 0 → f0_readTop_l7 n x0 x1 mm = some x → G E 2 7 [(0, .ref x0), (1, .int x1)] [] mm := by
  induction n with
  | zero =>
    intro x0 x1 mm o_x0 hf
    rw [f0_readTop_l7] at hf
    cases hf
  | succ n ih =>
    intro x0 x1 mm o_x0 hf
    rw [f0_readTop_l7] at hf
    refine z_iload_n B 5 rfl 1 1 rfl rfl ?_
    refine z_aload_n B 6 rfl 0 0 rfl rfl ?_
    refine z_getr 0 0 x0 B 7 rfl o_x0 rfl (iX0_readTop _ (List.mem_of_getElem? (i := 1) rfl)) rfl ?_
    refine z_getr 1 0 (x0 + 1) B 8 rfl (obf_0_0 o_x0) rfl (iX0_readTop _ (List.mem_of_getElem? (i := 2) rfl)) rfl ?_
    refine z_geti 5 0 (x0 + 1 + 1) B 9 rfl (obf_1_0 (obf_0_0 o_x0)) rfl (iX0_readTop _ (List.mem_of_getElem? (i := 3) rfl)) rfl ?_
    by_cases hc : x1 < (mm (x0 + 1 + 1) 0)
    · replace hf := (if_pos hc).symm.trans hf
      refine z_icmp_ge_f B 10 rfl 49 (by decide) hc ?_
      refine z_aload_n B 11 rfl 0 0 rfl rfl ?_
      refine z_aload_n B 12 rfl 0 0 rfl rfl ?_
      refine z_geti 0 11 x0 B 13 rfl o_x0 rfl (iX0_readTop _ (List.mem_of_getElem? (i := 0) rfl)) rfl ?_
      refine z_aload_n B 14 rfl 0 0 rfl rfl ?_
      refine z_getr 0 0 x0 B 15 rfl o_x0 rfl (iX0_readTop _ (List.mem_of_getElem? (i := 1) rfl)) rfl ?_
      refine z_getr 1 0 (x0 + 1) B 16 rfl (obf_0_0 o_x0) rfl (iX0_readTop _ (List.mem_of_getElem? (i := 2) rfl)) rfl ?_
      refine z_iload_n B 17 rfl 1 1 rfl rfl ?_
      obtain ⟨r2, ec, hf⟩ := bd_e hf
      refine z_callV (x0 + 1 + 1) 5 [.int x1] [.int (mm x0 11), .ref x0] [.int r2, .int (mm x0 11), .ref x0] X B 18 rfl (by decide) (obf_1_0 (obf_0_0 o_x0)) rfl rfl miX5_firstPrice ⟨(iX0_readTop _ (List.mem_of_getElem? (i := 4) rfl)), (iX0_readTop _ (List.mem_of_getElem? (i := 5) rfl)), (iX0_readTop _ (List.mem_of_getElem? (i := 6) rfl))⟩ (ctX5_firstPrice hj (obf_1_0 (obf_0_0 o_x0)) ec) ⟨Nat.le_of_ble_eq_true rfl, Nat.le_of_ble_eq_true rfl⟩ rfl rfl (Nat.le_of_ble_eq_true rfl) rfl ?_
      refine z_mmax X B 19 rfl ⟨(iX0_readTop _ (List.mem_of_getElem? (i := 7) rfl)), (iX0_readTop _ (List.mem_of_getElem? (i := 8) rfl)), (iX0_readTop _ (List.mem_of_getElem? (i := 9) rfl)), (iX0_readTop _ (List.mem_of_getElem? (i := 10) rfl))⟩ ⟨Nat.le_of_ble_eq_true rfl, Nat.le_of_ble_eq_true rfl⟩ (Nat.le_of_ble_eq_true rfl) ?_
      obtain ⟨v3, ex, hf⟩ := nm_x hf
      refine z_top ex ?_
      refine z_puti 0 11 x0 B 20 rfl o_x0 rfl (iX0_readTop _ (List.mem_of_getElem? (i := 0) rfl)) rfl (ty := .int) (by decide) rfl rfl rfl ?_
      obtain ⟨m4, ex, hf⟩ := nm_x hf
      refine z_mem ex ?_
      obtain ⟨v5, ex, hf⟩ := nm_x hf
      refine z_iinc v5 [(1, .int v5), (0, .ref x0)] B 21 rfl 1 rfl (ex.symm) (by decide) rfl ?_
      refine z_goto B 22 rfl 7 (by decide) ?_
      refine z_sub [(0, .ref x0), (1, .int v5)] [1, 0] rfl ?_
      exact ih _ _ _ o_x0  hf
    · replace hf := (if_neg hc).symm.trans hf
      refine z_icmp_ge_t B 10 rfl 49 (by decide) hc ?_
      cases hf
      exact z_vret B 23 rfl hQ hr
def f0_readTop (mm : Mem) (a0 : Nat) : Option Mem := nm (up2 mm a0 11 (0 : Int32)) (fun m1 => f0_readTop_l7 FU a0 (0 : Int32) m1)
theorem ctX0_readTop {l : Launch} {C : Cfg} (hj : Dj C) {mm : Mem} {a0 : Nat} {x : Mem} (o_a0 : Ob a0 0) (hf : f0_readTop mm a0 = some x) : Ct l C yX0_readTop cX0_readTop 2 none 2 42 [.ref a0] mm none x := by
  refine Ct.of (tb := tbX0_readTop) hj miX0_readTop.2.1 miX0_readTop.1 dtX0_readTop (Nat.le_of_ble_eq_true rfl) ?_
  intro E B hQ hr X
  unfold f0_readTop at hf
  show G E 2 0 [(0, .ref a0)] [] mm
  refine z_aload_n B 0 rfl 0 0 rfl rfl ?_
  refine z_iconst 0 B 1 rfl (by decide) ?_
  refine z_puti 0 11 a0 B 2 rfl o_a0 rfl (iX0_readTop _ (List.mem_of_getElem? (i := 0) rfl)) rfl (ty := .int) (by decide) rfl rfl rfl ?_
  obtain ⟨m1, ex, hf⟩ := nm_x hf
  refine z_mem ex ?_
  refine z_iconst 0 B 3 rfl (by decide) ?_
  refine z_istore_n [(1, .int (0 : Int32)), (0, .ref a0)] B 4 rfl 1 rfl (by decide) rfl ?_
  refine z_sub [(0, .ref a0), (1, .int (0 : Int32))] [1, 0] rfl ?_
  exact f0_readTop_l7_ok hj X B hQ hr FU _ _ _ o_a0  hf
/-! ZoneCapacity$Zones.wantedBetween(IIII)I -/
def tbX5_wantedBetween : Tb := [(0, .iload_n 0, 1, 1), (1, .iload_n 1, 1, 2), (2, .isub, 1, 3), (3, .istore 4, 2, 5), (5, .iload 4, 2, 7), (7, .ifCond .gt 5, 3, 10), (10, .iconst 0, 1, 11), (11, .ireturn, 1, 12), (12, .iload_n 0, 1, 13), (13, .iload_n 3, 1, 14), (14, .isub, 1, 15), (15, .iconst 1, 1, 16), (16, .iadd, 1, 17), (17, .iload_n 2, 1, 18), (18, .imul, 1, 19), (19, .iconst 1, 1, 20), (20, .isub, 1, 21), (21, .iload 4, 2, 23), (23, .idiv, 1, 24), (24, .ireturn, 1, 25)]
theorem dtX5_wantedBetween : ∀ q ∈ tbX5_wantedBetween, decode cX5_wantedBetween q.1 = .ok (q.2.1, q.2.2.1) ∧ q.1 + q.2.2.1 = q.2.2.2 := by decide +kernel
theorem miX5_wantedBetween : MI yX5_wantedBetween cX5_wantedBetween 5 (some .int) 4 := ⟨tw_mem (List.mem_of_getElem? (i := 383) (by decide +kernel)) rfl, by decide, by decide +kernel, tw_mem (List.mem_of_getElem? (i := 17) (by decide +kernel)) rfl⟩
abbrev rmX5_wantedBetween : Room := { frames := 0, cells := 0, slots := 0, locals := 0 }
def f5_wantedBetween (mm : Mem) (a0 : Int32) (a1 : Int32) (a2 : Int32) (a3 : Int32) : Option Int32 := nm (a0 - a1) (fun v1 => if 0 < v1 then dvz v1 (some (((((a0 - a3) + (1 : Int32)) * a2) - (1 : Int32)) / v1)) else some ((0 : Int32)))
theorem ctX5_wantedBetween {l : Launch} {C : Cfg} (hj : Dj C) {mm : Mem} {a0 : Int32} {a1 : Int32} {a2 : Int32} {a3 : Int32} {x : Int32} (hf : f5_wantedBetween mm a0 a1 a2 a3 = some x) : Ct l C yX5_wantedBetween cX5_wantedBetween 5 (some .int) 0 0 [.int a0, .int a1, .int a2, .int a3] mm (some (.int x)) mm := by
  refine Ct.of (tb := tbX5_wantedBetween) hj miX5_wantedBetween.2.1 miX5_wantedBetween.1 dtX5_wantedBetween (Nat.le_of_ble_eq_true rfl) ?_
  intro E B hQ hr X
  unfold f5_wantedBetween at hf
  show G E 5 0 [(0, .int a0), (1, .int a1), (2, .int a2), (3, .int a3)] [] mm
  refine z_iload_n B 0 rfl 0 0 rfl rfl ?_
  refine z_iload_n B 1 rfl 1 1 rfl rfl ?_
  refine z_isub B 2 rfl ?_
  obtain ⟨v1, ex, hf⟩ := nm_x hf
  refine z_top ex ?_
  refine z_istore [(4, .int v1), (0, .int a0), (1, .int a1), (2, .int a2), (3, .int a3)] B 3 rfl (by decide) rfl ?_
  refine z_iload B 4 rfl 0 rfl ?_
  by_cases hc : 0 < v1
  · replace hf := (if_pos hc).symm.trans hf
    refine z_if_gt_t B 5 rfl 12 (by decide) hc ?_
    refine z_iload_n B 8 rfl 0 1 rfl rfl ?_
    refine z_iload_n B 9 rfl 3 4 rfl rfl ?_
    refine z_isub B 10 rfl ?_
    refine z_iconst 1 B 11 rfl (by decide) ?_
    refine z_iadd B 12 rfl ?_
    refine z_iload_n B 13 rfl 2 3 rfl rfl ?_
    refine z_imul B 14 rfl ?_
    refine z_iconst 1 B 15 rfl (by decide) ?_
    refine z_isub B 16 rfl ?_
    refine z_iload B 17 rfl 0 rfl ?_
    obtain ⟨hz, hf⟩ := dvz_e hf
    refine z_idiv B 18 rfl hz ?_
    cases hf
    exact z_iret B 19 rfl rfl hQ hr
  · replace hf := (if_neg hc).symm.trans hf
    refine z_if_gt_f B 5 rfl 12 (by decide) hc ?_
    refine z_iconst 0 B 6 rfl (by decide) ?_
    cases hf
    exact z_iret B 7 rfl rfl hQ hr
/-! ZoneCapacity$Zones.wantedFrom(II)I -/
def tbX5_wantedFrom : Tb := [(0, .iconst 0, 1, 1), (1, .istore_n 3, 1, 2), (2, .iconst 0, 1, 3), (3, .istore 4, 2, 5), (5, .iconst 0, 1, 6), (6, .istore 5, 2, 8), (8, .iload 5, 2, 10), (10, .aload_n 0, 1, 11), (11, .getfield 25, 3, 14), (14, .iload_n 1, 1, 15), (15, .invokestatic 46, 3, 18), (18, .if_icmp .ge 76, 3, 21), (21, .aload_n 0, 1, 22), (22, .getfield 28, 3, 25), (25, .iload_n 1, 1, 26), (26, .iconst 4, 1, 27), (27, .imul, 1, 28), (28, .iload 5, 2, 30), (30, .iadd, 1, 31), (31, .invokestatic 46, 3, 34), (34, .istore 6, 2, 36), (36, .aload_n 0, 1, 37), (37, .getfield 31, 3, 40), (40, .iload_n 1, 1, 41), (41, .iconst 4, 1, 42), (42, .imul, 1, 43), (43, .iload 5, 2, 45), (45, .iadd, 1, 46), (46, .invokestatic 46, 3, 49), (49, .istore 7, 2, 51), (51, .iload 7, 2, 53), (53, .iload_n 2, 1, 54), (54, .if_icmp .ge 27, 3, 57), (57, .iload 5, 2, 59), (59, .ifCond .ne 7, 3, 62), (62, .iconst 0, 1, 63), (63, .goto 17, 3, 66), (66, .iload_n 3, 1, 67), (67, .iload 4, 2, 69), (69, .iload 7, 2, 71), (71, .iload 6, 2, 73), (73, .iload_n 3, 1, 74), (74, .isub, 1, 75), (75, .iload_n 2, 1, 76), (76, .invokestatic 60, 3, 79), (79, .iadd, 1, 80), (80, .ireturn, 1, 81), (81, .iload 6, 2, 83), (83, .istore_n 3, 1, 84), (84, .iload 7, 2, 86), (86, .istore 4, 2, 88), (88, .iinc 5 1, 3, 91), (91, .goto (-83), 3, 94), (94, .iload_n 3, 1, 95), (95, .ireturn, 1, 96)]
theorem dtX5_wantedFrom : ∀ q ∈ tbX5_wantedFrom, decode cX5_wantedFrom q.1 = .ok (q.2.1, q.2.2.1) ∧ q.1 + q.2.2.1 = q.2.2.2 := by decide +kernel
theorem miX5_wantedFrom : MI yX5_wantedFrom cX5_wantedFrom 8 (some .int) 2 := ⟨tw_mem (List.mem_of_getElem? (i := 380) (by decide +kernel)) rfl, by decide, by decide +kernel, tw_mem (List.mem_of_getElem? (i := 17) (by decide +kernel)) rfl⟩
abbrev rmX5_wantedFrom : Room := { frames := 1, cells := 0, slots := 0, locals := 24 }
def wX5_wantedFrom : List Cond := [.fieldLink "ZoneCapacity$Zones" 25 "ZoneCapacity$Zones" "points" "[I", .static yX6_at, .fieldLink "ZoneCapacity$Zones" 28 "ZoneCapacity$Zones" "pointUnits" "[I", .fieldLink "ZoneCapacity$Zones" 31 "ZoneCapacity$Zones" "pointPrices" "[I", .methodLink "ZoneCapacity$Zones" 60 yX5_wantedBetween, .static yX5_wantedBetween]
theorem iX5_wantedFrom : ∀ w ∈ wX5_wantedFrom, w ∈ TW := tw_of (ids := [79, 272, 81, 82, 381, 382]) (by decide +kernel)
def f5_wantedFrom_l8 (mm : Mem) : Nat → Nat → Int32 → Int32 → Int32 → Int32 → Int32 → Option Int32
  | 0, _, _, _, _, _, _ => none
  | n + 1, x0, x1, x2, x3, x4, x5 => bd (f6_at mm (x0 + 4) x1) (fun r1 => if x5 < r1 then bd (f6_at mm (x0 + 5) ((x1 * (4 : Int32)) + x5)) (fun r2 => bd (f6_at mm (x0 + 6) ((x1 * (4 : Int32)) + x5)) (fun r3 => if r3 < x2 then if x5 = 0 then some ((0 : Int32)) else bd (f5_wantedBetween mm x4 r3 (r2 - x3) x2) (fun r5 => some (x3 + r5)) else nm (x5 + 1) (fun v4 => f5_wantedFrom_l8 mm n x0 x1 x2 r2 r3 v4))) else some (x3))
theorem f5_wantedFrom_l8_ok {E : Ev} {l : Launch} {C : Cfg} {mm : Mem} {x : Int32} (hj : Dj C) (X : Ec E l C rmX5_wantedFrom) (B : Bx E RX5 tbX5_wantedFrom 8 (some .int)) (hQ : Rt E) (hr : Rs E (some (.int x)) mm) (n : Nat) : ∀ (x0 : Nat) (x1 : Int32) (x2 : Int32) (x3 : Int32) (x4 : Int32) (x5 : Int32), Ob x0 5 → f5_wantedFrom_l8 mm n x0 x1 x2 x3 x4 x5 = some x → G E 8 8 [(0, .ref x0), (1, .int x1), (2, .int x2), (3, .int x3), (4, .int x4), (5, .int x5)] [] mm := by
  induction n with
  | zero =>
    intro x0 x1 x2 x3 x4 x5 o_x0 hf
    rw [f5_wantedFrom_l8] at hf
    cases hf
  | succ n ih =>
    intro x0 x1 x2 x3 x4 x5 o_x0 hf
    rw [f5_wantedFrom_l8] at hf
    refine z_iload B 6 rfl 5 rfl ?_
    refine z_aload_n B 7 rfl 0 0 rfl rfl ?_
    refine z_getr 5 4 x0 B 8 rfl o_x0 rfl (iX5_wantedFrom _ (List.mem_of_getElem? (i := 0) rfl)) rfl ?_
    refine z_iload_n B 9 rfl 1 1 rfl rfl ?_
    obtain ⟨r1, ec, hf⟩ := bd_e hf
    refine z_callN [.ref (x0 + 4), .int x1] [.int x5] [.int r1, .int x5] X B 10 rfl miX6_at ⟨List.mem_of_getElem? (i := 8) rfl, (iX5_wantedFrom _ (List.mem_of_getElem? (i := 1) rfl))⟩ (ctX6_at hj (obf_5_4 o_x0) ec) ⟨Nat.le_of_ble_eq_true rfl, Nat.le_of_ble_eq_true rfl⟩ rfl rfl (Nat.le_of_ble_eq_true rfl) rfl ?_
    by_cases hc : x5 < r1
    · replace hf := (if_pos hc).symm.trans hf
      refine z_icmp_ge_f B 11 rfl 94 (by decide) hc ?_
      refine z_aload_n B 12 rfl 0 0 rfl rfl ?_
      refine z_getr 5 5 x0 B 13 rfl o_x0 rfl (iX5_wantedFrom _ (List.mem_of_getElem? (i := 2) rfl)) rfl ?_
      refine z_iload_n B 14 rfl 1 1 rfl rfl ?_
      refine z_iconst 4 B 15 rfl (by decide) ?_
      refine z_imul B 16 rfl ?_
      refine z_iload B 17 rfl 5 rfl ?_
      refine z_iadd B 18 rfl ?_
      obtain ⟨r2, ec, hf⟩ := bd_e hf
      refine z_callN [.ref (x0 + 5), .int ((x1 * (4 : Int32)) + x5)] [] [.int r2] X B 19 rfl miX6_at ⟨List.mem_of_getElem? (i := 8) rfl, (iX5_wantedFrom _ (List.mem_of_getElem? (i := 1) rfl))⟩ (ctX6_at hj (obf_5_5 o_x0) ec) ⟨Nat.le_of_ble_eq_true rfl, Nat.le_of_ble_eq_true rfl⟩ rfl rfl (Nat.le_of_ble_eq_true rfl) rfl ?_
      refine z_istore [(6, .int r2), (0, .ref x0), (1, .int x1), (2, .int x2), (3, .int x3), (4, .int x4), (5, .int x5)] B 20 rfl (by decide) rfl ?_
      refine z_aload_n B 21 rfl 0 1 rfl rfl ?_
      refine z_getr 5 6 x0 B 22 rfl o_x0 rfl (iX5_wantedFrom _ (List.mem_of_getElem? (i := 3) rfl)) rfl ?_
      refine z_iload_n B 23 rfl 1 2 rfl rfl ?_
      refine z_iconst 4 B 24 rfl (by decide) ?_
      refine z_imul B 25 rfl ?_
      refine z_iload B 26 rfl 6 rfl ?_
      refine z_iadd B 27 rfl ?_
      obtain ⟨r3, ec, hf⟩ := bd_e hf
      refine z_callN [.ref (x0 + 6), .int ((x1 * (4 : Int32)) + x5)] [] [.int r3] X B 28 rfl miX6_at ⟨List.mem_of_getElem? (i := 8) rfl, (iX5_wantedFrom _ (List.mem_of_getElem? (i := 1) rfl))⟩ (ctX6_at hj (obf_5_6 o_x0) ec) ⟨Nat.le_of_ble_eq_true rfl, Nat.le_of_ble_eq_true rfl⟩ rfl rfl (Nat.le_of_ble_eq_true rfl) rfl ?_
      refine z_istore [(7, .int r3), (6, .int r2), (0, .ref x0), (1, .int x1), (2, .int x2), (3, .int x3), (4, .int x4), (5, .int x5)] B 29 rfl (by decide) rfl ?_
      refine z_iload B 30 rfl 0 rfl ?_
      refine z_iload_n B 31 rfl 2 4 rfl rfl ?_
      by_cases hc : r3 < x2
      · replace hf := (if_pos hc).symm.trans hf
        refine z_icmp_ge_f B 32 rfl 81 (by decide) hc ?_
        refine z_iload B 33 rfl 7 rfl ?_
        by_cases hc : x5 = 0
        · replace hf := (if_pos hc).symm.trans hf
          refine z_if_ne_f B 34 rfl 66 (by decide) hc ?_
          refine z_iconst 0 B 35 rfl (by decide) ?_
          refine z_goto B 36 rfl 80 (by decide) ?_
          cases hf
          exact z_iret B 46 rfl rfl hQ hr
        · replace hf := (if_neg hc).symm.trans hf
          refine z_if_ne_t B 34 rfl 66 (by decide) hc ?_
          refine z_iload_n B 37 rfl 3 5 rfl rfl ?_
          refine z_iload B 38 rfl 6 rfl ?_
          refine z_iload B 39 rfl 0 rfl ?_
          refine z_iload B 40 rfl 1 rfl ?_
          refine z_iload_n B 41 rfl 3 5 rfl rfl ?_
          refine z_isub B 42 rfl ?_
          refine z_iload_n B 43 rfl 2 4 rfl rfl ?_
          obtain ⟨r5, ec, hf⟩ := bd_e hf
          refine z_callS [.int x4, .int r3, .int (r2 - x3), .int x2] [.int x3] [.int r5, .int x3] X B 44 rfl miX5_wantedBetween ⟨(iX5_wantedFrom _ (List.mem_of_getElem? (i := 4) rfl)), (iX5_wantedFrom _ (List.mem_of_getElem? (i := 5) rfl))⟩ (ctX5_wantedBetween hj ec) ⟨Nat.le_of_ble_eq_true rfl, Nat.le_of_ble_eq_true rfl⟩ rfl rfl (Nat.le_of_ble_eq_true rfl) rfl ?_
          refine z_iadd B 45 rfl ?_
          cases hf
          exact z_iret B 46 rfl rfl hQ hr
      · replace hf := (if_neg hc).symm.trans hf
        refine z_icmp_ge_t B 32 rfl 81 (by decide) hc ?_
        refine z_iload B 47 rfl 1 rfl ?_
        refine z_istore_n [(3, .int r2), (7, .int r3), (6, .int r2), (0, .ref x0), (1, .int x1), (2, .int x2), (4, .int x4), (5, .int x5)] B 48 rfl 3 rfl (by decide) rfl ?_
        refine z_iload B 49 rfl 1 rfl ?_
        refine z_istore [(4, .int r3), (3, .int r2), (7, .int r3), (6, .int r2), (0, .ref x0), (1, .int x1), (2, .int x2), (5, .int x5)] B 50 rfl (by decide) rfl ?_
        obtain ⟨v4, ex, hf⟩ := nm_x hf
        refine z_iinc v4 [(5, .int v4), (4, .int r3), (3, .int r2), (7, .int r3), (6, .int r2), (0, .ref x0), (1, .int x1), (2, .int x2)] B 51 rfl 7 rfl (ex.symm) (by decide) rfl ?_
        refine z_goto B 52 rfl 8 (by decide) ?_
        refine z_sub [(0, .ref x0), (1, .int x1), (2, .int x2), (3, .int r2), (4, .int r3), (5, .int v4)] [5, 6, 7, 2, 1, 0] rfl ?_
        exact ih _ _ _ _ _ _ o_x0  hf
    · replace hf := (if_neg hc).symm.trans hf
      refine z_icmp_ge_t B 11 rfl 94 (by decide) hc ?_
      refine z_iload_n B 53 rfl 3 3 rfl rfl ?_
      cases hf
      exact z_iret B 54 rfl rfl hQ hr
def f5_wantedFrom (mm : Mem) (a0 : Nat) (a1 : Int32) (a2 : Int32) : Option Int32 := f5_wantedFrom_l8 mm FU a0 a1 a2 (0 : Int32) (0 : Int32) (0 : Int32)
theorem ctX5_wantedFrom {l : Launch} {C : Cfg} (hj : Dj C) {mm : Mem} {a0 : Nat} {a1 : Int32} {a2 : Int32} {x : Int32} (o_a0 : Ob a0 5) (hf : f5_wantedFrom mm a0 a1 a2 = some x) : Ct l C yX5_wantedFrom cX5_wantedFrom 8 (some .int) 1 24 [.ref a0, .int a1, .int a2] mm (some (.int x)) mm := by
  refine Ct.of (tb := tbX5_wantedFrom) hj miX5_wantedFrom.2.1 miX5_wantedFrom.1 dtX5_wantedFrom (Nat.le_of_ble_eq_true rfl) ?_
  intro E B hQ hr X
  unfold f5_wantedFrom at hf
  show G E 8 0 [(0, .ref a0), (1, .int a1), (2, .int a2)] [] mm
  refine z_iconst 0 B 0 rfl (by decide) ?_
  refine z_istore_n [(3, .int (0 : Int32)), (0, .ref a0), (1, .int a1), (2, .int a2)] B 1 rfl 3 rfl (by decide) rfl ?_
  refine z_iconst 0 B 2 rfl (by decide) ?_
  refine z_istore [(4, .int (0 : Int32)), (3, .int (0 : Int32)), (0, .ref a0), (1, .int a1), (2, .int a2)] B 3 rfl (by decide) rfl ?_
  refine z_iconst 0 B 4 rfl (by decide) ?_
  refine z_istore [(5, .int (0 : Int32)), (4, .int (0 : Int32)), (3, .int (0 : Int32)), (0, .ref a0), (1, .int a1), (2, .int a2)] B 5 rfl (by decide) rfl ?_
  refine z_sub [(0, .ref a0), (1, .int a1), (2, .int a2), (3, .int (0 : Int32)), (4, .int (0 : Int32)), (5, .int (0 : Int32))] [3, 4, 5, 2, 1, 0] rfl ?_
  exact f5_wantedFrom_l8_ok hj X B hQ hr FU _ _ _ _ _ _ o_a0  hf
/-! ZoneCapacity$Auction.unitsBelow(II)I -/
def tbX0_unitsBelow : Tb := [(0, .iconst 0, 1, 1), (1, .istore_n 3, 1, 2), (2, .iload_n 1, 1, 3), (3, .iconst 4, 1, 4), (4, .imul, 1, 5), (5, .istore 4, 2, 7), (7, .iload 4, 2, 9), (9, .iload_n 1, 1, 10), (10, .iconst 4, 1, 11), (11, .imul, 1, 12), (12, .iconst 4, 1, 13), (13, .iadd, 1, 14), (14, .if_icmp .ge 34, 3, 17), (17, .aload_n 0, 1, 18), (18, .getfield 34, 3, 21), (21, .iload 4, 2, 23), (23, .invokestatic 69, 3, 26), (26, .iload_n 2, 1, 27), (27, .if_icmp .ge 15, 3, 30), (30, .iload_n 3, 1, 31), (31, .aload_n 0, 1, 32), (32, .getfield 31, 3, 35), (35, .iload 4, 2, 37), (37, .invokestatic 69, 3, 40), (40, .iadd, 1, 41), (41, .istore_n 3, 1, 42), (42, .iinc 4 1, 3, 45), (45, .goto (-38), 3, 48), (48, .iload_n 3, 1, 49), (49, .ireturn, 1, 50)]
theorem dtX0_unitsBelow : ∀ q ∈ tbX0_unitsBelow, decode cX0_unitsBelow q.1 = .ok (q.2.1, q.2.2.1) ∧ q.1 + q.2.2.1 = q.2.2.2 := by decide +kernel
theorem miX0_unitsBelow : MI yX0_unitsBelow cX0_unitsBelow 5 (some .int) 2 := ⟨tw_mem (List.mem_of_getElem? (i := 387) (by decide +kernel)) rfl, by decide, by decide +kernel, tw_mem (List.mem_of_getElem? (i := 15) (by decide +kernel)) rfl⟩
abbrev rmX0_unitsBelow : Room := { frames := 1, cells := 0, slots := 0, locals := 21 }
def wX0_unitsBelow : List Cond := [.fieldLink "ZoneCapacity$Auction" 34 "ZoneCapacity$Auction" "its" "[I", .static yX6_at, .fieldLink "ZoneCapacity$Auction" 31 "ZoneCapacity$Auction" "units" "[I"]
theorem iX0_unitsBelow : ∀ w ∈ wX0_unitsBelow, w ∈ TW := tw_of (ids := [171, 272, 170]) (by decide +kernel)
def f0_unitsBelow_j42 (k7 : Nat → Int32 → Int32 → Int32 → Int32 → Option Int32) (mm : Mem) (x0 : Nat) (x1 : Int32) (x2 : Int32) (x3 : Int32) (x4 : Int32) : Option Int32 := nm (x4 + 1) (fun v3 => k7 x0 x1 x2 x3 v3)
theorem f0_unitsBelow_j42_ok {E : Ev} {l : Launch} {C : Cfg} {mm : Mem} {x : Int32} {k7 : Nat → Int32 → Int32 → Int32 → Int32 → Option Int32} (hj : Dj C) (X : Ec E l C rmX0_unitsBelow) (B : Bx E RX0 tbX0_unitsBelow 5 (some .int)) (hQ : Rt E) (hr : Rs E (some (.int x)) mm) (hk7 : ∀ (x0 : Nat) (x1 : Int32) (x2 : Int32) (x3 : Int32) (x4 : Int32), Ob x0 0 → k7 x0 x1 x2 x3 x4 = some x → G E 5 7 [(0, .ref x0), (1, .int x1), (2, .int x2), (3, .int x3), (4, .int x4)] [] mm) (x0 : Nat) (x1 : Int32) (x2 : Int32) (x3 : Int32) (x4 : Int32) (o_x0 : Ob x0 0) (hf : f0_unitsBelow_j42 k7 mm x0 x1 x2 x3 x4 = some x) : G E 5 42 [(0, .ref x0), (1, .int x1), (2, .int x2), (3, .int x3), (4, .int x4)] [] mm := by
  unfold f0_unitsBelow_j42 at hf
  obtain ⟨v3, ex, hf⟩ := nm_x hf
  refine z_iinc v3 [(4, .int v3), (0, .ref x0), (1, .int x1), (2, .int x2), (3, .int x3)] B 26 rfl 4 rfl (ex.symm) (by decide) rfl ?_
  refine z_goto B 27 rfl 7 (by decide) ?_
  refine z_sub [(0, .ref x0), (1, .int x1), (2, .int x2), (3, .int x3), (4, .int v3)] [1, 2, 3, 4, 0] rfl ?_
  exact hk7 _ _ _ _ _ o_x0  hf
def f0_unitsBelow_l7 (mm : Mem) : Nat → Nat → Int32 → Int32 → Int32 → Int32 → Option Int32
  | 0, _, _, _, _, _ => none
  | n + 1, x0, x1, x2, x3, x4 => if x4 < ((x1 * (4 : Int32)) + (4 : Int32)) then bd (f6_at mm (x0 + 25) x4) (fun r2 => if r2 < x2 then bd (f6_at mm (x0 + 24) x4) (fun r4 => nm (x3 + r4) (fun v5 => f0_unitsBelow_j42 (fun x0 x1 x2 x3 x4 => f0_unitsBelow_l7 mm n x0 x1 x2 x3 x4) mm x0 x1 x2 v5 x4)) else f0_unitsBelow_j42 (fun x0 x1 x2 x3 x4 => f0_unitsBelow_l7 mm n x0 x1 x2 x3 x4) mm x0 x1 x2 x3 x4) else some (x3)
theorem f0_unitsBelow_l7_ok {E : Ev} {l : Launch} {C : Cfg} {mm : Mem} {x : Int32} (hj : Dj C) (X : Ec E l C rmX0_unitsBelow) (B : Bx E RX0 tbX0_unitsBelow 5 (some .int)) (hQ : Rt E) (hr : Rs E (some (.int x)) mm) (n : Nat) : ∀ (x0 : Nat) (x1 : Int32) (x2 : Int32) (x3 : Int32) (x4 : Int32), Ob x0 0 → f0_unitsBelow_l7 mm n x0 x1 x2 x3 x4 = some x → G E 5 7 [(0, .ref x0), (1, .int x1), (2, .int x2), (3, .int x3), (4, .int x4)] [] mm := by
  induction n with
  | zero =>
    intro x0 x1 x2 x3 x4 o_x0 hf
    rw [f0_unitsBelow_l7] at hf
    cases hf
  | succ n ih =>
    intro x0 x1 x2 x3 x4 o_x0 hf
    rw [f0_unitsBelow_l7] at hf
    refine z_iload B 6 rfl 4 rfl ?_
    refine z_iload_n B 7 rfl 1 1 rfl rfl ?_
    refine z_iconst 4 B 8 rfl (by decide) ?_
    refine z_imul B 9 rfl ?_
    refine z_iconst 4 B 10 rfl (by decide) ?_
    refine z_iadd B 11 rfl ?_
    by_cases hc : x4 < ((x1 * (4 : Int32)) + (4 : Int32))
    · replace hf := (if_pos hc).symm.trans hf
      refine z_icmp_ge_f B 12 rfl 48 (by decide) hc ?_
      refine z_aload_n B 13 rfl 0 0 rfl rfl ?_
      refine z_getr 0 6 x0 B 14 rfl o_x0 rfl (iX0_unitsBelow _ (List.mem_of_getElem? (i := 0) rfl)) rfl ?_
      refine z_iload B 15 rfl 4 rfl ?_
      obtain ⟨r2, ec, hf⟩ := bd_e hf
      refine z_callN [.ref (x0 + 25), .int x4] [] [.int r2] X B 16 rfl miX6_at ⟨List.mem_of_getElem? (i := 13) rfl, (iX0_unitsBelow _ (List.mem_of_getElem? (i := 1) rfl))⟩ (ctX6_at hj (obf_0_6 o_x0) ec) ⟨Nat.le_of_ble_eq_true rfl, Nat.le_of_ble_eq_true rfl⟩ rfl rfl (Nat.le_of_ble_eq_true rfl) rfl ?_
      refine z_iload_n B 17 rfl 2 2 rfl rfl ?_
      by_cases hc : r2 < x2
      · replace hf := (if_pos hc).symm.trans hf
        refine z_icmp_ge_f B 18 rfl 42 (by decide) hc ?_
        refine z_iload_n B 19 rfl 3 3 rfl rfl ?_
        refine z_aload_n B 20 rfl 0 0 rfl rfl ?_
        refine z_getr 0 5 x0 B 21 rfl o_x0 rfl (iX0_unitsBelow _ (List.mem_of_getElem? (i := 2) rfl)) rfl ?_
        refine z_iload B 22 rfl 4 rfl ?_
        obtain ⟨r4, ec, hf⟩ := bd_e hf
        refine z_callN [.ref (x0 + 24), .int x4] [.int x3] [.int r4, .int x3] X B 23 rfl miX6_at ⟨List.mem_of_getElem? (i := 13) rfl, (iX0_unitsBelow _ (List.mem_of_getElem? (i := 1) rfl))⟩ (ctX6_at hj (obf_0_5 o_x0) ec) ⟨Nat.le_of_ble_eq_true rfl, Nat.le_of_ble_eq_true rfl⟩ rfl rfl (Nat.le_of_ble_eq_true rfl) rfl ?_
        refine z_iadd B 24 rfl ?_
        obtain ⟨v5, ex, hf⟩ := nm_x hf
        refine z_top ex ?_
        refine z_istore_n [(3, .int v5), (0, .ref x0), (1, .int x1), (2, .int x2), (4, .int x4)] B 25 rfl 3 rfl (by decide) rfl ?_
        refine z_sub [(0, .ref x0), (1, .int x1), (2, .int x2), (3, .int v5), (4, .int x4)] [1, 2, 3, 0, 4] rfl ?_
        exact f0_unitsBelow_j42_ok hj X B hQ hr ih _ _ _ _ _ o_x0  hf
      · replace hf := (if_neg hc).symm.trans hf
        refine z_icmp_ge_t B 18 rfl 42 (by decide) hc ?_
        exact f0_unitsBelow_j42_ok hj X B hQ hr ih _ _ _ _ _ o_x0  hf
    · replace hf := (if_neg hc).symm.trans hf
      refine z_icmp_ge_t B 12 rfl 48 (by decide) hc ?_
      refine z_iload_n B 28 rfl 3 3 rfl rfl ?_
      cases hf
      exact z_iret B 29 rfl rfl hQ hr
def f0_unitsBelow (mm : Mem) (a0 : Nat) (a1 : Int32) (a2 : Int32) : Option Int32 := nm (a1 * (4 : Int32)) (fun v1 => f0_unitsBelow_l7 mm FU a0 a1 a2 (0 : Int32) v1)
theorem ctX0_unitsBelow {l : Launch} {C : Cfg} (hj : Dj C) {mm : Mem} {a0 : Nat} {a1 : Int32} {a2 : Int32} {x : Int32} (o_a0 : Ob a0 0) (hf : f0_unitsBelow mm a0 a1 a2 = some x) : Ct l C yX0_unitsBelow cX0_unitsBelow 5 (some .int) 1 21 [.ref a0, .int a1, .int a2] mm (some (.int x)) mm := by
  refine Ct.of (tb := tbX0_unitsBelow) hj miX0_unitsBelow.2.1 miX0_unitsBelow.1 dtX0_unitsBelow (Nat.le_of_ble_eq_true rfl) ?_
  intro E B hQ hr X
  unfold f0_unitsBelow at hf
  show G E 5 0 [(0, .ref a0), (1, .int a1), (2, .int a2)] [] mm
  refine z_iconst 0 B 0 rfl (by decide) ?_
  refine z_istore_n [(3, .int (0 : Int32)), (0, .ref a0), (1, .int a1), (2, .int a2)] B 1 rfl 3 rfl (by decide) rfl ?_
  refine z_iload_n B 2 rfl 1 2 rfl rfl ?_
  refine z_iconst 4 B 3 rfl (by decide) ?_
  refine z_imul B 4 rfl ?_
  obtain ⟨v1, ex, hf⟩ := nm_x hf
  refine z_top ex ?_
  refine z_istore [(4, .int v1), (3, .int (0 : Int32)), (0, .ref a0), (1, .int a1), (2, .int a2)] B 5 rfl (by decide) rfl ?_
  refine z_sub [(0, .ref a0), (1, .int a1), (2, .int a2), (3, .int (0 : Int32)), (4, .int v1)] [2, 3, 4, 1, 0] rfl ?_
  exact f0_unitsBelow_l7_ok hj X B hQ hr FU _ _ _ _ _ o_a0  hf
/-! ZoneCapacity$Zones.cut(II)I -/
def tbX5_cut : Tb := [(0, .aload_n 0, 1, 1), (1, .getfield 19, 3, 4), (4, .iload_n 1, 1, 5), (5, .invokestatic 46, 3, 8), (8, .ineg, 1, 9), (9, .aload_n 0, 1, 10), (10, .getfield 22, 3, 13), (13, .iload_n 1, 1, 14), (14, .invokestatic 46, 3, 17), (17, .iload_n 2, 1, 18), (18, .invokestatic 54, 3, 21), (21, .invokestatic 64, 3, 24), (24, .ireturn, 1, 25)]
theorem dtX5_cut : ∀ q ∈ tbX5_cut, decode cX5_cut q.1 = .ok (q.2.1, q.2.2.1) ∧ q.1 + q.2.2.1 = q.2.2.2 := by decide +kernel
theorem miX5_cut : MI yX5_cut cX5_cut 3 (some .int) 2 := ⟨tw_mem (List.mem_of_getElem? (i := 391) (by decide +kernel)) rfl, by decide, by decide +kernel, tw_mem (List.mem_of_getElem? (i := 17) (by decide +kernel)) rfl⟩
abbrev rmX5_cut : Room := { frames := 1, cells := 0, slots := 0, locals := 21 }
def wX5_cut : List Cond := [.fieldLink "ZoneCapacity$Zones" 19 "ZoneCapacity$Zones" "in" "[I", .static yX6_at, .fieldLink "ZoneCapacity$Zones" 22 "ZoneCapacity$Zones" "out" "[I", .methodLink "ZoneCapacity$Zones" 54 ⟨"java/lang/Math", "min", "(II)I"⟩, .static ⟨"java/lang/Math", "min", "(II)I"⟩, .initialized "java/lang/Math", .code Lib.Math.min.name Lib.Math.min.code 2 (some .int), .methodLink "ZoneCapacity$Zones" 64 ⟨"java/lang/Math", "max", "(II)I"⟩, .static ⟨"java/lang/Math", "max", "(II)I"⟩, .code Lib.Math.max.name Lib.Math.max.code 2 (some .int)]
theorem iX5_cut : ∀ w ∈ wX5_cut, w ∈ TW := tw_of (ids := [73, 272, 76, 392, 357, 26, 358, 393, 354, 355]) (by decide +kernel)
def f5_cut (mm : Mem) (a0 : Nat) (a1 : Int32) (a2 : Int32) : Option Int32 := bd (f6_at mm (a0 + 2) a1) (fun r1 => bd (f6_at mm (a0 + 3) a1) (fun r2 => nm (mni r2 a2) (fun v3 => nm (mxi (-r1) v3) (fun v4 => some (v4)))))
theorem ctX5_cut {l : Launch} {C : Cfg} (hj : Dj C) {mm : Mem} {a0 : Nat} {a1 : Int32} {a2 : Int32} {x : Int32} (o_a0 : Ob a0 5) (hf : f5_cut mm a0 a1 a2 = some x) : Ct l C yX5_cut cX5_cut 3 (some .int) 1 21 [.ref a0, .int a1, .int a2] mm (some (.int x)) mm := by
  refine Ct.of (tb := tbX5_cut) hj miX5_cut.2.1 miX5_cut.1 dtX5_cut (Nat.le_of_ble_eq_true rfl) ?_
  intro E B hQ hr X
  unfold f5_cut at hf
  show G E 3 0 [(0, .ref a0), (1, .int a1), (2, .int a2)] [] mm
  refine z_aload_n B 0 rfl 0 0 rfl rfl ?_
  refine z_getr 5 2 a0 B 1 rfl o_a0 rfl (iX5_cut _ (List.mem_of_getElem? (i := 0) rfl)) rfl ?_
  refine z_iload_n B 2 rfl 1 1 rfl rfl ?_
  obtain ⟨r1, ec, hf⟩ := bd_e hf
  refine z_callN [.ref (a0 + 2), .int a1] [] [.int r1] X B 3 rfl miX6_at ⟨List.mem_of_getElem? (i := 8) rfl, (iX5_cut _ (List.mem_of_getElem? (i := 1) rfl))⟩ (ctX6_at hj (obf_5_2 o_a0) ec) ⟨Nat.le_of_ble_eq_true rfl, Nat.le_of_ble_eq_true rfl⟩ rfl rfl (Nat.le_of_ble_eq_true rfl) rfl ?_
  refine z_ineg B 4 rfl ?_
  refine z_aload_n B 5 rfl 0 0 rfl rfl ?_
  refine z_getr 5 3 a0 B 6 rfl o_a0 rfl (iX5_cut _ (List.mem_of_getElem? (i := 2) rfl)) rfl ?_
  refine z_iload_n B 7 rfl 1 1 rfl rfl ?_
  obtain ⟨r2, ec, hf⟩ := bd_e hf
  refine z_callN [.ref (a0 + 3), .int a1] [.int (-r1)] [.int r2, .int (-r1)] X B 8 rfl miX6_at ⟨List.mem_of_getElem? (i := 8) rfl, (iX5_cut _ (List.mem_of_getElem? (i := 1) rfl))⟩ (ctX6_at hj (obf_5_3 o_a0) ec) ⟨Nat.le_of_ble_eq_true rfl, Nat.le_of_ble_eq_true rfl⟩ rfl rfl (Nat.le_of_ble_eq_true rfl) rfl ?_
  refine z_iload_n B 9 rfl 2 2 rfl rfl ?_
  refine z_mmin X B 10 rfl ⟨(iX5_cut _ (List.mem_of_getElem? (i := 3) rfl)), (iX5_cut _ (List.mem_of_getElem? (i := 4) rfl)), (iX5_cut _ (List.mem_of_getElem? (i := 5) rfl)), (iX5_cut _ (List.mem_of_getElem? (i := 6) rfl))⟩ ⟨Nat.le_of_ble_eq_true rfl, Nat.le_of_ble_eq_true rfl⟩ (Nat.le_of_ble_eq_true rfl) ?_
  obtain ⟨v3, ex, hf⟩ := nm_x hf
  refine z_top ex ?_
  refine z_mmax X B 11 rfl ⟨(iX5_cut _ (List.mem_of_getElem? (i := 7) rfl)), (iX5_cut _ (List.mem_of_getElem? (i := 8) rfl)), (iX5_cut _ (List.mem_of_getElem? (i := 5) rfl)), (iX5_cut _ (List.mem_of_getElem? (i := 9) rfl))⟩ ⟨Nat.le_of_ble_eq_true rfl, Nat.le_of_ble_eq_true rfl⟩ (Nat.le_of_ble_eq_true rfl) ?_
  obtain ⟨v4, ex, hf⟩ := nm_x hf
  refine z_top ex ?_
  cases hf
  exact z_iret B 12 rfl rfl hQ hr
/-! ZoneCapacity$Auction.fillLevels(II[I)V -/
def tbX0_fillLevels : Tb := [(0, .aload_n 0, 1, 1), (1, .getfield 12, 3, 4), (4, .getfield 60, 3, 7), (7, .astore 4, 2, 9), (9, .aload_n 0, 1, 10), (10, .getfield 12, 3, 13), (13, .getfield 85, 3, 16), (16, .astore 5, 2, 18), (18, .iload_n 1, 1, 19), (19, .istore 6, 2, 21), (21, .iload 6, 2, 23), (23, .aload 4, 2, 25), (25, .getfield 64, 3, 28), (28, .if_icmp .ge 24, 3, 31), (31, .aload_n 3, 1, 32), (32, .iload 6, 2, 34), (34, .aload 4, 2, 36), (36, .iload 6, 2, 38), (38, .iload_n 2, 1, 39), (39, .invokevirtual 110, 3, 42), (42, .ineg, 1, 43), (43, .invokestatic 56, 3, 46), (46, .iinc 6 1, 3, 49), (49, .goto (-28), 3, 52), (52, .iconst 0, 1, 53), (53, .istore 6, 2, 55), (55, .iload 6, 2, 57), (57, .aload 5, 2, 59), (59, .getfield 89, 3, 62), (62, .if_icmp .ge 47, 3, 65), (65, .aload 5, 2, 67), (67, .getfield 113, 3, 70), (70, .iload 6, 2, 72), (72, .invokestatic 69, 3, 75), (75, .istore 7, 2, 77), (77, .iload 7, 2, 79), (79, .iload_n 1, 1, 80), (80, .if_icmp .lt 23, 3, 83), (83, .aload_n 3, 1, 84), (84, .iload 7, 2, 86), (86, .aload_n 3, 1, 87), (87, .iload 7, 2, 89), (89, .invokestatic 69, 3, 92), (92, .aload_n 0, 1, 93), (93, .iload 6, 2, 95), (95, .iload_n 2, 1, 96), (96, .invokevirtual 115, 3, 99), (99, .iadd, 1, 100), (100, .invokestatic 56, 3, 103), (103, .iinc 6 1, 3, 106), (106, .goto (-51), 3, 109), (109, .aload 4, 2, 111), (111, .getfield 64, 3, 114), (114, .iconst 1, 1, 115), (115, .isub, 1, 116), (116, .istore 6, 2, 118), (118, .iload 6, 2, 120), (120, .iload_n 1, 1, 121), (121, .if_icmp .le 53, 3, 124), (124, .aload 4, 2, 126), (126, .getfield 118, 3, 129), (129, .iload 6, 2, 131), (131, .invokestatic 69, 3, 134), (134, .istore 7, 2, 136), (136, .iload 7, 2, 138), (138, .iload_n 1, 1, 139), (139, .if_icmp .lt 29, 3, 142), (142, .aload_n 3, 1, 143), (143, .iload 7, 2, 145), (145, .aload_n 3, 1, 146), (146, .iload 7, 2, 148), (148, .invokestatic 69, 3, 151), (151, .aload 4, 2, 153), (153, .iload 6, 2, 155), (155, .aload_n 3, 1, 156), (156, .iload 6, 2, 158), (158, .invokestatic 69, 3, 161), (161, .invokevirtual 121, 3, 164), (164, .iadd, 1, 165), (165, .invokestatic 56, 3, 168), (168, .iinc 6 (-1), 3, 171), (171, .goto (-53), 3, 174), (174, .return_, 1, 175)]
theorem dtX0_fillLevels : ∀ q ∈ tbX0_fillLevels, decode cX0_fillLevels q.1 = .ok (q.2.1, q.2.2.1) ∧ q.1 + q.2.2.1 = q.2.2.2 := by decide +kernel
theorem miX0_fillLevels : MI yX0_fillLevels cX0_fillLevels 8 none 3 := ⟨tw_mem (List.mem_of_getElem? (i := 376) (by decide +kernel)) rfl, by decide, by decide +kernel, tw_mem (List.mem_of_getElem? (i := 15) (by decide +kernel)) rfl⟩
abbrev rmX0_fillLevels : Room := { frames := 2, cells := 0, slots := 0, locals := 51 }
def wX0_fillLevels : List Cond := [.fieldLink "ZoneCapacity$Auction" 12 "ZoneCapacity$Auction" "market" "LZoneCapacity$Market;", .fieldLink "ZoneCapacity$Auction" 60 "ZoneCapacity$Market" "zones" "LZoneCapacity$Zones;", .fieldLink "ZoneCapacity$Auction" 85 "ZoneCapacity$Market" "offers" "LZoneCapacity$Offers;", .fieldLink "ZoneCapacity$Auction" 64 "ZoneCapacity$Zones" "many" "I", .fieldLink "ZoneCapacity$Auction" 89 "ZoneCapacity$Offers" "many" "I", .fieldLink "ZoneCapacity$Auction" 118 "ZoneCapacity$Zones" "outer" "[I", .static yX6_at, .methodLink "ZoneCapacity$Auction" 121 yX5_cut, .instanceMethod yX5_cut, .selects "ZoneCapacity$Zones" yX5_cut yX5_cut, .static yX6_put, .fieldLink "ZoneCapacity$Auction" 113 "ZoneCapacity$Offers" "zones" "[I", .methodLink "ZoneCapacity$Auction" 115 yX0_unitsBelow, .instanceMethod yX0_unitsBelow, .selects "ZoneCapacity$Auction" yX0_unitsBelow yX0_unitsBelow, .methodLink "ZoneCapacity$Auction" 110 yX5_wantedFrom, .instanceMethod yX5_wantedFrom, .selects "ZoneCapacity$Zones" yX5_wantedFrom yX5_wantedFrom]
theorem iX0_fillLevels : ∀ w ∈ wX0_fillLevels, w ∈ TW := tw_of (ids := [160, 150, 153, 69, 106, 72, 272, 388, 389, 390, 291, 112, 384, 386, 4, 377, 378, 379]) (by decide +kernel)
def f0_fillLevels_j168 (k118 : Int32 → Nat → Nat → Int32 → Mem → Option Mem) (x1 : Int32) (x3 : Nat) (x4 : Nat) (x6 : Int32) (mm : Mem) : Option Mem := nm (x6 + (-1)) (fun v3 => k118 x1 x3 x4 v3 mm)
theorem f0_fillLevels_j168_ok {E : Ev} {l : Launch} {C : Cfg} {x : Mem} {k118 : Int32 → Nat → Nat → Int32 → Mem → Option Mem} (hj : Dj C) (X : Ec E l C rmX0_fillLevels) (B : Bx E RX0 tbX0_fillLevels 8 none) (hQ : Rt E) (hr : Rs E none x) (hk118 : ∀ (x1 : Int32) (x3 : Nat) (x4 : Nat) (x6 : Int32) (mm : Mem), Ob x3 8 → Ob x4 5 → k118 x1 x3 x4 x6 mm = some x → G E 8 118 [(1, .int x1), (3, .ref x3), (4, .ref x4), (6, .int x6)] [] mm) (x1 : Int32) (x3 : Nat) (x4 : Nat) (x6 : Int32) (mm : Mem) (o_x3 : Ob x3 8) (o_x4 : Ob x4 5) (hf : f0_fillLevels_j168 k118 x1 x3 x4 x6 mm = some x) : G E 8 168 [(1, .int x1), (3, .ref x3), (4, .ref x4), (6, .int x6)] [] mm := by
  unfold f0_fillLevels_j168 at hf
  obtain ⟨v3, ex, hf⟩ := nm_x hf
  refine z_iinc v3 [(6, .int v3), (1, .int x1), (3, .ref x3), (4, .ref x4)] B 80 rfl 3 rfl (ex.symm) (by decide) rfl ?_
  refine z_goto B 81 rfl 118 (by decide) ?_
  refine z_sub [(1, .int x1), (3, .ref x3), (4, .ref x4), (6, .int v3)] [1, 2, 3, 0] rfl ?_
  exact hk118 _ _ _ _ _ o_x3 o_x4  hf
def f0_fillLevels_l118 : Nat → Int32 → Nat → Nat → Int32 → Mem → Option Mem
  | 0, _, _, _, _, _ => none
  | n + 1, x1, x3, x4, x6, mm => if x1 < x6 then bd (f6_at mm (x4 + 1) x6) (fun r2 => if r2 < x1 then f0_fillLevels_j168 (fun x1 x3 x4 x6 mm => f0_fillLevels_l118 n x1 x3 x4 x6 mm) x1 x3 x4 x6 mm else bd (f6_at mm x3 r2) (fun r4 => bd (f6_at mm x3 x6) (fun r5 => bd (f5_cut mm x4 x6 r5) (fun r6 => bd (f6_put mm x3 r2 (r4 + r6)) (fun r7 => f0_fillLevels_j168 (fun x1 x3 x4 x6 mm => f0_fillLevels_l118 n x1 x3 x4 x6 mm) x1 x3 x4 x6 r7))))) else some mm
theorem f0_fillLevels_l118_ok {E : Ev} {l : Launch} {C : Cfg} {x : Mem} (hj : Dj C) (X : Ec E l C rmX0_fillLevels) (B : Bx E RX0 tbX0_fillLevels 8 none) (hQ : Rt E) (hr : Rs E none x) (n : Nat) : ∀ (x1 : Int32) (x3 : Nat) (x4 : Nat) (x6 : Int32) (mm : Mem), Ob x3 8 → Ob x4 5 → f0_fillLevels_l118 n x1 x3 x4 x6 mm = some x → G E 8 118 [(1, .int x1), (3, .ref x3), (4, .ref x4), (6, .int x6)] [] mm := by
  induction n with
  | zero =>
    intro x1 x3 x4 x6 mm o_x3 o_x4 hf
    rw [f0_fillLevels_l118] at hf
    cases hf
  | succ n ih =>
    intro x1 x3 x4 x6 mm o_x3 o_x4 hf
    rw [f0_fillLevels_l118] at hf
    refine z_iload B 56 rfl 3 rfl ?_
    refine z_iload_n B 57 rfl 1 0 rfl rfl ?_
    by_cases hc : x1 < x6
    · replace hf := (if_pos hc).symm.trans hf
      refine z_icmp_le_f B 58 rfl 174 (by decide) hc ?_
      refine z_aload B 59 rfl 2 rfl ?_
      refine z_getr 5 1 x4 B 60 rfl o_x4 rfl (iX0_fillLevels _ (List.mem_of_getElem? (i := 5) rfl)) rfl ?_
      refine z_iload B 61 rfl 3 rfl ?_
      obtain ⟨r2, ec, hf⟩ := bd_e hf
      refine z_callN [.ref (x4 + 1), .int x6] [] [.int r2] X B 62 rfl miX6_at ⟨List.mem_of_getElem? (i := 13) rfl, (iX0_fillLevels _ (List.mem_of_getElem? (i := 6) rfl))⟩ (ctX6_at hj (obf_5_1 o_x4) ec) ⟨Nat.le_of_ble_eq_true rfl, Nat.le_of_ble_eq_true rfl⟩ rfl rfl (Nat.le_of_ble_eq_true rfl) rfl ?_
      refine z_istore [(7, .int r2), (1, .int x1), (3, .ref x3), (4, .ref x4), (6, .int x6)] B 63 rfl (by decide) rfl ?_
      refine z_iload B 64 rfl 0 rfl ?_
      refine z_iload_n B 65 rfl 1 1 rfl rfl ?_
      by_cases hc : r2 < x1
      · replace hf := (if_pos hc).symm.trans hf
        refine z_icmp_lt_t B 66 rfl 168 (by decide) hc ?_
        refine z_sub [(1, .int x1), (3, .ref x3), (4, .ref x4), (6, .int x6)] [1, 2, 3, 4] rfl ?_
        exact f0_fillLevels_j168_ok hj X B hQ hr ih _ _ _ _ _ o_x3 o_x4  hf
      · replace hf := (if_neg hc).symm.trans hf
        refine z_icmp_lt_f B 66 rfl 168 (by decide) hc ?_
        refine z_aload_n B 67 rfl 3 2 rfl rfl ?_
        refine z_iload B 68 rfl 0 rfl ?_
        refine z_aload_n B 69 rfl 3 2 rfl rfl ?_
        refine z_iload B 70 rfl 0 rfl ?_
        obtain ⟨r4, ec, hf⟩ := bd_e hf
        refine z_callN [.ref x3, .int r2] [.int r2, .ref x3] [.int r4, .int r2, .ref x3] X B 71 rfl miX6_at ⟨List.mem_of_getElem? (i := 13) rfl, (iX0_fillLevels _ (List.mem_of_getElem? (i := 6) rfl))⟩ (ctX6_at hj o_x3 ec) ⟨Nat.le_of_ble_eq_true rfl, Nat.le_of_ble_eq_true rfl⟩ rfl rfl (Nat.le_of_ble_eq_true rfl) rfl ?_
        refine z_aload B 72 rfl 3 rfl ?_
        refine z_iload B 73 rfl 4 rfl ?_
        refine z_aload_n B 74 rfl 3 2 rfl rfl ?_
        refine z_iload B 75 rfl 4 rfl ?_
        obtain ⟨r5, ec, hf⟩ := bd_e hf
        refine z_callN [.ref x3, .int x6] [.int x6, .ref x4, .int r4, .int r2, .ref x3] [.int r5, .int x6, .ref x4, .int r4, .int r2, .ref x3] X B 76 rfl miX6_at ⟨List.mem_of_getElem? (i := 13) rfl, (iX0_fillLevels _ (List.mem_of_getElem? (i := 6) rfl))⟩ (ctX6_at hj o_x3 ec) ⟨Nat.le_of_ble_eq_true rfl, Nat.le_of_ble_eq_true rfl⟩ rfl rfl (Nat.le_of_ble_eq_true rfl) rfl ?_
        obtain ⟨r6, ec, hf⟩ := bd_e hf
        refine z_callV x4 5 [.int x6, .int r5] [.int r4, .int r2, .ref x3] [.int r6, .int r4, .int r2, .ref x3] X B 77 rfl (by decide) o_x4 rfl rfl miX5_cut ⟨(iX0_fillLevels _ (List.mem_of_getElem? (i := 7) rfl)), (iX0_fillLevels _ (List.mem_of_getElem? (i := 8) rfl)), (iX0_fillLevels _ (List.mem_of_getElem? (i := 9) rfl))⟩ (ctX5_cut hj o_x4 ec) ⟨Nat.le_of_ble_eq_true rfl, Nat.le_of_ble_eq_true rfl⟩ rfl rfl (Nat.le_of_ble_eq_true rfl) rfl ?_
        refine z_iadd B 78 rfl ?_
        obtain ⟨r7, ec, hf⟩ := bd_e hf
        refine z_callN [.ref x3, .int r2, .int (r4 + r6)] [] [] X B 79 rfl miX6_put ⟨List.mem_of_getElem? (i := 12) rfl, (iX0_fillLevels _ (List.mem_of_getElem? (i := 10) rfl))⟩ (ctX6_put hj o_x3 ec) ⟨Nat.le_of_ble_eq_true rfl, Nat.le_of_ble_eq_true rfl⟩ rfl rfl (Nat.le_of_ble_eq_true rfl) rfl ?_
        refine z_sub [(1, .int x1), (3, .ref x3), (4, .ref x4), (6, .int x6)] [1, 2, 3, 4] rfl ?_
        exact f0_fillLevels_j168_ok hj X B hQ hr ih _ _ _ _ _ o_x3 o_x4  hf
    · replace hf := (if_neg hc).symm.trans hf
      refine z_icmp_le_t B 58 rfl 174 (by decide) hc ?_
      cases hf
      exact z_vret B 82 rfl hQ hr
def f0_fillLevels_j103 (k55 : Nat → Int32 → Int32 → Nat → Nat → Nat → Int32 → Mem → Option Mem) (x0 : Nat) (x1 : Int32) (x2 : Int32) (x3 : Nat) (x4 : Nat) (x5 : Nat) (x6 : Int32) (mm : Mem) : Option Mem := nm (x6 + 1) (fun v9 => k55 x0 x1 x2 x3 x4 x5 v9 mm)
theorem f0_fillLevels_j103_ok {E : Ev} {l : Launch} {C : Cfg} {x : Mem} {k55 : Nat → Int32 → Int32 → Nat → Nat → Nat → Int32 → Mem → Option Mem} (hj : Dj C) (X : Ec E l C rmX0_fillLevels) (B : Bx E RX0 tbX0_fillLevels 8 none) (hQ : Rt E) (hr : Rs E none x) (hk55 : ∀ (x0 : Nat) (x1 : Int32) (x2 : Int32) (x3 : Nat) (x4 : Nat) (x5 : Nat) (x6 : Int32) (mm : Mem), Ob x0 0 → Ob x3 8 → Ob x4 5 → Ob x5 2 → k55 x0 x1 x2 x3 x4 x5 x6 mm = some x → G E 8 55 [(0, .ref x0), (1, .int x1), (2, .int x2), (3, .ref x3), (4, .ref x4), (5, .ref x5), (6, .int x6)] [] mm) (x0 : Nat) (x1 : Int32) (x2 : Int32) (x3 : Nat) (x4 : Nat) (x5 : Nat) (x6 : Int32) (mm : Mem) (o_x0 : Ob x0 0) (o_x3 : Ob x3 8) (o_x4 : Ob x4 5) (o_x5 : Ob x5 2) (hf : f0_fillLevels_j103 k55 x0 x1 x2 x3 x4 x5 x6 mm = some x) : G E 8 103 [(0, .ref x0), (1, .int x1), (2, .int x2), (3, .ref x3), (4, .ref x4), (5, .ref x5), (6, .int x6)] [] mm := by
  unfold f0_fillLevels_j103 at hf
  obtain ⟨v9, ex, hf⟩ := nm_x hf
  refine z_iinc v9 [(6, .int v9), (0, .ref x0), (1, .int x1), (2, .int x2), (3, .ref x3), (4, .ref x4), (5, .ref x5)] B 49 rfl 6 rfl (ex.symm) (by decide) rfl ?_
  refine z_goto B 50 rfl 55 (by decide) ?_
  refine z_sub [(0, .ref x0), (1, .int x1), (2, .int x2), (3, .ref x3), (4, .ref x4), (5, .ref x5), (6, .int v9)] [1, 2, 3, 4, 5, 6, 0] rfl ?_
  exact hk55 _ _ _ _ _ _ _ _ o_x0 o_x3 o_x4 o_x5  hf
def f0_fillLevels_l55 : Nat → Nat → Int32 → Int32 → Nat → Nat → Nat → Int32 → Mem → Option Mem
  | 0, _, _, _, _, _, _, _, _ => none
  | n + 1, x0, x1, x2, x3, x4, x5, x6, mm => if x6 < (mm x5 0) then bd (f6_at mm (x5 + 2) x6) (fun r8 => if r8 < x1 then f0_fillLevels_j103 (fun x0 x1 x2 x3 x4 x5 x6 mm => f0_fillLevels_l55 n x0 x1 x2 x3 x4 x5 x6 mm) x0 x1 x2 x3 x4 x5 x6 mm else bd (f6_at mm x3 r8) (fun r10 => bd (f0_unitsBelow mm x0 x6 x2) (fun r11 => bd (f6_put mm x3 r8 (r10 + r11)) (fun r12 => f0_fillLevels_j103 (fun x0 x1 x2 x3 x4 x5 x6 mm => f0_fillLevels_l55 n x0 x1 x2 x3 x4 x5 x6 mm) x0 x1 x2 x3 x4 x5 x6 r12)))) else nm ((mm x4 0) - (1 : Int32)) (fun v1 => f0_fillLevels_l118 FU x1 x3 x4 v1 mm)
theorem f0_fillLevels_l55_ok {E : Ev} {l : Launch} {C : Cfg} {x : Mem} (hj : Dj C) (X : Ec E l C rmX0_fillLevels) (B : Bx E RX0 tbX0_fillLevels 8 none) (hQ : Rt E) (hr : Rs E none x) (n : Nat) : ∀ (x0 : Nat) (x1 : Int32) (x2 : Int32) (x3 : Nat) (x4 : Nat) (x5 : Nat) (x6 : Int32) (mm : Mem), Ob x0 0 → Ob x3 8 → Ob x4 5 → Ob x5 2 → f0_fillLevels_l55 n x0 x1 x2 x3 x4 x5 x6 mm = some x → G E 8 55 [(0, .ref x0), (1, .int x1), (2, .int x2), (3, .ref x3), (4, .ref x4), (5, .ref x5), (6, .int x6)] [] mm := by
  induction n with
  | zero =>
    intro x0 x1 x2 x3 x4 x5 x6 mm o_x0 o_x3 o_x4 o_x5 hf
    rw [f0_fillLevels_l55] at hf
    cases hf
  | succ n ih =>
    intro x0 x1 x2 x3 x4 x5 x6 mm o_x0 o_x3 o_x4 o_x5 hf
    rw [f0_fillLevels_l55] at hf
    refine z_iload B 26 rfl 6 rfl ?_
    refine z_aload B 27 rfl 5 rfl ?_
    refine z_geti 2 0 x5 B 28 rfl o_x5 rfl (iX0_fillLevels _ (List.mem_of_getElem? (i := 4) rfl)) rfl ?_
    by_cases hc : x6 < (mm x5 0)
    · replace hf := (if_pos hc).symm.trans hf
      refine z_icmp_ge_f B 29 rfl 109 (by decide) hc ?_
      refine z_aload B 30 rfl 5 rfl ?_
      refine z_getr 2 3 x5 B 31 rfl o_x5 rfl (iX0_fillLevels _ (List.mem_of_getElem? (i := 11) rfl)) rfl ?_
      refine z_iload B 32 rfl 6 rfl ?_
      obtain ⟨r8, ec, hf⟩ := bd_e hf
      refine z_callN [.ref (x5 + 2), .int x6] [] [.int r8] X B 33 rfl miX6_at ⟨List.mem_of_getElem? (i := 13) rfl, (iX0_fillLevels _ (List.mem_of_getElem? (i := 6) rfl))⟩ (ctX6_at hj (obf_2_3 o_x5) ec) ⟨Nat.le_of_ble_eq_true rfl, Nat.le_of_ble_eq_true rfl⟩ rfl rfl (Nat.le_of_ble_eq_true rfl) rfl ?_
      refine z_istore [(7, .int r8), (0, .ref x0), (1, .int x1), (2, .int x2), (3, .ref x3), (4, .ref x4), (5, .ref x5), (6, .int x6)] B 34 rfl (by decide) rfl ?_
      refine z_iload B 35 rfl 0 rfl ?_
      refine z_iload_n B 36 rfl 1 2 rfl rfl ?_
      by_cases hc : r8 < x1
      · replace hf := (if_pos hc).symm.trans hf
        refine z_icmp_lt_t B 37 rfl 103 (by decide) hc ?_
        refine z_sub [(0, .ref x0), (1, .int x1), (2, .int x2), (3, .ref x3), (4, .ref x4), (5, .ref x5), (6, .int x6)] [1, 2, 3, 4, 5, 6, 7] rfl ?_
        exact f0_fillLevels_j103_ok hj X B hQ hr ih _ _ _ _ _ _ _ _ o_x0 o_x3 o_x4 o_x5  hf
      · replace hf := (if_neg hc).symm.trans hf
        refine z_icmp_lt_f B 37 rfl 103 (by decide) hc ?_
        refine z_aload_n B 38 rfl 3 4 rfl rfl ?_
        refine z_iload B 39 rfl 0 rfl ?_
        refine z_aload_n B 40 rfl 3 4 rfl rfl ?_
        refine z_iload B 41 rfl 0 rfl ?_
        obtain ⟨r10, ec, hf⟩ := bd_e hf
        refine z_callN [.ref x3, .int r8] [.int r8, .ref x3] [.int r10, .int r8, .ref x3] X B 42 rfl miX6_at ⟨List.mem_of_getElem? (i := 13) rfl, (iX0_fillLevels _ (List.mem_of_getElem? (i := 6) rfl))⟩ (ctX6_at hj o_x3 ec) ⟨Nat.le_of_ble_eq_true rfl, Nat.le_of_ble_eq_true rfl⟩ rfl rfl (Nat.le_of_ble_eq_true rfl) rfl ?_
        refine z_aload_n B 43 rfl 0 1 rfl rfl ?_
        refine z_iload B 44 rfl 7 rfl ?_
        refine z_iload_n B 45 rfl 2 3 rfl rfl ?_
        obtain ⟨r11, ec, hf⟩ := bd_e hf
        refine z_callV x0 0 [.int x6, .int x2] [.int r10, .int r8, .ref x3] [.int r11, .int r10, .int r8, .ref x3] X B 46 rfl (by decide) o_x0 rfl rfl miX0_unitsBelow ⟨(iX0_fillLevels _ (List.mem_of_getElem? (i := 12) rfl)), (iX0_fillLevels _ (List.mem_of_getElem? (i := 13) rfl)), (iX0_fillLevels _ (List.mem_of_getElem? (i := 14) rfl))⟩ (ctX0_unitsBelow hj o_x0 ec) ⟨Nat.le_of_ble_eq_true rfl, Nat.le_of_ble_eq_true rfl⟩ rfl rfl (Nat.le_of_ble_eq_true rfl) rfl ?_
        refine z_iadd B 47 rfl ?_
        obtain ⟨r12, ec, hf⟩ := bd_e hf
        refine z_callN [.ref x3, .int r8, .int (r10 + r11)] [] [] X B 48 rfl miX6_put ⟨List.mem_of_getElem? (i := 12) rfl, (iX0_fillLevels _ (List.mem_of_getElem? (i := 10) rfl))⟩ (ctX6_put hj o_x3 ec) ⟨Nat.le_of_ble_eq_true rfl, Nat.le_of_ble_eq_true rfl⟩ rfl rfl (Nat.le_of_ble_eq_true rfl) rfl ?_
        refine z_sub [(0, .ref x0), (1, .int x1), (2, .int x2), (3, .ref x3), (4, .ref x4), (5, .ref x5), (6, .int x6)] [1, 2, 3, 4, 5, 6, 7] rfl ?_
        exact f0_fillLevels_j103_ok hj X B hQ hr ih _ _ _ _ _ _ _ _ o_x0 o_x3 o_x4 o_x5  hf
    · replace hf := (if_neg hc).symm.trans hf
      refine z_icmp_ge_t B 29 rfl 109 (by decide) hc ?_
      refine z_aload B 51 rfl 4 rfl ?_
      refine z_geti 5 0 x4 B 52 rfl o_x4 rfl (iX0_fillLevels _ (List.mem_of_getElem? (i := 3) rfl)) rfl ?_
      refine z_iconst 1 B 53 rfl (by decide) ?_
      refine z_isub B 54 rfl ?_
      obtain ⟨v1, ex, hf⟩ := nm_x hf
      refine z_top ex ?_
      refine z_istore [(6, .int v1), (0, .ref x0), (1, .int x1), (2, .int x2), (3, .ref x3), (4, .ref x4), (5, .ref x5)] B 55 rfl (by decide) rfl ?_
      refine z_sub [(1, .int x1), (3, .ref x3), (4, .ref x4), (6, .int v1)] [2, 4, 5, 0] rfl ?_
      exact f0_fillLevels_l118_ok hj X B hQ hr FU _ _ _ _ _ o_x3 o_x4  hf
def f0_fillLevels_l21 : Nat → Nat → Int32 → Int32 → Nat → Nat → Nat → Int32 → Mem → Option Mem
  | 0, _, _, _, _, _, _, _, _ => none
  | n + 1, x0, x1, x2, x3, x4, x5, x6, mm => if x6 < (mm x4 0) then bd (f5_wantedFrom mm x4 x6 x2) (fun r13 => bd (f6_put mm x3 x6 (-r13)) (fun r14 => nm (x6 + 1) (fun v15 => f0_fillLevels_l21 n x0 x1 x2 x3 x4 x5 v15 r14))) else f0_fillLevels_l55 FU x0 x1 x2 x3 x4 x5 (0 : Int32) mm
theorem f0_fillLevels_l21_ok {E : Ev} {l : Launch} {C : Cfg} {x : Mem} (hj : Dj C) (X : Ec E l C rmX0_fillLevels) (B : Bx E RX0 tbX0_fillLevels 8 none) (hQ : Rt E) (hr : Rs E none x) (n : Nat) : ∀ (x0 : Nat) (x1 : Int32) (x2 : Int32) (x3 : Nat) (x4 : Nat) (x5 : Nat) (x6 : Int32) (mm : Mem), Ob x0 0 → Ob x3 8 → Ob x4 5 → Ob x5 2 → f0_fillLevels_l21 n x0 x1 x2 x3 x4 x5 x6 mm = some x → G E 8 21 [(0, .ref x0), (1, .int x1), (2, .int x2), (3, .ref x3), (4, .ref x4), (5, .ref x5), (6, .int x6)] [] mm := by
  induction n with
  | zero =>
    intro x0 x1 x2 x3 x4 x5 x6 mm o_x0 o_x3 o_x4 o_x5 hf
    rw [f0_fillLevels_l21] at hf
    cases hf
  | succ n ih =>
    intro x0 x1 x2 x3 x4 x5 x6 mm o_x0 o_x3 o_x4 o_x5 hf
    rw [f0_fillLevels_l21] at hf
    refine z_iload B 10 rfl 6 rfl ?_
    refine z_aload B 11 rfl 4 rfl ?_
    refine z_geti 5 0 x4 B 12 rfl o_x4 rfl (iX0_fillLevels _ (List.mem_of_getElem? (i := 3) rfl)) rfl ?_
    by_cases hc : x6 < (mm x4 0)
    · replace hf := (if_pos hc).symm.trans hf
      refine z_icmp_ge_f B 13 rfl 52 (by decide) hc ?_
      refine z_aload_n B 14 rfl 3 3 rfl rfl ?_
      refine z_iload B 15 rfl 6 rfl ?_
      refine z_aload B 16 rfl 4 rfl ?_
      refine z_iload B 17 rfl 6 rfl ?_
      refine z_iload_n B 18 rfl 2 2 rfl rfl ?_
      obtain ⟨r13, ec, hf⟩ := bd_e hf
      refine z_callV x4 5 [.int x6, .int x2] [.int x6, .ref x3] [.int r13, .int x6, .ref x3] X B 19 rfl (by decide) o_x4 rfl rfl miX5_wantedFrom ⟨(iX0_fillLevels _ (List.mem_of_getElem? (i := 15) rfl)), (iX0_fillLevels _ (List.mem_of_getElem? (i := 16) rfl)), (iX0_fillLevels _ (List.mem_of_getElem? (i := 17) rfl))⟩ (ctX5_wantedFrom hj o_x4 ec) ⟨Nat.le_of_ble_eq_true rfl, Nat.le_of_ble_eq_true rfl⟩ rfl rfl (Nat.le_of_ble_eq_true rfl) rfl ?_
      refine z_ineg B 20 rfl ?_
      obtain ⟨r14, ec, hf⟩ := bd_e hf
      refine z_callN [.ref x3, .int x6, .int (-r13)] [] [] X B 21 rfl miX6_put ⟨List.mem_of_getElem? (i := 12) rfl, (iX0_fillLevels _ (List.mem_of_getElem? (i := 10) rfl))⟩ (ctX6_put hj o_x3 ec) ⟨Nat.le_of_ble_eq_true rfl, Nat.le_of_ble_eq_true rfl⟩ rfl rfl (Nat.le_of_ble_eq_true rfl) rfl ?_
      obtain ⟨v15, ex, hf⟩ := nm_x hf
      refine z_iinc v15 [(6, .int v15), (0, .ref x0), (1, .int x1), (2, .int x2), (3, .ref x3), (4, .ref x4), (5, .ref x5)] B 22 rfl 6 rfl (ex.symm) (by decide) rfl ?_
      refine z_goto B 23 rfl 21 (by decide) ?_
      refine z_sub [(0, .ref x0), (1, .int x1), (2, .int x2), (3, .ref x3), (4, .ref x4), (5, .ref x5), (6, .int v15)] [1, 2, 3, 4, 5, 6, 0] rfl ?_
      exact ih _ _ _ _ _ _ _ _ o_x0 o_x3 o_x4 o_x5  hf
    · replace hf := (if_neg hc).symm.trans hf
      refine z_icmp_ge_t B 13 rfl 52 (by decide) hc ?_
      refine z_iconst 0 B 24 rfl (by decide) ?_
      refine z_istore [(6, .int (0 : Int32)), (0, .ref x0), (1, .int x1), (2, .int x2), (3, .ref x3), (4, .ref x4), (5, .ref x5)] B 25 rfl (by decide) rfl ?_
      refine z_sub [(0, .ref x0), (1, .int x1), (2, .int x2), (3, .ref x3), (4, .ref x4), (5, .ref x5), (6, .int (0 : Int32))] [1, 2, 3, 4, 5, 6, 0] rfl ?_
      exact f0_fillLevels_l55_ok hj X B hQ hr FU _ _ _ _ _ _ _ _ o_x0 o_x3 o_x4 o_x5  hf
def f0_fillLevels (mm : Mem) (a0 : Nat) (a1 : Int32) (a2 : Int32) (a3 : Nat) : Option Mem := f0_fillLevels_l21 FU a0 a1 a2 a3 (a0 + 1 + 1) (a0 + 1 + 8) a1 mm
theorem ctX0_fillLevels {l : Launch} {C : Cfg} (hj : Dj C) {mm : Mem} {a0 : Nat} {a1 : Int32} {a2 : Int32} {a3 : Nat} {x : Mem} (o_a0 : Ob a0 0) (o_a3 : Ob a3 8) (hf : f0_fillLevels mm a0 a1 a2 a3 = some x) : Ct l C yX0_fillLevels cX0_fillLevels 8 none 2 51 [.ref a0, .int a1, .int a2, .ref a3] mm none x := by
  refine Ct.of (tb := tbX0_fillLevels) hj miX0_fillLevels.2.1 miX0_fillLevels.1 dtX0_fillLevels (Nat.le_of_ble_eq_true rfl) ?_
  intro E B hQ hr X
  unfold f0_fillLevels at hf
  show G E 8 0 [(0, .ref a0), (1, .int a1), (2, .int a2), (3, .ref a3)] [] mm
  refine z_aload_n B 0 rfl 0 0 rfl rfl ?_
  refine z_getr 0 0 a0 B 1 rfl o_a0 rfl (iX0_fillLevels _ (List.mem_of_getElem? (i := 0) rfl)) rfl ?_
  refine z_getr 1 0 (a0 + 1) B 2 rfl (obf_0_0 o_a0) rfl (iX0_fillLevels _ (List.mem_of_getElem? (i := 1) rfl)) rfl ?_
  refine z_astore [(4, .ref (a0 + 1 + 1)), (0, .ref a0), (1, .int a1), (2, .int a2), (3, .ref a3)] B 3 rfl (by decide) rfl ?_
  refine z_aload_n B 4 rfl 0 1 rfl rfl ?_
  refine z_getr 0 0 a0 B 5 rfl o_a0 rfl (iX0_fillLevels _ (List.mem_of_getElem? (i := 0) rfl)) rfl ?_
  refine z_getr 1 1 (a0 + 1) B 6 rfl (obf_0_0 o_a0) rfl (iX0_fillLevels _ (List.mem_of_getElem? (i := 2) rfl)) rfl ?_
  refine z_astore [(5, .ref (a0 + 1 + 8)), (4, .ref (a0 + 1 + 1)), (0, .ref a0), (1, .int a1), (2, .int a2), (3, .ref a3)] B 7 rfl (by decide) rfl ?_
  refine z_iload_n B 8 rfl 1 3 rfl rfl ?_
  refine z_istore [(6, .int a1), (5, .ref (a0 + 1 + 8)), (4, .ref (a0 + 1 + 1)), (0, .ref a0), (1, .int a1), (2, .int a2), (3, .ref a3)] B 9 rfl (by decide) rfl ?_
  refine z_sub [(0, .ref a0), (1, .int a1), (2, .int a2), (3, .ref a3), (4, .ref (a0 + 1 + 1)), (5, .ref (a0 + 1 + 8)), (6, .int a1)] [3, 4, 5, 6, 2, 1, 0] rfl ?_
  exact f0_fillLevels_l21_ok hj X B hQ hr FU _ _ _ _ _ _ _ _ o_a0 o_a3 (obf_1_0 (obf_0_0 o_a0)) (obf_1_1 (obf_0_0 o_a0))  hf
/-! ZoneCapacity$Auction.leastPrice(II)I -/
def tbX0_leastPrice : Tb := [(0, .iconst 0, 1, 1), (1, .istore_n 3, 1, 2), (2, .sipush 8192, 3, 5), (5, .istore 4, 2, 7), (7, .iload 4, 2, 9), (9, .ifCond .le 53, 3, 12), (12, .iload_n 3, 1, 13), (13, .iload 4, 2, 15), (15, .iadd, 1, 16), (16, .aload_n 0, 1, 17), (17, .getfield 98, 3, 20), (20, .if_icmp .gt 33, 3, 23), (23, .aload_n 0, 1, 24), (24, .iload_n 1, 1, 25), (25, .iload_n 3, 1, 26), (26, .iload 4, 2, 28), (28, .iadd, 1, 29), (29, .aload_n 0, 1, 30), (30, .getfield 37, 3, 33), (33, .invokevirtual 81, 3, 36), (36, .aload_n 0, 1, 37), (37, .getfield 37, 3, 40), (40, .iload_n 1, 1, 41), (41, .invokestatic 69, 3, 44), (44, .iload_n 2, 1, 45), (45, .if_icmp .ge 8, 3, 48), (48, .iload_n 3, 1, 49), (49, .iload 4, 2, 51), (51, .iadd, 1, 52), (52, .istore_n 3, 1, 53), (53, .iload 4, 2, 55), (55, .iconst 1, 1, 56), (56, .ishr, 1, 57), (57, .istore 4, 2, 59), (59, .goto (-52), 3, 62), (62, .iload_n 3, 1, 63), (63, .ireturn, 1, 64)]
theorem dtX0_leastPrice : ∀ q ∈ tbX0_leastPrice, decode cX0_leastPrice q.1 = .ok (q.2.1, q.2.2.1) ∧ q.1 + q.2.2.1 = q.2.2.2 := by decide +kernel
theorem miX0_leastPrice : MI yX0_leastPrice cX0_leastPrice 5 (some .int) 2 := ⟨tw_mem (List.mem_of_getElem? (i := 372) (by decide +kernel)) rfl, by decide, by decide +kernel, tw_mem (List.mem_of_getElem? (i := 15) (by decide +kernel)) rfl⟩
abbrev rmX0_leastPrice : Room := { frames := 3, cells := 0, slots := 0, locals := 78 }
def wX0_leastPrice : List Cond := [.fieldLink "ZoneCapacity$Auction" 98 "ZoneCapacity$Auction" "top" "I", .fieldLink "ZoneCapacity$Auction" 37 "ZoneCapacity$Auction" "levels" "[I", .methodLink "ZoneCapacity$Auction" 81 yX0_fillLevels, .instanceMethod yX0_fillLevels, .selects "ZoneCapacity$Auction" yX0_fillLevels yX0_fillLevels, .static yX6_at]
theorem iX0_leastPrice : ∀ w ∈ wX0_leastPrice, w ∈ TW := tw_of (ids := [176, 172, 373, 375, 3, 272]) (by decide +kernel)
def f0_leastPrice_j53 (k7 : Nat → Int32 → Int32 → Int32 → Int32 → Mem → Option (Int32 × Mem)) (x0 : Nat) (x1 : Int32) (x2 : Int32) (x3 : Int32) (x4 : Int32) (mm : Mem) : Option (Int32 × Mem) := nm (x4 >>> ((1 : Int32) &&& 31)) (fun v1 => k7 x0 x1 x2 x3 v1 mm)
theorem f0_leastPrice_j53_ok {E : Ev} {l : Launch} {C : Cfg} {x : (Int32 × Mem)} {k7 : Nat → Int32 → Int32 → Int32 → Int32 → Mem → Option (Int32 × Mem)} (hj : Dj C) (X : Ec E l C rmX0_leastPrice) (B : Bx E RX0 tbX0_leastPrice 5 (some .int)) (hQ : Rt E) (hr : Rs E (some (.int x.1)) x.2) (hk7 : ∀ (x0 : Nat) (x1 : Int32) (x2 : Int32) (x3 : Int32) (x4 : Int32) (mm : Mem), Ob x0 0 → k7 x0 x1 x2 x3 x4 mm = some x → G E 5 7 [(0, .ref x0), (1, .int x1), (2, .int x2), (3, .int x3), (4, .int x4)] [] mm) (x0 : Nat) (x1 : Int32) (x2 : Int32) (x3 : Int32) (x4 : Int32) (mm : Mem) (o_x0 : Ob x0 0) (hf : f0_leastPrice_j53 k7 x0 x1 x2 x3 x4 mm = some x) : G E 5 53 [(0, .ref x0), (1, .int x1), (2, .int x2), (3, .int x3), (4, .int x4)] [] mm := by
  unfold f0_leastPrice_j53 at hf
  refine z_iload B 30 rfl 4 rfl ?_
  refine z_iconst 1 B 31 rfl (by decide) ?_
  refine z_ishr B 32 rfl ?_
  obtain ⟨v1, ex, hf⟩ := nm_x hf
  refine z_top ex ?_
  refine z_istore [(4, .int v1), (0, .ref x0), (1, .int x1), (2, .int x2), (3, .int x3)] B 33 rfl (by decide) rfl ?_
  refine z_goto B 34 rfl 7 (by decide) ?_
  refine z_sub [(0, .ref x0), (1, .int x1), (2, .int x2), (3, .int x3), (4, .int v1)] [1, 2, 3, 4, 0] rfl ?_
  exact hk7 _ _ _ _ _ _ o_x0  hf
def f0_leastPrice_l7 : Nat → Nat → Int32 → Int32 → Int32 → Int32 → Mem → Option (Int32 × Mem)
  | 0, _, _, _, _, _, _ => none
  | n + 1, x0, x1, x2, x3, x4, mm => if 0 < x4 then if (mm x0 11) < (x3 + x4) then f0_leastPrice_j53 (fun x0 x1 x2 x3 x4 mm => f0_leastPrice_l7 n x0 x1 x2 x3 x4 mm) x0 x1 x2 x3 x4 mm else bd (f0_fillLevels mm x0 x1 (x3 + x4) (x0 + 26)) (fun r2 => bd (f6_at r2 (x0 + 26) x1) (fun r3 => if r3 < x2 then nm (x3 + x4) (fun v4 => f0_leastPrice_j53 (fun x0 x1 x2 x3 x4 mm => f0_leastPrice_l7 n x0 x1 x2 x3 x4 mm) x0 x1 x2 v4 x4 r2) else f0_leastPrice_j53 (fun x0 x1 x2 x3 x4 mm => f0_leastPrice_l7 n x0 x1 x2 x3 x4 mm) x0 x1 x2 x3 x4 r2)) else some (x3, mm)
theorem f0_leastPrice_l7_ok {E : Ev} {l : Launch} {C : Cfg} {x : (Int32 × Mem)} (hj : Dj C) (X : Ec E l C rmX0_leastPrice) (B : Bx E RX0 tbX0_leastPrice 5 (some .int)) (hQ : Rt E) (hr : Rs E (some (.int x.1)) x.2) (n : Nat) : ∀ (x0 : Nat) (x1 : Int32) (x2 : Int32) (x3 : Int32) (x4 : Int32) (mm : Mem), Ob x0 0 → f0_leastPrice_l7 n x0 x1 x2 x3 x4 mm = some x → G E 5 7 [(0, .ref x0), (1, .int x1), (2, .int x2), (3, .int x3), (4, .int x4)] [] mm := by
  induction n with
  | zero =>
    intro x0 x1 x2 x3 x4 mm o_x0 hf
    rw [f0_leastPrice_l7] at hf
    cases hf
  | succ n ih =>
    intro x0 x1 x2 x3 x4 mm o_x0 hf
    rw [f0_leastPrice_l7] at hf
    refine z_iload B 4 rfl 4 rfl ?_
    by_cases hc : 0 < x4
    · replace hf := (if_pos hc).symm.trans hf
      refine z_if_le_f B 5 rfl 62 (by decide) hc ?_
      refine z_iload_n B 6 rfl 3 3 rfl rfl ?_
      refine z_iload B 7 rfl 4 rfl ?_
      refine z_iadd B 8 rfl ?_
      refine z_aload_n B 9 rfl 0 0 rfl rfl ?_
      refine z_geti 0 11 x0 B 10 rfl o_x0 rfl (iX0_leastPrice _ (List.mem_of_getElem? (i := 0) rfl)) rfl ?_
      by_cases hc : (mm x0 11) < (x3 + x4)
      · replace hf := (if_pos hc).symm.trans hf
        refine z_icmp_gt_t B 11 rfl 53 (by decide) hc ?_
        exact f0_leastPrice_j53_ok hj X B hQ hr ih _ _ _ _ _ _ o_x0  hf
      · replace hf := (if_neg hc).symm.trans hf
        refine z_icmp_gt_f B 11 rfl 53 (by decide) hc ?_
        refine z_aload_n B 12 rfl 0 0 rfl rfl ?_
        refine z_iload_n B 13 rfl 1 1 rfl rfl ?_
        refine z_iload_n B 14 rfl 3 3 rfl rfl ?_
        refine z_iload B 15 rfl 4 rfl ?_
        refine z_iadd B 16 rfl ?_
        refine z_aload_n B 17 rfl 0 0 rfl rfl ?_
        refine z_getr 0 7 x0 B 18 rfl o_x0 rfl (iX0_leastPrice _ (List.mem_of_getElem? (i := 1) rfl)) rfl ?_
        obtain ⟨r2, ec, hf⟩ := bd_e hf
        refine z_callV x0 0 [.int x1, .int (x3 + x4), .ref (x0 + 26)] [] [] X B 19 rfl (by decide) o_x0 rfl rfl miX0_fillLevels ⟨(iX0_leastPrice _ (List.mem_of_getElem? (i := 2) rfl)), (iX0_leastPrice _ (List.mem_of_getElem? (i := 3) rfl)), (iX0_leastPrice _ (List.mem_of_getElem? (i := 4) rfl))⟩ (ctX0_fillLevels hj o_x0 (obf_0_7 o_x0) ec) ⟨Nat.le_of_ble_eq_true rfl, Nat.le_of_ble_eq_true rfl⟩ rfl rfl (Nat.le_of_ble_eq_true rfl) rfl ?_
        refine z_aload_n B 20 rfl 0 0 rfl rfl ?_
        refine z_getr 0 7 x0 B 21 rfl o_x0 rfl (iX0_leastPrice _ (List.mem_of_getElem? (i := 1) rfl)) rfl ?_
        refine z_iload_n B 22 rfl 1 1 rfl rfl ?_
        obtain ⟨r3, ec, hf⟩ := bd_e hf
        refine z_callN [.ref (x0 + 26), .int x1] [] [.int r3] X B 23 rfl miX6_at ⟨List.mem_of_getElem? (i := 13) rfl, (iX0_leastPrice _ (List.mem_of_getElem? (i := 5) rfl))⟩ (ctX6_at hj (obf_0_7 o_x0) ec) ⟨Nat.le_of_ble_eq_true rfl, Nat.le_of_ble_eq_true rfl⟩ rfl rfl (Nat.le_of_ble_eq_true rfl) rfl ?_
        refine z_iload_n B 24 rfl 2 2 rfl rfl ?_
        by_cases hc : r3 < x2
        · replace hf := (if_pos hc).symm.trans hf
          refine z_icmp_ge_f B 25 rfl 53 (by decide) hc ?_
          refine z_iload_n B 26 rfl 3 3 rfl rfl ?_
          refine z_iload B 27 rfl 4 rfl ?_
          refine z_iadd B 28 rfl ?_
          obtain ⟨v4, ex, hf⟩ := nm_x hf
          refine z_top ex ?_
          refine z_istore_n [(3, .int v4), (0, .ref x0), (1, .int x1), (2, .int x2), (4, .int x4)] B 29 rfl 3 rfl (by decide) rfl ?_
          refine z_sub [(0, .ref x0), (1, .int x1), (2, .int x2), (3, .int v4), (4, .int x4)] [1, 2, 3, 0, 4] rfl ?_
          exact f0_leastPrice_j53_ok hj X B hQ hr ih _ _ _ _ _ _ o_x0  hf
        · replace hf := (if_neg hc).symm.trans hf
          refine z_icmp_ge_t B 25 rfl 53 (by decide) hc ?_
          exact f0_leastPrice_j53_ok hj X B hQ hr ih _ _ _ _ _ _ o_x0  hf
    · replace hf := (if_neg hc).symm.trans hf
      refine z_if_le_t B 5 rfl 62 (by decide) hc ?_
      refine z_iload_n B 35 rfl 3 3 rfl rfl ?_
      cases hf
      exact z_iret B 36 rfl rfl hQ hr
def f0_leastPrice (mm : Mem) (a0 : Nat) (a1 : Int32) (a2 : Int32) : Option (Int32 × Mem) := f0_leastPrice_l7 FU a0 a1 a2 (0 : Int32) (8192 : Int32) mm
theorem ctX0_leastPrice {l : Launch} {C : Cfg} (hj : Dj C) {mm : Mem} {a0 : Nat} {a1 : Int32} {a2 : Int32} {x : (Int32 × Mem)} (o_a0 : Ob a0 0) (hf : f0_leastPrice mm a0 a1 a2 = some x) : Ct l C yX0_leastPrice cX0_leastPrice 5 (some .int) 3 78 [.ref a0, .int a1, .int a2] mm (some (.int x.1)) x.2 := by
  refine Ct.of (tb := tbX0_leastPrice) hj miX0_leastPrice.2.1 miX0_leastPrice.1 dtX0_leastPrice (Nat.le_of_ble_eq_true rfl) ?_
  intro E B hQ hr X
  unfold f0_leastPrice at hf
  show G E 5 0 [(0, .ref a0), (1, .int a1), (2, .int a2)] [] mm
  refine z_iconst 0 B 0 rfl (by decide) ?_
  refine z_istore_n [(3, .int (0 : Int32)), (0, .ref a0), (1, .int a1), (2, .int a2)] B 1 rfl 3 rfl (by decide) rfl ?_
  refine z_sipush 8192 B 2 rfl (by decide) ?_
  refine z_istore [(4, .int (8192 : Int32)), (3, .int (0 : Int32)), (0, .ref a0), (1, .int a1), (2, .int a2)] B 3 rfl (by decide) rfl ?_
  refine z_sub [(0, .ref a0), (1, .int a1), (2, .int a2), (3, .int (0 : Int32)), (4, .int (8192 : Int32))] [2, 3, 4, 1, 0] rfl ?_
  exact f0_leastPrice_l7_ok hj X B hQ hr FU _ _ _ _ _ _ o_a0  hf
/-! ZoneCapacity$Auction.partToLines(III)I -/
def tbX0_partToLines : Tb := [(0, .aload_n 0, 1, 1), (1, .getfield 12, 3, 4), (4, .getfield 85, 3, 7), (7, .astore 4, 2, 9), (9, .iload_n 3, 1, 10), (10, .istore 5, 2, 12), (12, .iconst 0, 1, 13), (13, .istore 6, 2, 15), (15, .iload 6, 2, 17), (17, .aload 4, 2, 19), (19, .getfield 89, 3, 22), (22, .iconst 4, 1, 23), (23, .imul, 1, 24), (24, .if_icmp .ge 100, 3, 27), (27, .aload 4, 2, 29), (29, .getfield 113, 3, 32), (32, .iload 6, 2, 34), (34, .iconst 4, 1, 35), (35, .idiv, 1, 36), (36, .invokestatic 69, 3, 39), (39, .iload_n 1, 1, 40), (40, .if_icmp .ne 78, 3, 43), (43, .aload_n 0, 1, 44), (44, .getfield 34, 3, 47), (47, .iload 6, 2, 49), (49, .invokestatic 69, 3, 52), (52, .iload_n 2, 1, 53), (53, .if_icmp .ge 15, 3, 56), (56, .aload_n 0, 1, 57), (57, .getfield 31, 3, 60), (60, .iload 6, 2, 62), (62, .invokestatic 69, 3, 65), (65, .goto 4, 3, 68), (68, .iconst 0, 1, 69), (69, .istore 7, 2, 71), (71, .aload_n 0, 1, 72), (72, .getfield 34, 3, 75), (75, .iload 6, 2, 77), (77, .invokestatic 69, 3, 80), (80, .iload_n 2, 1, 81), (81, .if_icmp .ne 26, 3, 84), (84, .iload 5, 2, 86), (86, .aload_n 0, 1, 87), (87, .getfield 31, 3, 90), (90, .iload 6, 2, 92), (92, .invokestatic 69, 3, 95), (95, .invokestatic 131, 3, 98), (98, .istore 7, 2, 100), (100, .iload 5, 2, 102), (102, .iload 7, 2, 104), (104, .isub, 1, 105), (105, .istore 5, 2, 107), (107, .aload_n 0, 1, 108), (108, .getfield 28, 3, 111), (111, .iload 6, 2, 113), (113, .iload 7, 2, 115), (115, .invokestatic 56, 3, 118), (118, .iinc 6 1, 3, 121), (121, .goto (-106), 3, 124), (124, .iload 5, 2, 126), (126, .ireturn, 1, 127)]
theorem dtX0_partToLines : ∀ q ∈ tbX0_partToLines, decode cX0_partToLines q.1 = .ok (q.2.1, q.2.2.1) ∧ q.1 + q.2.2.1 = q.2.2.2 := by decide +kernel
theorem miX0_partToLines : MI yX0_partToLines cX0_partToLines 8 (some .int) 3 := ⟨tw_mem (List.mem_of_getElem? (i := 401) (by decide +kernel)) rfl, by decide, by decide +kernel, tw_mem (List.mem_of_getElem? (i := 15) (by decide +kernel)) rfl⟩
abbrev rmX0_partToLines : Room := { frames := 1, cells := 0, slots := 0, locals := 22 }
def wX0_partToLines : List Cond := [.fieldLink "ZoneCapacity$Auction" 12 "ZoneCapacity$Auction" "market" "LZoneCapacity$Market;", .fieldLink "ZoneCapacity$Auction" 85 "ZoneCapacity$Market" "offers" "LZoneCapacity$Offers;", .fieldLink "ZoneCapacity$Auction" 89 "ZoneCapacity$Offers" "many" "I", .fieldLink "ZoneCapacity$Auction" 113 "ZoneCapacity$Offers" "zones" "[I", .static yX6_at, .fieldLink "ZoneCapacity$Auction" 34 "ZoneCapacity$Auction" "its" "[I", .fieldLink "ZoneCapacity$Auction" 28 "ZoneCapacity$Auction" "takenUnits" "[I", .static yX6_put, .fieldLink "ZoneCapacity$Auction" 31 "ZoneCapacity$Auction" "units" "[I", .methodLink "ZoneCapacity$Auction" 131 ⟨"java/lang/Math", "min", "(II)I"⟩, .static ⟨"java/lang/Math", "min", "(II)I"⟩, .initialized "java/lang/Math", .code Lib.Math.min.name Lib.Math.min.code 2 (some .int)]
theorem iX0_partToLines : ∀ w ∈ wX0_partToLines, w ∈ TW := tw_of (ids := [160, 153, 106, 112, 272, 171, 168, 291, 170, 402, 357, 26, 358]) (by decide +kernel)
def f0_partToLines_j118 (k15 : Nat → Int32 → Int32 → Nat → Int32 → Int32 → Mem → Option (Int32 × Mem)) (x0 : Nat) (x1 : Int32) (x2 : Int32) (x4 : Nat) (x5 : Int32) (x6 : Int32) (mm : Mem) : Option (Int32 × Mem) := nm (x6 + 1) (fun v2 => k15 x0 x1 x2 x4 x5 v2 mm)
theorem f0_partToLines_j118_ok {E : Ev} {l : Launch} {C : Cfg} {x : (Int32 × Mem)} {k15 : Nat → Int32 → Int32 → Nat → Int32 → Int32 → Mem → Option (Int32 × Mem)} (hj : Dj C) (X : Ec E l C rmX0_partToLines) (B : Bx E RX0 tbX0_partToLines 8 (some .int)) (hQ : Rt E) (hr : Rs E (some (.int x.1)) x.2) (hk15 : ∀ (x0 : Nat) (x1 : Int32) (x2 : Int32) (x4 : Nat) (x5 : Int32) (x6 : Int32) (mm : Mem), Ob x0 0 → Ob x4 2 → k15 x0 x1 x2 x4 x5 x6 mm = some x → G E 8 15 [(0, .ref x0), (1, .int x1), (2, .int x2), (4, .ref x4), (5, .int x5), (6, .int x6)] [] mm) (x0 : Nat) (x1 : Int32) (x2 : Int32) (x4 : Nat) (x5 : Int32) (x6 : Int32) (mm : Mem) (o_x0 : Ob x0 0) (o_x4 : Ob x4 2) (hf : f0_partToLines_j118 k15 x0 x1 x2 x4 x5 x6 mm = some x) : G E 8 118 [(0, .ref x0), (1, .int x1), (2, .int x2), (4, .ref x4), (5, .int x5), (6, .int x6)] [] mm := by
  unfold f0_partToLines_j118 at hf
  obtain ⟨v2, ex, hf⟩ := nm_x hf
  refine z_iinc v2 [(6, .int v2), (0, .ref x0), (1, .int x1), (2, .int x2), (4, .ref x4), (5, .int x5)] B 57 rfl 5 rfl (ex.symm) (by decide) rfl ?_
  refine z_goto B 58 rfl 15 (by decide) ?_
  refine z_sub [(0, .ref x0), (1, .int x1), (2, .int x2), (4, .ref x4), (5, .int x5), (6, .int v2)] [1, 2, 3, 4, 5, 0] rfl ?_
  exact hk15 _ _ _ _ _ _ _ o_x0 o_x4  hf
def f0_partToLines_j107 (k15 : Nat → Int32 → Int32 → Nat → Int32 → Int32 → Mem → Option (Int32 × Mem)) (x0 : Nat) (x1 : Int32) (x2 : Int32) (x4 : Nat) (x5 : Int32) (x6 : Int32) (x7 : Int32) (mm : Mem) : Option (Int32 × Mem) := bd (f6_put mm (x0 + 23) x6 x7) (fun r5 => f0_partToLines_j118 k15 x0 x1 x2 x4 x5 x6 r5)
theorem f0_partToLines_j107_ok {E : Ev} {l : Launch} {C : Cfg} {x : (Int32 × Mem)} {k15 : Nat → Int32 → Int32 → Nat → Int32 → Int32 → Mem → Option (Int32 × Mem)} (hj : Dj C) (X : Ec E l C rmX0_partToLines) (B : Bx E RX0 tbX0_partToLines 8 (some .int)) (hQ : Rt E) (hr : Rs E (some (.int x.1)) x.2) (hk15 : ∀ (x0 : Nat) (x1 : Int32) (x2 : Int32) (x4 : Nat) (x5 : Int32) (x6 : Int32) (mm : Mem), Ob x0 0 → Ob x4 2 → k15 x0 x1 x2 x4 x5 x6 mm = some x → G E 8 15 [(0, .ref x0), (1, .int x1), (2, .int x2), (4, .ref x4), (5, .int x5), (6, .int x6)] [] mm) (x0 : Nat) (x1 : Int32) (x2 : Int32) (x4 : Nat) (x5 : Int32) (x6 : Int32) (x7 : Int32) (mm : Mem) (o_x0 : Ob x0 0) (o_x4 : Ob x4 2) (hf : f0_partToLines_j107 k15 x0 x1 x2 x4 x5 x6 x7 mm = some x) : G E 8 107 [(0, .ref x0), (1, .int x1), (2, .int x2), (4, .ref x4), (5, .int x5), (6, .int x6), (7, .int x7)] [] mm := by
  unfold f0_partToLines_j107 at hf
  refine z_aload_n B 52 rfl 0 0 rfl rfl ?_
  refine z_getr 0 4 x0 B 53 rfl o_x0 rfl (iX0_partToLines _ (List.mem_of_getElem? (i := 6) rfl)) rfl ?_
  refine z_iload B 54 rfl 5 rfl ?_
  refine z_iload B 55 rfl 6 rfl ?_
  obtain ⟨r5, ec, hf⟩ := bd_e hf
  refine z_callN [.ref (x0 + 23), .int x6, .int x7] [] [] X B 56 rfl miX6_put ⟨List.mem_of_getElem? (i := 12) rfl, (iX0_partToLines _ (List.mem_of_getElem? (i := 7) rfl))⟩ (ctX6_put hj (obf_0_4 o_x0) ec) ⟨Nat.le_of_ble_eq_true rfl, Nat.le_of_ble_eq_true rfl⟩ rfl rfl (Nat.le_of_ble_eq_true rfl) rfl ?_
  refine z_sub [(0, .ref x0), (1, .int x1), (2, .int x2), (4, .ref x4), (5, .int x5), (6, .int x6)] [0, 1, 2, 3, 4, 5] rfl ?_
  exact f0_partToLines_j118_ok hj X B hQ hr hk15 _ _ _ _ _ _ _ o_x0 o_x4  hf
def f0_partToLines_j69 (k15 : Nat → Int32 → Int32 → Nat → Int32 → Int32 → Mem → Option (Int32 × Mem)) (x0 : Nat) (x1 : Int32) (x2 : Int32) (x4 : Nat) (x5 : Int32) (x6 : Int32) (s0 : Int32) (mm : Mem) : Option (Int32 × Mem) := bd (f6_at mm (x0 + 25) x6) (fun r4 => if r4 = x2 then bd (f6_at mm (x0 + 24) x6) (fun r6 => nm (mni x5 r6) (fun v7 => nm (x5 - v7) (fun v8 => f0_partToLines_j107 k15 x0 x1 x2 x4 v8 x6 v7 mm))) else f0_partToLines_j107 k15 x0 x1 x2 x4 x5 x6 s0 mm)
theorem f0_partToLines_j69_ok {E : Ev} {l : Launch} {C : Cfg} {x : (Int32 × Mem)} {k15 : Nat → Int32 → Int32 → Nat → Int32 → Int32 → Mem → Option (Int32 × Mem)} (hj : Dj C) (X : Ec E l C rmX0_partToLines) (B : Bx E RX0 tbX0_partToLines 8 (some .int)) (hQ : Rt E) (hr : Rs E (some (.int x.1)) x.2) (hk15 : ∀ (x0 : Nat) (x1 : Int32) (x2 : Int32) (x4 : Nat) (x5 : Int32) (x6 : Int32) (mm : Mem), Ob x0 0 → Ob x4 2 → k15 x0 x1 x2 x4 x5 x6 mm = some x → G E 8 15 [(0, .ref x0), (1, .int x1), (2, .int x2), (4, .ref x4), (5, .int x5), (6, .int x6)] [] mm) (x0 : Nat) (x1 : Int32) (x2 : Int32) (x4 : Nat) (x5 : Int32) (x6 : Int32) (s0 : Int32) (mm : Mem) (o_x0 : Ob x0 0) (o_x4 : Ob x4 2) (hf : f0_partToLines_j69 k15 x0 x1 x2 x4 x5 x6 s0 mm = some x) : G E 8 69 [(0, .ref x0), (1, .int x1), (2, .int x2), (4, .ref x4), (5, .int x5), (6, .int x6)] [.int s0] mm := by
  unfold f0_partToLines_j69 at hf
  refine z_istore [(7, .int s0), (0, .ref x0), (1, .int x1), (2, .int x2), (4, .ref x4), (5, .int x5), (6, .int x6)] B 34 rfl (by decide) rfl ?_
  refine z_aload_n B 35 rfl 0 1 rfl rfl ?_
  refine z_getr 0 6 x0 B 36 rfl o_x0 rfl (iX0_partToLines _ (List.mem_of_getElem? (i := 5) rfl)) rfl ?_
  refine z_iload B 37 rfl 6 rfl ?_
  obtain ⟨r4, ec, hf⟩ := bd_e hf
  refine z_callN [.ref (x0 + 25), .int x6] [] [.int r4] X B 38 rfl miX6_at ⟨List.mem_of_getElem? (i := 13) rfl, (iX0_partToLines _ (List.mem_of_getElem? (i := 4) rfl))⟩ (ctX6_at hj (obf_0_6 o_x0) ec) ⟨Nat.le_of_ble_eq_true rfl, Nat.le_of_ble_eq_true rfl⟩ rfl rfl (Nat.le_of_ble_eq_true rfl) rfl ?_
  refine z_iload_n B 39 rfl 2 3 rfl rfl ?_
  by_cases hc : r4 = x2
  · replace hf := (if_pos hc).symm.trans hf
    refine z_icmp_ne_f B 40 rfl 107 (by decide) hc ?_
    refine z_iload B 41 rfl 5 rfl ?_
    refine z_aload_n B 42 rfl 0 1 rfl rfl ?_
    refine z_getr 0 5 x0 B 43 rfl o_x0 rfl (iX0_partToLines _ (List.mem_of_getElem? (i := 8) rfl)) rfl ?_
    refine z_iload B 44 rfl 6 rfl ?_
    obtain ⟨r6, ec, hf⟩ := bd_e hf
    refine z_callN [.ref (x0 + 24), .int x6] [.int x5] [.int r6, .int x5] X B 45 rfl miX6_at ⟨List.mem_of_getElem? (i := 13) rfl, (iX0_partToLines _ (List.mem_of_getElem? (i := 4) rfl))⟩ (ctX6_at hj (obf_0_5 o_x0) ec) ⟨Nat.le_of_ble_eq_true rfl, Nat.le_of_ble_eq_true rfl⟩ rfl rfl (Nat.le_of_ble_eq_true rfl) rfl ?_
    refine z_mmin X B 46 rfl ⟨(iX0_partToLines _ (List.mem_of_getElem? (i := 9) rfl)), (iX0_partToLines _ (List.mem_of_getElem? (i := 10) rfl)), (iX0_partToLines _ (List.mem_of_getElem? (i := 11) rfl)), (iX0_partToLines _ (List.mem_of_getElem? (i := 12) rfl))⟩ ⟨Nat.le_of_ble_eq_true rfl, Nat.le_of_ble_eq_true rfl⟩ (Nat.le_of_ble_eq_true rfl) ?_
    obtain ⟨v7, ex, hf⟩ := nm_x hf
    refine z_top ex ?_
    refine z_istore [(7, .int v7), (0, .ref x0), (1, .int x1), (2, .int x2), (4, .ref x4), (5, .int x5), (6, .int x6)] B 47 rfl (by decide) rfl ?_
    refine z_iload B 48 rfl 5 rfl ?_
    refine z_iload B 49 rfl 0 rfl ?_
    refine z_isub B 50 rfl ?_
    obtain ⟨v8, ex, hf⟩ := nm_x hf
    refine z_top ex ?_
    refine z_istore [(5, .int v8), (7, .int v7), (0, .ref x0), (1, .int x1), (2, .int x2), (4, .ref x4), (6, .int x6)] B 51 rfl (by decide) rfl ?_
    refine z_sub [(0, .ref x0), (1, .int x1), (2, .int x2), (4, .ref x4), (5, .int v8), (6, .int x6), (7, .int v7)] [2, 3, 4, 5, 0, 6, 1] rfl ?_
    exact f0_partToLines_j107_ok hj X B hQ hr hk15 _ _ _ _ _ _ _ _ o_x0 o_x4  hf
  · replace hf := (if_neg hc).symm.trans hf
    refine z_icmp_ne_t B 40 rfl 107 (by decide) hc ?_
    refine z_sub [(0, .ref x0), (1, .int x1), (2, .int x2), (4, .ref x4), (5, .int x5), (6, .int x6), (7, .int s0)] [1, 2, 3, 4, 5, 6, 0] rfl ?_
    exact f0_partToLines_j107_ok hj X B hQ hr hk15 _ _ _ _ _ _ _ _ o_x0 o_x4  hf
def f0_partToLines_l15 : Nat → Nat → Int32 → Int32 → Nat → Int32 → Int32 → Mem → Option (Int32 × Mem)
  | 0, _, _, _, _, _, _, _ => none
  | n + 1, x0, x1, x2, x4, x5, x6, mm => if x6 < ((mm x4 0) * (4 : Int32)) then dvz (4 : Int32) (bd (f6_at mm (x4 + 2) (x6 / (4 : Int32))) (fun r1 => if r1 = x1 then bd (f6_at mm (x0 + 25) x6) (fun r3 => if r3 < x2 then bd (f6_at mm (x0 + 24) x6) (fun r9 => f0_partToLines_j69 (fun x0 x1 x2 x4 x5 x6 mm => f0_partToLines_l15 n x0 x1 x2 x4 x5 x6 mm) x0 x1 x2 x4 x5 x6 r9 mm) else f0_partToLines_j69 (fun x0 x1 x2 x4 x5 x6 mm => f0_partToLines_l15 n x0 x1 x2 x4 x5 x6 mm) x0 x1 x2 x4 x5 x6 (0 : Int32) mm) else f0_partToLines_j118 (fun x0 x1 x2 x4 x5 x6 mm => f0_partToLines_l15 n x0 x1 x2 x4 x5 x6 mm) x0 x1 x2 x4 x5 x6 mm)) else some (x5, mm)
theorem f0_partToLines_l15_ok {E : Ev} {l : Launch} {C : Cfg} {x : (Int32 × Mem)} (hj : Dj C) (X : Ec E l C rmX0_partToLines) (B : Bx E RX0 tbX0_partToLines 8 (some .int)) (hQ : Rt E) (hr : Rs E (some (.int x.1)) x.2) (n : Nat) : ∀ (x0 : Nat) (x1 : Int32) (x2 : Int32) (x4 : Nat) (x5 : Int32) (x6 : Int32) (mm : Mem), Ob x0 0 → Ob x4 2 → f0_partToLines_l15 n x0 x1 x2 x4 x5 x6 mm = some x → G E 8 15 [(0, .ref x0), (1, .int x1), (2, .int x2), (4, .ref x4), (5, .int x5), (6, .int x6)] [] mm := by
  induction n with
  | zero =>
    intro x0 x1 x2 x4 x5 x6 mm o_x0 o_x4 hf
    rw [f0_partToLines_l15] at hf
    cases hf
  | succ n ih =>
    intro x0 x1 x2 x4 x5 x6 mm o_x0 o_x4 hf
    rw [f0_partToLines_l15] at hf
    refine z_iload B 8 rfl 5 rfl ?_
    refine z_aload B 9 rfl 3 rfl ?_
    refine z_geti 2 0 x4 B 10 rfl o_x4 rfl (iX0_partToLines _ (List.mem_of_getElem? (i := 2) rfl)) rfl ?_
    refine z_iconst 4 B 11 rfl (by decide) ?_
    refine z_imul B 12 rfl ?_
    by_cases hc : x6 < ((mm x4 0) * (4 : Int32))
    · replace hf := (if_pos hc).symm.trans hf
      refine z_icmp_ge_f B 13 rfl 124 (by decide) hc ?_
      refine z_aload B 14 rfl 3 rfl ?_
      refine z_getr 2 3 x4 B 15 rfl o_x4 rfl (iX0_partToLines _ (List.mem_of_getElem? (i := 3) rfl)) rfl ?_
      refine z_iload B 16 rfl 5 rfl ?_
      refine z_iconst 4 B 17 rfl (by decide) ?_
      obtain ⟨hz, hf⟩ := dvz_e hf
      refine z_idiv B 18 rfl hz ?_
      obtain ⟨r1, ec, hf⟩ := bd_e hf
      refine z_callN [.ref (x4 + 2), .int (x6 / (4 : Int32))] [] [.int r1] X B 19 rfl miX6_at ⟨List.mem_of_getElem? (i := 13) rfl, (iX0_partToLines _ (List.mem_of_getElem? (i := 4) rfl))⟩ (ctX6_at hj (obf_2_3 o_x4) ec) ⟨Nat.le_of_ble_eq_true rfl, Nat.le_of_ble_eq_true rfl⟩ rfl rfl (Nat.le_of_ble_eq_true rfl) rfl ?_
      refine z_iload_n B 20 rfl 1 1 rfl rfl ?_
      by_cases hc : r1 = x1
      · replace hf := (if_pos hc).symm.trans hf
        refine z_icmp_ne_f B 21 rfl 118 (by decide) hc ?_
        refine z_aload_n B 22 rfl 0 0 rfl rfl ?_
        refine z_getr 0 6 x0 B 23 rfl o_x0 rfl (iX0_partToLines _ (List.mem_of_getElem? (i := 5) rfl)) rfl ?_
        refine z_iload B 24 rfl 5 rfl ?_
        obtain ⟨r3, ec, hf⟩ := bd_e hf
        refine z_callN [.ref (x0 + 25), .int x6] [] [.int r3] X B 25 rfl miX6_at ⟨List.mem_of_getElem? (i := 13) rfl, (iX0_partToLines _ (List.mem_of_getElem? (i := 4) rfl))⟩ (ctX6_at hj (obf_0_6 o_x0) ec) ⟨Nat.le_of_ble_eq_true rfl, Nat.le_of_ble_eq_true rfl⟩ rfl rfl (Nat.le_of_ble_eq_true rfl) rfl ?_
        refine z_iload_n B 26 rfl 2 2 rfl rfl ?_
        by_cases hc : r3 < x2
        · replace hf := (if_pos hc).symm.trans hf
          refine z_icmp_ge_f B 27 rfl 68 (by decide) hc ?_
          refine z_aload_n B 28 rfl 0 0 rfl rfl ?_
          refine z_getr 0 5 x0 B 29 rfl o_x0 rfl (iX0_partToLines _ (List.mem_of_getElem? (i := 8) rfl)) rfl ?_
          refine z_iload B 30 rfl 5 rfl ?_
          obtain ⟨r9, ec, hf⟩ := bd_e hf
          refine z_callN [.ref (x0 + 24), .int x6] [] [.int r9] X B 31 rfl miX6_at ⟨List.mem_of_getElem? (i := 13) rfl, (iX0_partToLines _ (List.mem_of_getElem? (i := 4) rfl))⟩ (ctX6_at hj (obf_0_5 o_x0) ec) ⟨Nat.le_of_ble_eq_true rfl, Nat.le_of_ble_eq_true rfl⟩ rfl rfl (Nat.le_of_ble_eq_true rfl) rfl ?_
          refine z_goto B 32 rfl 69 (by decide) ?_
          exact f0_partToLines_j69_ok hj X B hQ hr ih _ _ _ _ _ _ _ _ o_x0 o_x4  hf
        · replace hf := (if_neg hc).symm.trans hf
          refine z_icmp_ge_t B 27 rfl 68 (by decide) hc ?_
          refine z_iconst 0 B 33 rfl (by decide) ?_
          exact f0_partToLines_j69_ok hj X B hQ hr ih _ _ _ _ _ _ _ _ o_x0 o_x4  hf
      · replace hf := (if_neg hc).symm.trans hf
        refine z_icmp_ne_t B 21 rfl 118 (by decide) hc ?_
        exact f0_partToLines_j118_ok hj X B hQ hr ih _ _ _ _ _ _ _ o_x0 o_x4  hf
    · replace hf := (if_neg hc).symm.trans hf
      refine z_icmp_ge_t B 13 rfl 124 (by decide) hc ?_
      refine z_iload B 59 rfl 4 rfl ?_
      cases hf
      exact z_iret B 60 rfl rfl hQ hr
def f0_partToLines (mm : Mem) (a0 : Nat) (a1 : Int32) (a2 : Int32) (a3 : Int32) : Option (Int32 × Mem) := f0_partToLines_l15 FU a0 a1 a2 (a0 + 1 + 8) a3 (0 : Int32) mm
theorem ctX0_partToLines {l : Launch} {C : Cfg} (hj : Dj C) {mm : Mem} {a0 : Nat} {a1 : Int32} {a2 : Int32} {a3 : Int32} {x : (Int32 × Mem)} (o_a0 : Ob a0 0) (hf : f0_partToLines mm a0 a1 a2 a3 = some x) : Ct l C yX0_partToLines cX0_partToLines 8 (some .int) 1 22 [.ref a0, .int a1, .int a2, .int a3] mm (some (.int x.1)) x.2 := by
  refine Ct.of (tb := tbX0_partToLines) hj miX0_partToLines.2.1 miX0_partToLines.1 dtX0_partToLines (Nat.le_of_ble_eq_true rfl) ?_
  intro E B hQ hr X
  unfold f0_partToLines at hf
  show G E 8 0 [(0, .ref a0), (1, .int a1), (2, .int a2), (3, .int a3)] [] mm
  refine z_aload_n B 0 rfl 0 0 rfl rfl ?_
  refine z_getr 0 0 a0 B 1 rfl o_a0 rfl (iX0_partToLines _ (List.mem_of_getElem? (i := 0) rfl)) rfl ?_
  refine z_getr 1 1 (a0 + 1) B 2 rfl (obf_0_0 o_a0) rfl (iX0_partToLines _ (List.mem_of_getElem? (i := 1) rfl)) rfl ?_
  refine z_astore [(4, .ref (a0 + 1 + 8)), (0, .ref a0), (1, .int a1), (2, .int a2), (3, .int a3)] B 3 rfl (by decide) rfl ?_
  refine z_iload_n B 4 rfl 3 4 rfl rfl ?_
  refine z_istore [(5, .int a3), (4, .ref (a0 + 1 + 8)), (0, .ref a0), (1, .int a1), (2, .int a2), (3, .int a3)] B 5 rfl (by decide) rfl ?_
  refine z_iconst 0 B 6 rfl (by decide) ?_
  refine z_istore [(6, .int (0 : Int32)), (5, .int a3), (4, .ref (a0 + 1 + 8)), (0, .ref a0), (1, .int a1), (2, .int a2), (3, .int a3)] B 7 rfl (by decide) rfl ?_
  refine z_sub [(0, .ref a0), (1, .int a1), (2, .int a2), (4, .ref (a0 + 1 + 8)), (5, .int a3), (6, .int (0 : Int32))] [3, 4, 5, 2, 1, 0] rfl ?_
  exact f0_partToLines_l15_ok hj X B hQ hr FU _ _ _ _ _ _ _ o_a0 (obf_1_1 (obf_0_0 o_a0))  hf
/-! ZoneCapacity$Auction.partToInner(III)I -/
def tbX0_partToInner : Tb := [(0, .aload_n 0, 1, 1), (1, .getfield 12, 3, 4), (4, .getfield 60, 3, 7), (7, .astore 4, 2, 9), (9, .iload_n 3, 1, 10), (10, .istore 5, 2, 12), (12, .iload_n 1, 1, 13), (13, .iconst 1, 1, 14), (14, .iadd, 1, 15), (15, .istore 6, 2, 17), (17, .iload 6, 2, 19), (19, .aload 4, 2, 21), (21, .getfield 64, 3, 24), (24, .if_icmp .ge 128, 3, 27), (27, .aload 4, 2, 29), (29, .getfield 118, 3, 32), (32, .iload 6, 2, 34), (34, .invokestatic 69, 3, 37), (37, .iload_n 1, 1, 38), (38, .if_icmp .ne 108, 3, 41), (41, .aload_n 0, 1, 42), (42, .getfield 40, 3, 45), (45, .iload 6, 2, 47), (47, .invokestatic 69, 3, 50), (50, .istore 7, 2, 52), (52, .aload_n 0, 1, 53), (53, .getfield 43, 3, 56), (56, .iload 6, 2, 58), (58, .invokestatic 69, 3, 61), (61, .istore 8, 2, 63), (63, .aload 4, 2, 65), (65, .iload 6, 2, 67), (67, .iload 7, 2, 69), (69, .invokevirtual 121, 3, 72), (72, .istore 9, 2, 74), (74, .iload 5, 2, 76), (76, .aload 4, 2, 78), (78, .iload 6, 2, 80), (80, .iload 8, 2, 82), (82, .invokevirtual 121, 3, 85), (85, .iload 9, 2, 87), (87, .isub, 1, 88), (88, .invokestatic 131, 3, 91), (91, .istore 10, 2, 93), (93, .iload 5, 2, 95), (95, .iload 10, 2, 97), (97, .isub, 1, 98), (98, .istore 5, 2, 100), (100, .iload 9, 2, 102), (102, .iload 10, 2, 104), (104, .iadd, 1, 105), (105, .istore 11, 2, 107), (107, .aload_n 0, 1, 108), (108, .getfield 22, 3, 111), (111, .iload 6, 2, 113), (113, .iload 11, 2, 115), (115, .invokestatic 56, 3, 118), (118, .aload_n 0, 1, 119), (119, .getfield 18, 3, 122), (122, .iload 6, 2, 124), (124, .iload 7, 2, 126), (126, .iload 11, 2, 128), (128, .if_icmp .gt 14, 3, 131), (131, .iload 11, 2, 133), (133, .iload 8, 2, 135), (135, .if_icmp .gt 7, 3, 138), (138, .iload_n 2, 1, 139), (139, .goto 4, 3, 142), (142, .iconst (-1), 1, 143), (143, .invokestatic 56, 3, 146), (146, .iinc 6 1, 3, 149), (149, .goto (-132), 3, 152), (152, .iload 5, 2, 154), (154, .ireturn, 1, 155)]
theorem dtX0_partToInner : ∀ q ∈ tbX0_partToInner, decode cX0_partToInner q.1 = .ok (q.2.1, q.2.2.1) ∧ q.1 + q.2.2.1 = q.2.2.2 := by decide +kernel
theorem miX0_partToInner : MI yX0_partToInner cX0_partToInner 12 (some .int) 3 := ⟨tw_mem (List.mem_of_getElem? (i := 406) (by decide +kernel)) rfl, by decide, by decide +kernel, tw_mem (List.mem_of_getElem? (i := 15) (by decide +kernel)) rfl⟩
abbrev rmX0_partToInner : Room := { frames := 2, cells := 0, slots := 0, locals := 43 }
def wX0_partToInner : List Cond := [.fieldLink "ZoneCapacity$Auction" 12 "ZoneCapacity$Auction" "market" "LZoneCapacity$Market;", .fieldLink "ZoneCapacity$Auction" 60 "ZoneCapacity$Market" "zones" "LZoneCapacity$Zones;", .fieldLink "ZoneCapacity$Auction" 64 "ZoneCapacity$Zones" "many" "I", .fieldLink "ZoneCapacity$Auction" 118 "ZoneCapacity$Zones" "outer" "[I", .static yX6_at, .fieldLink "ZoneCapacity$Auction" 40 "ZoneCapacity$Auction" "lows" "[I", .fieldLink "ZoneCapacity$Auction" 43 "ZoneCapacity$Auction" "highs" "[I", .methodLink "ZoneCapacity$Auction" 121 yX5_cut, .instanceMethod yX5_cut, .selects "ZoneCapacity$Zones" yX5_cut yX5_cut, .methodLink "ZoneCapacity$Auction" 131 ⟨"java/lang/Math", "min", "(II)I"⟩, .static ⟨"java/lang/Math", "min", "(II)I"⟩, .initialized "java/lang/Math", .code Lib.Math.min.name Lib.Math.min.code 2 (some .int), .fieldLink "ZoneCapacity$Auction" 22 "ZoneCapacity$Auction" "nets" "[I", .static yX6_put, .fieldLink "ZoneCapacity$Auction" 18 "ZoneCapacity$Auction" "prices" "[I"]
theorem iX0_partToInner : ∀ w ∈ wX0_partToInner, w ∈ TW := tw_of (ids := [160, 150, 69, 72, 272, 173, 174, 388, 389, 390, 402, 357, 26, 358, 164, 291, 162]) (by decide +kernel)
def f0_partToInner_j146 (k17 : Nat → Int32 → Int32 → Nat → Int32 → Int32 → Mem → Option (Int32 × Mem)) (x0 : Nat) (x1 : Int32) (x2 : Int32) (x4 : Nat) (x5 : Int32) (x6 : Int32) (mm : Mem) : Option (Int32 × Mem) := nm (x6 + 1) (fun v3 => k17 x0 x1 x2 x4 x5 v3 mm)
theorem f0_partToInner_j146_ok {E : Ev} {l : Launch} {C : Cfg} {x : (Int32 × Mem)} {k17 : Nat → Int32 → Int32 → Nat → Int32 → Int32 → Mem → Option (Int32 × Mem)} (hj : Dj C) (X : Ec E l C rmX0_partToInner) (B : Bx E RX0 tbX0_partToInner 12 (some .int)) (hQ : Rt E) (hr : Rs E (some (.int x.1)) x.2) (hk17 : ∀ (x0 : Nat) (x1 : Int32) (x2 : Int32) (x4 : Nat) (x5 : Int32) (x6 : Int32) (mm : Mem), Ob x0 0 → Ob x4 5 → k17 x0 x1 x2 x4 x5 x6 mm = some x → G E 12 17 [(0, .ref x0), (1, .int x1), (2, .int x2), (4, .ref x4), (5, .int x5), (6, .int x6)] [] mm) (x0 : Nat) (x1 : Int32) (x2 : Int32) (x4 : Nat) (x5 : Int32) (x6 : Int32) (mm : Mem) (o_x0 : Ob x0 0) (o_x4 : Ob x4 5) (hf : f0_partToInner_j146 k17 x0 x1 x2 x4 x5 x6 mm = some x) : G E 12 146 [(0, .ref x0), (1, .int x1), (2, .int x2), (4, .ref x4), (5, .int x5), (6, .int x6)] [] mm := by
  unfold f0_partToInner_j146 at hf
  obtain ⟨v3, ex, hf⟩ := nm_x hf
  refine z_iinc v3 [(6, .int v3), (0, .ref x0), (1, .int x1), (2, .int x2), (4, .ref x4), (5, .int x5)] B 70 rfl 5 rfl (ex.symm) (by decide) rfl ?_
  refine z_goto B 71 rfl 17 (by decide) ?_
  refine z_sub [(0, .ref x0), (1, .int x1), (2, .int x2), (4, .ref x4), (5, .int x5), (6, .int v3)] [1, 2, 3, 4, 5, 0] rfl ?_
  exact hk17 _ _ _ _ _ _ _ o_x0 o_x4  hf
def f0_partToInner_j143 (k17 : Nat → Int32 → Int32 → Nat → Int32 → Int32 → Mem → Option (Int32 × Mem)) (x0 : Nat) (x1 : Int32) (x2 : Int32) (x4 : Nat) (x5 : Int32) (x6 : Int32) (s0 : Int32) (s1 : Int32) (s2 : Nat) (mm : Mem) : Option (Int32 × Mem) := bd (f6_put mm s2 s1 s0) (fun r12 => f0_partToInner_j146 k17 x0 x1 x2 x4 x5 x6 r12)
theorem f0_partToInner_j143_ok {E : Ev} {l : Launch} {C : Cfg} {x : (Int32 × Mem)} {k17 : Nat → Int32 → Int32 → Nat → Int32 → Int32 → Mem → Option (Int32 × Mem)} (hj : Dj C) (X : Ec E l C rmX0_partToInner) (B : Bx E RX0 tbX0_partToInner 12 (some .int)) (hQ : Rt E) (hr : Rs E (some (.int x.1)) x.2) (hk17 : ∀ (x0 : Nat) (x1 : Int32) (x2 : Int32) (x4 : Nat) (x5 : Int32) (x6 : Int32) (mm : Mem), Ob x0 0 → Ob x4 5 → k17 x0 x1 x2 x4 x5 x6 mm = some x → G E 12 17 [(0, .ref x0), (1, .int x1), (2, .int x2), (4, .ref x4), (5, .int x5), (6, .int x6)] [] mm) (x0 : Nat) (x1 : Int32) (x2 : Int32) (x4 : Nat) (x5 : Int32) (x6 : Int32) (s0 : Int32) (s1 : Int32) (s2 : Nat) (mm : Mem) (o_x0 : Ob x0 0) (o_x4 : Ob x4 5) (o_s2 : Ob s2 8) (hf : f0_partToInner_j143 k17 x0 x1 x2 x4 x5 x6 s0 s1 s2 mm = some x) : G E 12 143 [(0, .ref x0), (1, .int x1), (2, .int x2), (4, .ref x4), (5, .int x5), (6, .int x6)] [.int s0, .int s1, .ref s2] mm := by
  unfold f0_partToInner_j143 at hf
  obtain ⟨r12, ec, hf⟩ := bd_e hf
  refine z_callN [.ref s2, .int s1, .int s0] [] [] X B 69 rfl miX6_put ⟨List.mem_of_getElem? (i := 12) rfl, (iX0_partToInner _ (List.mem_of_getElem? (i := 15) rfl))⟩ (ctX6_put hj o_s2 ec) ⟨Nat.le_of_ble_eq_true rfl, Nat.le_of_ble_eq_true rfl⟩ rfl rfl (Nat.le_of_ble_eq_true rfl) rfl ?_
  exact f0_partToInner_j146_ok hj X B hQ hr hk17 _ _ _ _ _ _ _ o_x0 o_x4  hf
def f0_partToInner_j142 (k17 : Nat → Int32 → Int32 → Nat → Int32 → Int32 → Mem → Option (Int32 × Mem)) (x0 : Nat) (x1 : Int32) (x2 : Int32) (x4 : Nat) (x5 : Int32) (x6 : Int32) (s0 : Int32) (s1 : Nat) (mm : Mem) : Option (Int32 × Mem) := f0_partToInner_j143 k17 x0 x1 x2 x4 x5 x6 (-1 : Int32) s0 s1 mm
theorem f0_partToInner_j142_ok {E : Ev} {l : Launch} {C : Cfg} {x : (Int32 × Mem)} {k17 : Nat → Int32 → Int32 → Nat → Int32 → Int32 → Mem → Option (Int32 × Mem)} (hj : Dj C) (X : Ec E l C rmX0_partToInner) (B : Bx E RX0 tbX0_partToInner 12 (some .int)) (hQ : Rt E) (hr : Rs E (some (.int x.1)) x.2) (hk17 : ∀ (x0 : Nat) (x1 : Int32) (x2 : Int32) (x4 : Nat) (x5 : Int32) (x6 : Int32) (mm : Mem), Ob x0 0 → Ob x4 5 → k17 x0 x1 x2 x4 x5 x6 mm = some x → G E 12 17 [(0, .ref x0), (1, .int x1), (2, .int x2), (4, .ref x4), (5, .int x5), (6, .int x6)] [] mm) (x0 : Nat) (x1 : Int32) (x2 : Int32) (x4 : Nat) (x5 : Int32) (x6 : Int32) (s0 : Int32) (s1 : Nat) (mm : Mem) (o_x0 : Ob x0 0) (o_x4 : Ob x4 5) (o_s1 : Ob s1 8) (hf : f0_partToInner_j142 k17 x0 x1 x2 x4 x5 x6 s0 s1 mm = some x) : G E 12 142 [(0, .ref x0), (1, .int x1), (2, .int x2), (4, .ref x4), (5, .int x5), (6, .int x6)] [.int s0, .ref s1] mm := by
  unfold f0_partToInner_j142 at hf
  refine z_iconst (-1) B 68 rfl (by decide) ?_
  exact f0_partToInner_j143_ok hj X B hQ hr hk17 _ _ _ _ _ _ _ _ _ _ o_x0 o_x4 o_s1 hf
def f0_partToInner_l17 : Nat → Nat → Int32 → Int32 → Nat → Int32 → Int32 → Mem → Option (Int32 × Mem)
  | 0, _, _, _, _, _, _, _ => none
  | n + 1, x0, x1, x2, x4, x5, x6, mm => if x6 < (mm x4 0) then bd (f6_at mm (x4 + 1) x6) (fun r2 => if r2 = x1 then bd (f6_at mm (x0 + 27) x6) (fun r4 => bd (f6_at mm (x0 + 28) x6) (fun r5 => bd (f5_cut mm x4 x6 r4) (fun r6 => bd (f5_cut mm x4 x6 r5) (fun r7 => nm (mni x5 (r7 - r6)) (fun v8 => nm (x5 - v8) (fun v9 => nm (r6 + v8) (fun v10 => bd (f6_put mm (x0 + 21) x6 v10) (fun r11 => if v10 < r4 then f0_partToInner_j142 (fun x0 x1 x2 x4 x5 x6 mm => f0_partToInner_l17 n x0 x1 x2 x4 x5 x6 mm) x0 x1 x2 x4 v9 x6 x6 (x0 + 20) r11 else if r5 < v10 then f0_partToInner_j142 (fun x0 x1 x2 x4 x5 x6 mm => f0_partToInner_l17 n x0 x1 x2 x4 x5 x6 mm) x0 x1 x2 x4 v9 x6 x6 (x0 + 20) r11 else f0_partToInner_j143 (fun x0 x1 x2 x4 x5 x6 mm => f0_partToInner_l17 n x0 x1 x2 x4 x5 x6 mm) x0 x1 x2 x4 v9 x6 x2 x6 (x0 + 20) r11)))))))) else f0_partToInner_j146 (fun x0 x1 x2 x4 x5 x6 mm => f0_partToInner_l17 n x0 x1 x2 x4 x5 x6 mm) x0 x1 x2 x4 x5 x6 mm) else some (x5, mm)
theorem f0_partToInner_l17_ok {E : Ev} {l : Launch} {C : Cfg} {x : (Int32 × Mem)} (hj : Dj C) (X : Ec E l C rmX0_partToInner) (B : Bx E RX0 tbX0_partToInner 12 (some .int)) (hQ : Rt E) (hr : Rs E (some (.int x.1)) x.2) (n : Nat) : ∀ (x0 : Nat) (x1 : Int32) (x2 : Int32) (x4 : Nat) (x5 : Int32) (x6 : Int32) (mm : Mem), Ob x0 0 → Ob x4 5 → f0_partToInner_l17 n x0 x1 x2 x4 x5 x6 mm = some x → G E 12 17 [(0, .ref x0), (1, .int x1), (2, .int x2), (4, .ref x4), (5, .int x5), (6, .int x6)] [] mm := by
  induction n with
  | zero =>
    intro x0 x1 x2 x4 x5 x6 mm o_x0 o_x4 hf
    rw [f0_partToInner_l17] at hf
    cases hf
  | succ n ih =>
    intro x0 x1 x2 x4 x5 x6 mm o_x0 o_x4 hf
    rw [f0_partToInner_l17] at hf
    refine z_iload B 10 rfl 5 rfl ?_
    refine z_aload B 11 rfl 3 rfl ?_
    refine z_geti 5 0 x4 B 12 rfl o_x4 rfl (iX0_partToInner _ (List.mem_of_getElem? (i := 2) rfl)) rfl ?_
    by_cases hc : x6 < (mm x4 0)
    · replace hf := (if_pos hc).symm.trans hf
      refine z_icmp_ge_f B 13 rfl 152 (by decide) hc ?_
      refine z_aload B 14 rfl 3 rfl ?_
      refine z_getr 5 1 x4 B 15 rfl o_x4 rfl (iX0_partToInner _ (List.mem_of_getElem? (i := 3) rfl)) rfl ?_
      refine z_iload B 16 rfl 5 rfl ?_
      obtain ⟨r2, ec, hf⟩ := bd_e hf
      refine z_callN [.ref (x4 + 1), .int x6] [] [.int r2] X B 17 rfl miX6_at ⟨List.mem_of_getElem? (i := 13) rfl, (iX0_partToInner _ (List.mem_of_getElem? (i := 4) rfl))⟩ (ctX6_at hj (obf_5_1 o_x4) ec) ⟨Nat.le_of_ble_eq_true rfl, Nat.le_of_ble_eq_true rfl⟩ rfl rfl (Nat.le_of_ble_eq_true rfl) rfl ?_
      refine z_iload_n B 18 rfl 1 1 rfl rfl ?_
      by_cases hc : r2 = x1
      · replace hf := (if_pos hc).symm.trans hf
        refine z_icmp_ne_f B 19 rfl 146 (by decide) hc ?_
        refine z_aload_n B 20 rfl 0 0 rfl rfl ?_
        refine z_getr 0 8 x0 B 21 rfl o_x0 rfl (iX0_partToInner _ (List.mem_of_getElem? (i := 5) rfl)) rfl ?_
        refine z_iload B 22 rfl 5 rfl ?_
        obtain ⟨r4, ec, hf⟩ := bd_e hf
        refine z_callN [.ref (x0 + 27), .int x6] [] [.int r4] X B 23 rfl miX6_at ⟨List.mem_of_getElem? (i := 13) rfl, (iX0_partToInner _ (List.mem_of_getElem? (i := 4) rfl))⟩ (ctX6_at hj (obf_0_8 o_x0) ec) ⟨Nat.le_of_ble_eq_true rfl, Nat.le_of_ble_eq_true rfl⟩ rfl rfl (Nat.le_of_ble_eq_true rfl) rfl ?_
        refine z_istore [(7, .int r4), (0, .ref x0), (1, .int x1), (2, .int x2), (4, .ref x4), (5, .int x5), (6, .int x6)] B 24 rfl (by decide) rfl ?_
        refine z_aload_n B 25 rfl 0 1 rfl rfl ?_
        refine z_getr 0 9 x0 B 26 rfl o_x0 rfl (iX0_partToInner _ (List.mem_of_getElem? (i := 6) rfl)) rfl ?_
        refine z_iload B 27 rfl 6 rfl ?_
        obtain ⟨r5, ec, hf⟩ := bd_e hf
        refine z_callN [.ref (x0 + 28), .int x6] [] [.int r5] X B 28 rfl miX6_at ⟨List.mem_of_getElem? (i := 13) rfl, (iX0_partToInner _ (List.mem_of_getElem? (i := 4) rfl))⟩ (ctX6_at hj (obf_0_9 o_x0) ec) ⟨Nat.le_of_ble_eq_true rfl, Nat.le_of_ble_eq_true rfl⟩ rfl rfl (Nat.le_of_ble_eq_true rfl) rfl ?_
        refine z_istore [(8, .int r5), (7, .int r4), (0, .ref x0), (1, .int x1), (2, .int x2), (4, .ref x4), (5, .int x5), (6, .int x6)] B 29 rfl (by decide) rfl ?_
        refine z_aload B 30 rfl 5 rfl ?_
        refine z_iload B 31 rfl 7 rfl ?_
        refine z_iload B 32 rfl 1 rfl ?_
        obtain ⟨r6, ec, hf⟩ := bd_e hf
        refine z_callV x4 5 [.int x6, .int r4] [] [.int r6] X B 33 rfl (by decide) o_x4 rfl rfl miX5_cut ⟨(iX0_partToInner _ (List.mem_of_getElem? (i := 7) rfl)), (iX0_partToInner _ (List.mem_of_getElem? (i := 8) rfl)), (iX0_partToInner _ (List.mem_of_getElem? (i := 9) rfl))⟩ (ctX5_cut hj o_x4 ec) ⟨Nat.le_of_ble_eq_true rfl, Nat.le_of_ble_eq_true rfl⟩ rfl rfl (Nat.le_of_ble_eq_true rfl) rfl ?_
        refine z_istore [(9, .int r6), (8, .int r5), (7, .int r4), (0, .ref x0), (1, .int x1), (2, .int x2), (4, .ref x4), (5, .int x5), (6, .int x6)] B 34 rfl (by decide) rfl ?_
        refine z_iload B 35 rfl 7 rfl ?_
        refine z_aload B 36 rfl 6 rfl ?_
        refine z_iload B 37 rfl 8 rfl ?_
        refine z_iload B 38 rfl 1 rfl ?_
        obtain ⟨r7, ec, hf⟩ := bd_e hf
        refine z_callV x4 5 [.int x6, .int r5] [.int x5] [.int r7, .int x5] X B 39 rfl (by decide) o_x4 rfl rfl miX5_cut ⟨(iX0_partToInner _ (List.mem_of_getElem? (i := 7) rfl)), (iX0_partToInner _ (List.mem_of_getElem? (i := 8) rfl)), (iX0_partToInner _ (List.mem_of_getElem? (i := 9) rfl))⟩ (ctX5_cut hj o_x4 ec) ⟨Nat.le_of_ble_eq_true rfl, Nat.le_of_ble_eq_true rfl⟩ rfl rfl (Nat.le_of_ble_eq_true rfl) rfl ?_
        refine z_iload B 40 rfl 0 rfl ?_
        refine z_isub B 41 rfl ?_
        refine z_mmin X B 42 rfl ⟨(iX0_partToInner _ (List.mem_of_getElem? (i := 10) rfl)), (iX0_partToInner _ (List.mem_of_getElem? (i := 11) rfl)), (iX0_partToInner _ (List.mem_of_getElem? (i := 12) rfl)), (iX0_partToInner _ (List.mem_of_getElem? (i := 13) rfl))⟩ ⟨Nat.le_of_ble_eq_true rfl, Nat.le_of_ble_eq_true rfl⟩ (Nat.le_of_ble_eq_true rfl) ?_
        obtain ⟨v8, ex, hf⟩ := nm_x hf
        refine z_top ex ?_
        refine z_istore [(10, .int v8), (9, .int r6), (8, .int r5), (7, .int r4), (0, .ref x0), (1, .int x1), (2, .int x2), (4, .ref x4), (5, .int x5), (6, .int x6)] B 43 rfl (by decide) rfl ?_
        refine z_iload B 44 rfl 8 rfl ?_
        refine z_iload B 45 rfl 0 rfl ?_
        refine z_isub B 46 rfl ?_
        obtain ⟨v9, ex, hf⟩ := nm_x hf
        refine z_top ex ?_
        refine z_istore [(5, .int v9), (10, .int v8), (9, .int r6), (8, .int r5), (7, .int r4), (0, .ref x0), (1, .int x1), (2, .int x2), (4, .ref x4), (6, .int x6)] B 47 rfl (by decide) rfl ?_
        refine z_iload B 48 rfl 2 rfl ?_
        refine z_iload B 49 rfl 1 rfl ?_
        refine z_iadd B 50 rfl ?_
        obtain ⟨v10, ex, hf⟩ := nm_x hf
        refine z_top ex ?_
        refine z_istore [(11, .int v10), (5, .int v9), (10, .int v8), (9, .int r6), (8, .int r5), (7, .int r4), (0, .ref x0), (1, .int x1), (2, .int x2), (4, .ref x4), (6, .int x6)] B 51 rfl (by decide) rfl ?_
        refine z_aload_n B 52 rfl 0 6 rfl rfl ?_
        refine z_getr 0 2 x0 B 53 rfl o_x0 rfl (iX0_partToInner _ (List.mem_of_getElem? (i := 14) rfl)) rfl ?_
        refine z_iload B 54 rfl 10 rfl ?_
        refine z_iload B 55 rfl 0 rfl ?_
        obtain ⟨r11, ec, hf⟩ := bd_e hf
        refine z_callN [.ref (x0 + 21), .int x6, .int v10] [] [] X B 56 rfl miX6_put ⟨List.mem_of_getElem? (i := 12) rfl, (iX0_partToInner _ (List.mem_of_getElem? (i := 15) rfl))⟩ (ctX6_put hj (obf_0_2 o_x0) ec) ⟨Nat.le_of_ble_eq_true rfl, Nat.le_of_ble_eq_true rfl⟩ rfl rfl (Nat.le_of_ble_eq_true rfl) rfl ?_
        refine z_aload_n B 57 rfl 0 6 rfl rfl ?_
        refine z_getr 0 1 x0 B 58 rfl o_x0 rfl (iX0_partToInner _ (List.mem_of_getElem? (i := 16) rfl)) rfl ?_
        refine z_iload B 59 rfl 10 rfl ?_
        refine z_iload B 60 rfl 5 rfl ?_
        refine z_iload B 61 rfl 0 rfl ?_
        by_cases hc : v10 < r4
        · replace hf := (if_pos hc).symm.trans hf
          refine z_icmp_gt_t B 62 rfl 142 (by decide) hc ?_
          refine z_sub [(0, .ref x0), (1, .int x1), (2, .int x2), (4, .ref x4), (5, .int v9), (6, .int x6)] [6, 7, 8, 9, 1, 10] rfl ?_
          exact f0_partToInner_j142_ok hj X B hQ hr ih _ _ _ _ _ _ _ _ _ o_x0 o_x4 (obf_0_1 o_x0) hf
        · replace hf := (if_neg hc).symm.trans hf
          refine z_icmp_gt_f B 62 rfl 142 (by decide) hc ?_
          refine z_iload B 63 rfl 0 rfl ?_
          refine z_iload B 64 rfl 4 rfl ?_
          by_cases hc : r5 < v10
          · replace hf := (if_pos hc).symm.trans hf
            refine z_icmp_gt_t B 65 rfl 142 (by decide) hc ?_
            refine z_sub [(0, .ref x0), (1, .int x1), (2, .int x2), (4, .ref x4), (5, .int v9), (6, .int x6)] [6, 7, 8, 9, 1, 10] rfl ?_
            exact f0_partToInner_j142_ok hj X B hQ hr ih _ _ _ _ _ _ _ _ _ o_x0 o_x4 (obf_0_1 o_x0) hf
          · replace hf := (if_neg hc).symm.trans hf
            refine z_icmp_gt_f B 65 rfl 142 (by decide) hc ?_
            refine z_iload_n B 66 rfl 2 8 rfl rfl ?_
            refine z_goto B 67 rfl 143 (by decide) ?_
            refine z_sub [(0, .ref x0), (1, .int x1), (2, .int x2), (4, .ref x4), (5, .int v9), (6, .int x6)] [6, 7, 8, 9, 1, 10] rfl ?_
            exact f0_partToInner_j143_ok hj X B hQ hr ih _ _ _ _ _ _ _ _ _ _ o_x0 o_x4 (obf_0_1 o_x0) hf
      · replace hf := (if_neg hc).symm.trans hf
        refine z_icmp_ne_t B 19 rfl 146 (by decide) hc ?_
        exact f0_partToInner_j146_ok hj X B hQ hr ih _ _ _ _ _ _ _ o_x0 o_x4  hf
    · replace hf := (if_neg hc).symm.trans hf
      refine z_icmp_ge_t B 13 rfl 152 (by decide) hc ?_
      refine z_iload B 72 rfl 4 rfl ?_
      cases hf
      exact z_iret B 73 rfl rfl hQ hr
def f0_partToInner (mm : Mem) (a0 : Nat) (a1 : Int32) (a2 : Int32) (a3 : Int32) : Option (Int32 × Mem) := nm (a1 + (1 : Int32)) (fun v1 => f0_partToInner_l17 FU a0 a1 a2 (a0 + 1 + 1) a3 v1 mm)
theorem ctX0_partToInner {l : Launch} {C : Cfg} (hj : Dj C) {mm : Mem} {a0 : Nat} {a1 : Int32} {a2 : Int32} {a3 : Int32} {x : (Int32 × Mem)} (o_a0 : Ob a0 0) (hf : f0_partToInner mm a0 a1 a2 a3 = some x) : Ct l C yX0_partToInner cX0_partToInner 12 (some .int) 2 43 [.ref a0, .int a1, .int a2, .int a3] mm (some (.int x.1)) x.2 := by
  refine Ct.of (tb := tbX0_partToInner) hj miX0_partToInner.2.1 miX0_partToInner.1 dtX0_partToInner (Nat.le_of_ble_eq_true rfl) ?_
  intro E B hQ hr X
  unfold f0_partToInner at hf
  show G E 12 0 [(0, .ref a0), (1, .int a1), (2, .int a2), (3, .int a3)] [] mm
  refine z_aload_n B 0 rfl 0 0 rfl rfl ?_
  refine z_getr 0 0 a0 B 1 rfl o_a0 rfl (iX0_partToInner _ (List.mem_of_getElem? (i := 0) rfl)) rfl ?_
  refine z_getr 1 0 (a0 + 1) B 2 rfl (obf_0_0 o_a0) rfl (iX0_partToInner _ (List.mem_of_getElem? (i := 1) rfl)) rfl ?_
  refine z_astore [(4, .ref (a0 + 1 + 1)), (0, .ref a0), (1, .int a1), (2, .int a2), (3, .int a3)] B 3 rfl (by decide) rfl ?_
  refine z_iload_n B 4 rfl 3 4 rfl rfl ?_
  refine z_istore [(5, .int a3), (4, .ref (a0 + 1 + 1)), (0, .ref a0), (1, .int a1), (2, .int a2), (3, .int a3)] B 5 rfl (by decide) rfl ?_
  refine z_iload_n B 6 rfl 1 3 rfl rfl ?_
  refine z_iconst 1 B 7 rfl (by decide) ?_
  refine z_iadd B 8 rfl ?_
  obtain ⟨v1, ex, hf⟩ := nm_x hf
  refine z_top ex ?_
  refine z_istore [(6, .int v1), (5, .int a3), (4, .ref (a0 + 1 + 1)), (0, .ref a0), (1, .int a1), (2, .int a2), (3, .int a3)] B 9 rfl (by decide) rfl ?_
  refine z_sub [(0, .ref a0), (1, .int a1), (2, .int a2), (4, .ref (a0 + 1 + 1)), (5, .int a3), (6, .int v1)] [3, 4, 5, 2, 1, 0] rfl ?_
  exact f0_partToInner_l17_ok hj X B hQ hr FU _ _ _ _ _ _ _ o_a0 (obf_1_0 (obf_0_0 o_a0))  hf
/-! ZoneCapacity$Auction.part(I)V -/
def tbX0_part : Tb := [(0, .aload_n 0, 1, 1), (1, .getfield 18, 3, 4), (4, .iload_n 1, 1, 5), (5, .invokestatic 69, 3, 8), (8, .istore_n 2, 1, 9), (9, .iload_n 2, 1, 10), (10, .aload_n 0, 1, 11), (11, .getfield 52, 3, 14), (14, .if_icmp .eq 30, 3, 17), (17, .aload_n 0, 1, 18), (18, .iload_n 1, 1, 19), (19, .iload_n 2, 1, 20), (20, .aload_n 0, 1, 21), (21, .getfield 40, 3, 24), (24, .invokevirtual 81, 3, 27), (27, .aload_n 0, 1, 28), (28, .iload_n 1, 1, 29), (29, .iload_n 2, 1, 30), (30, .iconst 1, 1, 31), (31, .iadd, 1, 32), (32, .aload_n 0, 1, 33), (33, .getfield 43, 3, 36), (36, .invokevirtual 81, 3, 39), (39, .aload_n 0, 1, 40), (40, .iload_n 2, 1, 41), (41, .putfield 52, 3, 44), (44, .aload_n 0, 1, 45), (45, .getfield 22, 3, 48), (48, .iload_n 1, 1, 49), (49, .invokestatic 69, 3, 52), (52, .aload_n 0, 1, 53), (53, .getfield 40, 3, 56), (56, .iload_n 1, 1, 57), (57, .invokestatic 69, 3, 60), (60, .isub, 1, 61), (61, .istore_n 3, 1, 62), (62, .aload_n 0, 1, 63), (63, .iload_n 1, 1, 64), (64, .iload_n 2, 1, 65), (65, .iload_n 3, 1, 66), (66, .invokevirtual 124, 3, 69), (69, .istore_n 3, 1, 70), (70, .aload_n 0, 1, 71), (71, .iload_n 1, 1, 72), (72, .iload_n 2, 1, 73), (73, .iload_n 3, 1, 74), (74, .invokevirtual 128, 3, 77), (77, .istore_n 3, 1, 78), (78, .aload_n 0, 1, 79), (79, .getfield 25, 3, 82), (82, .iload_n 1, 1, 83), (83, .aload_n 0, 1, 84), (84, .getfield 12, 3, 87), (87, .getfield 60, 3, 90), (90, .iload_n 1, 1, 91), (91, .iload_n 2, 1, 92), (92, .invokevirtual 110, 3, 95), (95, .iload_n 3, 1, 96), (96, .isub, 1, 97), (97, .invokestatic 56, 3, 100), (100, .return_, 1, 101)]
theorem dtX0_part : ∀ q ∈ tbX0_part, decode cX0_part q.1 = .ok (q.2.1, q.2.2.1) ∧ q.1 + q.2.2.1 = q.2.2.2 := by decide +kernel
theorem miX0_part : MI yX0_part cX0_part 4 none 1 := ⟨tw_mem (List.mem_of_getElem? (i := 397) (by decide +kernel)) rfl, by decide, by decide +kernel, tw_mem (List.mem_of_getElem? (i := 15) (by decide +kernel)) rfl⟩
abbrev rmX0_part : Room := { frames := 3, cells := 0, slots := 0, locals := 78 }
def wX0_part : List Cond := [.fieldLink "ZoneCapacity$Auction" 18 "ZoneCapacity$Auction" "prices" "[I", .static yX6_at, .fieldLink "ZoneCapacity$Auction" 52 "ZoneCapacity$Auction" "filledAt" "I", .fieldLink "ZoneCapacity$Auction" 22 "ZoneCapacity$Auction" "nets" "[I", .fieldLink "ZoneCapacity$Auction" 40 "ZoneCapacity$Auction" "lows" "[I", .methodLink "ZoneCapacity$Auction" 124 yX0_partToLines, .instanceMethod yX0_partToLines, .selects "ZoneCapacity$Auction" yX0_partToLines yX0_partToLines, .methodLink "ZoneCapacity$Auction" 128 yX0_partToInner, .instanceMethod yX0_partToInner, .selects "ZoneCapacity$Auction" yX0_partToInner yX0_partToInner, .fieldLink "ZoneCapacity$Auction" 25 "ZoneCapacity$Auction" "servedUnits" "[I", .fieldLink "ZoneCapacity$Auction" 12 "ZoneCapacity$Auction" "market" "LZoneCapacity$Market;", .fieldLink "ZoneCapacity$Auction" 60 "ZoneCapacity$Market" "zones" "LZoneCapacity$Zones;", .methodLink "ZoneCapacity$Auction" 110 yX5_wantedFrom, .instanceMethod yX5_wantedFrom, .selects "ZoneCapacity$Zones" yX5_wantedFrom yX5_wantedFrom, .static yX6_put, .methodLink "ZoneCapacity$Auction" 81 yX0_fillLevels, .instanceMethod yX0_fillLevels, .selects "ZoneCapacity$Auction" yX0_fillLevels yX0_fillLevels, .fieldLink "ZoneCapacity$Auction" 43 "ZoneCapacity$Auction" "highs" "[I"]
theorem iX0_part : ∀ w ∈ wX0_part, w ∈ TW := tw_of (ids := [162, 272, 175, 164, 173, 398, 400, 6, 403, 405, 7, 166, 160, 150, 377, 378, 379, 291, 373, 375, 3, 174]) (by decide +kernel)
def f0_part_j44 (x0 : Nat) (x1 : Int32) (x2 : Int32) (mm : Mem) : Option Mem := bd (f6_at mm (x0 + 21) x1) (fun r2 => bd (f6_at mm (x0 + 27) x1) (fun r3 => nm (r2 - r3) (fun v4 => bd (f0_partToLines mm x0 x1 x2 v4) (fun r5 => bd (f0_partToInner r5.2 x0 x1 x2 r5.1) (fun r6 => bd (f5_wantedFrom r6.2 (x0 + 1 + 1) x1 x2) (fun r7 => bd (f6_put r6.2 (x0 + 22) x1 (r7 - r6.1)) (fun r8 => some r8)))))))
theorem f0_part_j44_ok {E : Ev} {l : Launch} {C : Cfg} {x : Mem} (hj : Dj C) (X : Ec E l C rmX0_part) (B : Bx E RX0 tbX0_part 4 none) (hQ : Rt E) (hr : Rs E none x) (x0 : Nat) (x1 : Int32) (x2 : Int32) (mm : Mem) (o_x0 : Ob x0 0) (hf : f0_part_j44 x0 x1 x2 mm = some x) : G E 4 44 [(0, .ref x0), (1, .int x1), (2, .int x2)] [] mm := by
  unfold f0_part_j44 at hf
  refine z_aload_n B 26 rfl 0 0 rfl rfl ?_
  refine z_getr 0 2 x0 B 27 rfl o_x0 rfl (iX0_part _ (List.mem_of_getElem? (i := 3) rfl)) rfl ?_
  refine z_iload_n B 28 rfl 1 1 rfl rfl ?_
  obtain ⟨r2, ec, hf⟩ := bd_e hf
  refine z_callN [.ref (x0 + 21), .int x1] [] [.int r2] X B 29 rfl miX6_at ⟨List.mem_of_getElem? (i := 13) rfl, (iX0_part _ (List.mem_of_getElem? (i := 1) rfl))⟩ (ctX6_at hj (obf_0_2 o_x0) ec) ⟨Nat.le_of_ble_eq_true rfl, Nat.le_of_ble_eq_true rfl⟩ rfl rfl (Nat.le_of_ble_eq_true rfl) rfl ?_
  refine z_aload_n B 30 rfl 0 0 rfl rfl ?_
  refine z_getr 0 8 x0 B 31 rfl o_x0 rfl (iX0_part _ (List.mem_of_getElem? (i := 4) rfl)) rfl ?_
  refine z_iload_n B 32 rfl 1 1 rfl rfl ?_
  obtain ⟨r3, ec, hf⟩ := bd_e hf
  refine z_callN [.ref (x0 + 27), .int x1] [.int r2] [.int r3, .int r2] X B 33 rfl miX6_at ⟨List.mem_of_getElem? (i := 13) rfl, (iX0_part _ (List.mem_of_getElem? (i := 1) rfl))⟩ (ctX6_at hj (obf_0_8 o_x0) ec) ⟨Nat.le_of_ble_eq_true rfl, Nat.le_of_ble_eq_true rfl⟩ rfl rfl (Nat.le_of_ble_eq_true rfl) rfl ?_
  refine z_isub B 34 rfl ?_
  obtain ⟨v4, ex, hf⟩ := nm_x hf
  refine z_top ex ?_
  refine z_istore_n [(3, .int v4), (0, .ref x0), (1, .int x1), (2, .int x2)] B 35 rfl 3 rfl (by decide) rfl ?_
  refine z_aload_n B 36 rfl 0 1 rfl rfl ?_
  refine z_iload_n B 37 rfl 1 2 rfl rfl ?_
  refine z_iload_n B 38 rfl 2 3 rfl rfl ?_
  refine z_iload_n B 39 rfl 3 0 rfl rfl ?_
  obtain ⟨r5, ec, hf⟩ := bd_e hf
  refine z_callV x0 0 [.int x1, .int x2, .int v4] [] [.int r5.1] X B 40 rfl (by decide) o_x0 rfl rfl miX0_partToLines ⟨(iX0_part _ (List.mem_of_getElem? (i := 5) rfl)), (iX0_part _ (List.mem_of_getElem? (i := 6) rfl)), (iX0_part _ (List.mem_of_getElem? (i := 7) rfl))⟩ (ctX0_partToLines hj o_x0 ec) ⟨Nat.le_of_ble_eq_true rfl, Nat.le_of_ble_eq_true rfl⟩ rfl rfl (Nat.le_of_ble_eq_true rfl) rfl ?_
  refine z_istore_n [(3, .int r5.1), (0, .ref x0), (1, .int x1), (2, .int x2)] B 41 rfl 3 rfl (by decide) rfl ?_
  refine z_aload_n B 42 rfl 0 1 rfl rfl ?_
  refine z_iload_n B 43 rfl 1 2 rfl rfl ?_
  refine z_iload_n B 44 rfl 2 3 rfl rfl ?_
  refine z_iload_n B 45 rfl 3 0 rfl rfl ?_
  obtain ⟨r6, ec, hf⟩ := bd_e hf
  refine z_callV x0 0 [.int x1, .int x2, .int r5.1] [] [.int r6.1] X B 46 rfl (by decide) o_x0 rfl rfl miX0_partToInner ⟨(iX0_part _ (List.mem_of_getElem? (i := 8) rfl)), (iX0_part _ (List.mem_of_getElem? (i := 9) rfl)), (iX0_part _ (List.mem_of_getElem? (i := 10) rfl))⟩ (ctX0_partToInner hj o_x0 ec) ⟨Nat.le_of_ble_eq_true rfl, Nat.le_of_ble_eq_true rfl⟩ rfl rfl (Nat.le_of_ble_eq_true rfl) rfl ?_
  refine z_istore_n [(3, .int r6.1), (0, .ref x0), (1, .int x1), (2, .int x2)] B 47 rfl 3 rfl (by decide) rfl ?_
  refine z_aload_n B 48 rfl 0 1 rfl rfl ?_
  refine z_getr 0 3 x0 B 49 rfl o_x0 rfl (iX0_part _ (List.mem_of_getElem? (i := 11) rfl)) rfl ?_
  refine z_iload_n B 50 rfl 1 2 rfl rfl ?_
  refine z_aload_n B 51 rfl 0 1 rfl rfl ?_
  refine z_getr 0 0 x0 B 52 rfl o_x0 rfl (iX0_part _ (List.mem_of_getElem? (i := 12) rfl)) rfl ?_
  refine z_getr 1 0 (x0 + 1) B 53 rfl (obf_0_0 o_x0) rfl (iX0_part _ (List.mem_of_getElem? (i := 13) rfl)) rfl ?_
  refine z_iload_n B 54 rfl 1 2 rfl rfl ?_
  refine z_iload_n B 55 rfl 2 3 rfl rfl ?_
  obtain ⟨r7, ec, hf⟩ := bd_e hf
  refine z_callV (x0 + 1 + 1) 5 [.int x1, .int x2] [.int x1, .ref (x0 + 22)] [.int r7, .int x1, .ref (x0 + 22)] X B 56 rfl (by decide) (obf_1_0 (obf_0_0 o_x0)) rfl rfl miX5_wantedFrom ⟨(iX0_part _ (List.mem_of_getElem? (i := 14) rfl)), (iX0_part _ (List.mem_of_getElem? (i := 15) rfl)), (iX0_part _ (List.mem_of_getElem? (i := 16) rfl))⟩ (ctX5_wantedFrom hj (obf_1_0 (obf_0_0 o_x0)) ec) ⟨Nat.le_of_ble_eq_true rfl, Nat.le_of_ble_eq_true rfl⟩ rfl rfl (Nat.le_of_ble_eq_true rfl) rfl ?_
  refine z_iload_n B 57 rfl 3 0 rfl rfl ?_
  refine z_isub B 58 rfl ?_
  obtain ⟨r8, ec, hf⟩ := bd_e hf
  refine z_callN [.ref (x0 + 22), .int x1, .int (r7 - r6.1)] [] [] X B 59 rfl miX6_put ⟨List.mem_of_getElem? (i := 12) rfl, (iX0_part _ (List.mem_of_getElem? (i := 17) rfl))⟩ (ctX6_put hj (obf_0_3 o_x0) ec) ⟨Nat.le_of_ble_eq_true rfl, Nat.le_of_ble_eq_true rfl⟩ rfl rfl (Nat.le_of_ble_eq_true rfl) rfl ?_
  cases hf
  exact z_vret B 60 rfl hQ hr
def f0_part (mm : Mem) (a0 : Nat) (a1 : Int32) : Option Mem := bd (f6_at mm (a0 + 20) a1) (fun r1 => if r1 = (mm a0 10) then f0_part_j44 a0 a1 r1 mm else bd (f0_fillLevels mm a0 a1 r1 (a0 + 27)) (fun r9 => bd (f0_fillLevels r9 a0 a1 (r1 + (1 : Int32)) (a0 + 28)) (fun r10 => nm (up2 r10 a0 10 r1) (fun m11 => f0_part_j44 a0 a1 r1 m11))))
theorem ctX0_part {l : Launch} {C : Cfg} (hj : Dj C) {mm : Mem} {a0 : Nat} {a1 : Int32} {x : Mem} (o_a0 : Ob a0 0) (hf : f0_part mm a0 a1 = some x) : Ct l C yX0_part cX0_part 4 none 3 78 [.ref a0, .int a1] mm none x := by
  refine Ct.of (tb := tbX0_part) hj miX0_part.2.1 miX0_part.1 dtX0_part (Nat.le_of_ble_eq_true rfl) ?_
  intro E B hQ hr X
  unfold f0_part at hf
  show G E 4 0 [(0, .ref a0), (1, .int a1)] [] mm
  refine z_aload_n B 0 rfl 0 0 rfl rfl ?_
  refine z_getr 0 1 a0 B 1 rfl o_a0 rfl (iX0_part _ (List.mem_of_getElem? (i := 0) rfl)) rfl ?_
  refine z_iload_n B 2 rfl 1 1 rfl rfl ?_
  obtain ⟨r1, ec, hf⟩ := bd_e hf
  refine z_callN [.ref (a0 + 20), .int a1] [] [.int r1] X B 3 rfl miX6_at ⟨List.mem_of_getElem? (i := 13) rfl, (iX0_part _ (List.mem_of_getElem? (i := 1) rfl))⟩ (ctX6_at hj (obf_0_1 o_a0) ec) ⟨Nat.le_of_ble_eq_true rfl, Nat.le_of_ble_eq_true rfl⟩ rfl rfl (Nat.le_of_ble_eq_true rfl) rfl ?_
  refine z_istore_n [(2, .int r1), (0, .ref a0), (1, .int a1)] B 4 rfl 2 rfl (by decide) rfl ?_
  refine z_iload_n B 5 rfl 2 0 rfl rfl ?_
  refine z_aload_n B 6 rfl 0 1 rfl rfl ?_
  refine z_geti 0 10 a0 B 7 rfl o_a0 rfl (iX0_part _ (List.mem_of_getElem? (i := 2) rfl)) rfl ?_
  by_cases hc : r1 = (mm a0 10)
  · replace hf := (if_pos hc).symm.trans hf
    refine z_icmp_eq_t B 8 rfl 44 (by decide) hc ?_
    refine z_sub [(0, .ref a0), (1, .int a1), (2, .int r1)] [1, 2, 0] rfl ?_
    exact f0_part_j44_ok hj X B hQ hr _ _ _ _ o_a0  hf
  · replace hf := (if_neg hc).symm.trans hf
    refine z_icmp_eq_f B 8 rfl 44 (by decide) hc ?_
    refine z_aload_n B 9 rfl 0 1 rfl rfl ?_
    refine z_iload_n B 10 rfl 1 2 rfl rfl ?_
    refine z_iload_n B 11 rfl 2 0 rfl rfl ?_
    refine z_aload_n B 12 rfl 0 1 rfl rfl ?_
    refine z_getr 0 8 a0 B 13 rfl o_a0 rfl (iX0_part _ (List.mem_of_getElem? (i := 4) rfl)) rfl ?_
    obtain ⟨r9, ec, hf⟩ := bd_e hf
    refine z_callV a0 0 [.int a1, .int r1, .ref (a0 + 27)] [] [] X B 14 rfl (by decide) o_a0 rfl rfl miX0_fillLevels ⟨(iX0_part _ (List.mem_of_getElem? (i := 18) rfl)), (iX0_part _ (List.mem_of_getElem? (i := 19) rfl)), (iX0_part _ (List.mem_of_getElem? (i := 20) rfl))⟩ (ctX0_fillLevels hj o_a0 (obf_0_8 o_a0) ec) ⟨Nat.le_of_ble_eq_true rfl, Nat.le_of_ble_eq_true rfl⟩ rfl rfl (Nat.le_of_ble_eq_true rfl) rfl ?_
    refine z_aload_n B 15 rfl 0 1 rfl rfl ?_
    refine z_iload_n B 16 rfl 1 2 rfl rfl ?_
    refine z_iload_n B 17 rfl 2 0 rfl rfl ?_
    refine z_iconst 1 B 18 rfl (by decide) ?_
    refine z_iadd B 19 rfl ?_
    refine z_aload_n B 20 rfl 0 1 rfl rfl ?_
    refine z_getr 0 9 a0 B 21 rfl o_a0 rfl (iX0_part _ (List.mem_of_getElem? (i := 21) rfl)) rfl ?_
    obtain ⟨r10, ec, hf⟩ := bd_e hf
    refine z_callV a0 0 [.int a1, .int (r1 + (1 : Int32)), .ref (a0 + 28)] [] [] X B 22 rfl (by decide) o_a0 rfl rfl miX0_fillLevels ⟨(iX0_part _ (List.mem_of_getElem? (i := 18) rfl)), (iX0_part _ (List.mem_of_getElem? (i := 19) rfl)), (iX0_part _ (List.mem_of_getElem? (i := 20) rfl))⟩ (ctX0_fillLevels hj o_a0 (obf_0_9 o_a0) ec) ⟨Nat.le_of_ble_eq_true rfl, Nat.le_of_ble_eq_true rfl⟩ rfl rfl (Nat.le_of_ble_eq_true rfl) rfl ?_
    refine z_aload_n B 23 rfl 0 1 rfl rfl ?_
    refine z_iload_n B 24 rfl 2 0 rfl rfl ?_
    refine z_puti 0 10 a0 B 25 rfl o_a0 rfl (iX0_part _ (List.mem_of_getElem? (i := 2) rfl)) rfl (ty := .int) (by decide) rfl rfl rfl ?_
    obtain ⟨m11, ex, hf⟩ := nm_x hf
    refine z_mem ex ?_
    refine z_sub [(0, .ref a0), (1, .int a1), (2, .int r1)] [1, 2, 0] rfl ?_
    exact f0_part_j44_ok hj X B hQ hr _ _ _ _ o_a0  hf
