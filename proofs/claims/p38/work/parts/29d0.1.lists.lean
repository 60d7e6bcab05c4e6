/-! ZoneCapacityLaw$Draws.<init>(I)V -/
def tbX7_init : Tb := [(0, .aload_n 0, 1, 1), (1, .invokespecial 1, 3, 4), (4, .aload_n 0, 1, 5), (5, .iload_n 1, 1, 6), (6, .putfield 7, 3, 9), (9, .return_, 1, 10)]
theorem dtX7_init : ∀ q ∈ tbX7_init, decode cX7_init q.1 = .ok (q.2.1, q.2.2.1) ∧ q.1 + q.2.2.1 = q.2.2.2 := by decide +kernel
theorem miX7_init : MI yX7_init cX7_init 2 none 1 := ⟨tw_mem (List.mem_of_getElem? (i := 441) (by decide +kernel)) rfl, by decide, by decide +kernel, tw_mem (List.mem_of_getElem? (i := 36) (by decide +kernel)) rfl⟩
abbrev rmFX7_init : Nat := 1
abbrev rmLX7_init : Nat := 32
def wX7_init : List Cond := [.methodLink "ZoneCapacityLaw$Draws" 1 Lib.objectInit, .instanceMethod Lib.objectInit, .code Lib.objectInit ⟨#[0xb1]⟩ 1 none, .fieldLink "ZoneCapacityLaw$Draws" 7 "ZoneCapacityLaw$Draws" "x" "I"]
theorem iX7_init : ∀ w ∈ wX7_init, w ∈ TW := tw_of (ids := [442, 48, 49, 443]) (by decide +kernel)
def bX7_init (A : AS) (dm : DM) (a0 : Nat) (a1 : Int32) : Option (DM) := gkd A a0 7 (nm (up3 dm a0 0 (.int a1)) (fun m1 => some (m1)))
theorem ctX7_init {l : Launch} {K : KF} {mm : Mem} {A : AS} {dm : DM} {a0 : Nat} {a1 : Int32} {x : DM} (hf : bX7_init A dm a0 a1 = some x) : Ct2 l K yX7_init cX7_init 2 none 1 32 [.ref a0, .int a1] mm A dm none mm A x := by
  refine Ct2.of (tb := tbX7_init) miX7_init.2.1 miX7_init.1 dtX7_init (Nat.le_of_ble_eq_true rfl) ?_
  intro E B hQ hr X hI hcd
  have hI := hI rfl
  clear hcd
  unfold bX7_init at hf
  show G2 E 2 0 [(0, .ref a0), (1, .int a1)] [] mm A dm
  refine w_aload_n B 0 rfl 0 0 rfl rfl ?_
  refine w_obj X B 1 rfl ⟨(iX7_init _ (List.mem_of_getElem? (i := 0) rfl)), (iX7_init _ (List.mem_of_getElem? (i := 1) rfl)), (iX7_init _ (List.mem_of_getElem? (i := 2) rfl))⟩ ⟨Nat.le_of_ble_eq_true rfl, Nat.le_of_ble_eq_true rfl⟩ (Nat.le_of_ble_eq_true rfl) ?_
  refine w_aload_n B 2 rfl 0 0 rfl rfl ?_
  refine w_iload_n B 3 rfl 1 1 rfl rfl ?_
  obtain ⟨hk, hf⟩ := gkd_e hf
  refine w_puti B 4 rfl 7 0 a0 (by decide) hk rfl (iX7_init _ (List.mem_of_getElem? (i := 3) rfl)) (Or.inl rfl) rfl (ty := .int) (by decide) ⟨rfl, rfl⟩ ?_
  obtain ⟨m1, ex, hf⟩ := nm_x hf
  refine w_dmm ex ?_
  cases hf
  exact w_vret B 5 rfl hQ hr
/-! ZoneCapacityLaw$Draws.next(I)I -/
def tbX7_next : Tb := [(0, .aload_n 0, 1, 1), (1, .aload_n 0, 1, 2), (2, .getfield 7, 3, 5), (5, .ldc 13, 2, 7), (7, .imul, 1, 8), (8, .sipush 12345, 3, 11), (11, .iadd, 1, 12), (12, .putfield 7, 3, 15), (15, .aload_n 0, 1, 16), (16, .getfield 7, 3, 19), (19, .bipush 16, 2, 21), (21, .iushr, 1, 22), (22, .iload_n 1, 1, 23), (23, .irem, 1, 24), (24, .ireturn, 1, 25)]
theorem dtX7_next : ∀ q ∈ tbX7_next, decode cX7_next q.1 = .ok (q.2.1, q.2.2.1) ∧ q.1 + q.2.2.1 = q.2.2.2 := by decide +kernel
theorem miX7_next : MI yX7_next cX7_next 2 (some .int) 1 := ⟨tw_mem (List.mem_of_getElem? (i := 450) (by decide +kernel)) rfl, by decide, by decide +kernel, tw_mem (List.mem_of_getElem? (i := 36) (by decide +kernel)) rfl⟩
abbrev rmFX7_next : Nat := 0
abbrev rmLX7_next : Nat := 0
def wX7_next : List Cond := [.fieldLink "ZoneCapacityLaw$Draws" 7 "ZoneCapacityLaw$Draws" "x" "I", .constant "ZoneCapacityLaw$Draws" 13 (1103515245)]
theorem iX7_next : ∀ w ∈ wX7_next, w ∈ TW := tw_of (ids := [443, 451]) (by decide +kernel)
def bX7_next (A : AS) (dm : DM) (a0 : Nat) (a1 : Int32) : Option (Int32 × DM) := gkd A a0 7 (gti (dm a0 0) (fun v1 => gkd A a0 7 (nm (up3 dm a0 0 (.int ((v1 * (1103515245 : Int32)) + (12345 : Int32)))) (fun m2 => gkd A a0 7 (gti (m2 a0 0) (fun v3 => dvz a1 (some (((v3.toUInt32 >>> ((16 : Int32).toUInt32 &&& Int32.toUInt32 31)).toInt32) - ((v3.toUInt32 >>> ((16 : Int32).toUInt32 &&& Int32.toUInt32 31)).toInt32) / a1 * a1, m2))))))))
theorem ctX7_next {l : Launch} {K : KF} {mm : Mem} {A : AS} {dm : DM} {a0 : Nat} {a1 : Int32} {x : Int32 × DM} (hf : bX7_next A dm a0 a1 = some x) : Ct2 l K yX7_next cX7_next 2 (some .int) 0 0 [.ref a0, .int a1] mm A dm (some (.int x.1)) mm A x.2 := by
  refine Ct2.of (tb := tbX7_next) miX7_next.2.1 miX7_next.1 dtX7_next (Nat.le_of_ble_eq_true rfl) ?_
  intro E B hQ hr X hI hcd
  clear hI
  clear hcd
  unfold bX7_next at hf
  show G2 E 2 0 [(0, .ref a0), (1, .int a1)] [] mm A dm
  refine w_aload_n B 0 rfl 0 0 rfl rfl ?_
  refine w_aload_n B 1 rfl 0 0 rfl rfl ?_
  obtain ⟨hk, hf⟩ := gkd_e hf
  obtain ⟨v1, ex, hf⟩ := gti_e hf
  refine w_geti B 2 rfl 7 0 a0 (by decide) hk rfl (iX7_next _ (List.mem_of_getElem? (i := 0) rfl)) (Or.inl rfl) ex ?_
  refine w_ldc 1103515245 B 3 rfl (iX7_next _ (List.mem_of_getElem? (i := 1) rfl)) ?_
  refine w_imul B 4 rfl ?_
  refine w_sipush 12345 B 5 rfl (by decide) ?_
  refine w_iadd B 6 rfl ?_
  obtain ⟨hk, hf⟩ := gkd_e hf
  refine w_puti B 7 rfl 7 0 a0 (by decide) hk rfl (iX7_next _ (List.mem_of_getElem? (i := 0) rfl)) (Or.inl rfl) rfl (ty := .int) (by decide) ⟨rfl, rfl⟩ ?_
  obtain ⟨m2, ex, hf⟩ := nm_x hf
  refine w_dmm ex ?_
  refine w_aload_n B 8 rfl 0 0 rfl rfl ?_
  obtain ⟨hk, hf⟩ := gkd_e hf
  obtain ⟨v3, ex, hf⟩ := gti_e hf
  refine w_geti B 9 rfl 7 0 a0 (by decide) hk rfl (iX7_next _ (List.mem_of_getElem? (i := 0) rfl)) (Or.inl rfl) ex ?_
  refine w_bipush 16 B 10 rfl (by decide) ?_
  refine w_iushr B 11 rfl ?_
  refine w_iload_n B 12 rfl 1 1 rfl rfl ?_
  obtain ⟨hz, hf⟩ := dvz_e hf
  refine w_irem B 13 rfl hz ?_
  cases hf
  exact w_iret B 14 rfl rfl hQ hr
/-! java/util/AbstractCollection.<init>()V -/
def tbAC_init : Tb := [(0, .aload_n 0, 1, 1), (1, .invokespecial 1, 3, 4), (4, .return_, 1, 5)]
theorem dtAC_init : ∀ q ∈ tbAC_init, decode cJxa1e45_init_da8c8 q.1 = .ok (q.2.1, q.2.2.1) ∧ q.1 + q.2.2.1 = q.2.2.2 := by decide +kernel
theorem miAC_init : MI yJxa1e45_init_da8c8 cJxa1e45_init_da8c8 1 none 0 := ⟨tw_mem (List.mem_of_getElem? (i := 468) (by decide +kernel)) rfl, by decide, by decide +kernel, tw_mem (List.mem_of_getElem? (i := 22) (by decide +kernel)) rfl⟩
abbrev rmFAC_init : Nat := 1
abbrev rmLAC_init : Nat := 32
def wAC_init : List Cond := [.methodLink "java/util/AbstractCollection" 1 Lib.objectInit, .instanceMethod Lib.objectInit, .code Lib.objectInit ⟨#[0xb1]⟩ 1 none]
theorem iAC_init : ∀ w ∈ wAC_init, w ∈ TW := tw_of (ids := [469, 48, 49]) (by decide +kernel)
def bAC_init (A : AS) (dm : DM) (a0 : Nat) : Option (Unit) := some ()
theorem ctAC_init {l : Launch} {K : KF} {mm : Mem} {A : AS} {dm : DM} {a0 : Nat} {x : Unit} (hf : bAC_init A dm a0 = some x) : Ct2 l K yJxa1e45_init_da8c8 cJxa1e45_init_da8c8 1 none 1 32 [.ref a0] mm A dm none mm A dm := by
  refine Ct2.of (tb := tbAC_init) miAC_init.2.1 miAC_init.1 dtAC_init (Nat.le_of_ble_eq_true rfl) ?_
  intro E B hQ hr X hI hcd
  have hI := hI rfl
  clear hcd
  unfold bAC_init at hf
  show G2 E 1 0 [(0, .ref a0)] [] mm A dm
  refine w_aload_n B 0 rfl 0 0 rfl rfl ?_
  refine w_obj X B 1 rfl ⟨(iAC_init _ (List.mem_of_getElem? (i := 0) rfl)), (iAC_init _ (List.mem_of_getElem? (i := 1) rfl)), (iAC_init _ (List.mem_of_getElem? (i := 2) rfl))⟩ ⟨Nat.le_of_ble_eq_true rfl, Nat.le_of_ble_eq_true rfl⟩ (Nat.le_of_ble_eq_true rfl) ?_
  cases hf
  exact w_vret B 2 rfl hQ hr
/-! java/util/AbstractList.<init>()V -/
def tbAB_init : Tb := [(0, .aload_n 0, 1, 1), (1, .invokespecial 1, 3, 4), (4, .aload_n 0, 1, 5), (5, .iconst 0, 1, 6), (6, .putfield 7, 3, 9), (9, .return_, 1, 10)]
theorem dtAB_init : ∀ q ∈ tbAB_init, decode cJxc12de_init_da8c8 q.1 = .ok (q.2.1, q.2.2.1) ∧ q.1 + q.2.2.1 = q.2.2.2 := by decide +kernel
theorem miAB_init : MI yJxc12de_init_da8c8 cJxc12de_init_da8c8 1 none 0 := ⟨tw_mem (List.mem_of_getElem? (i := 465) (by decide +kernel)) rfl, by decide, by decide +kernel, tw_mem (List.mem_of_getElem? (i := 23) (by decide +kernel)) rfl⟩
abbrev rmFAB_init : Nat := 2
abbrev rmLAB_init : Nat := 52
def wAB_init : List Cond := [.methodLink "java/util/AbstractList" 1 yJxa1e45_init_da8c8, .instanceMethod yJxa1e45_init_da8c8, .fieldLink "java/util/AbstractList" 7 "java/util/AbstractList" "modCount" "I"]
theorem iAB_init : ∀ w ∈ wAB_init, w ∈ TW := tw_of (ids := [466, 467, 476]) (by decide +kernel)
def bAB_init (A : AS) (dm : DM) (a0 : Nat) : Option (DM) := bd (bAC_init A dm a0) (fun r1 => gkd A a0 9 (nm (up3 dm a0 0 (.int (0 : Int32))) (fun m2 => some (m2))))
theorem ctAB_init {l : Launch} {K : KF} {mm : Mem} {A : AS} {dm : DM} {a0 : Nat} {x : DM} (hf : bAB_init A dm a0 = some x) : Ct2 l K yJxc12de_init_da8c8 cJxc12de_init_da8c8 1 none 2 52 [.ref a0] mm A dm none mm A x := by
  refine Ct2.of (tb := tbAB_init) miAB_init.2.1 miAB_init.1 dtAB_init (Nat.le_of_ble_eq_true rfl) ?_
  intro E B hQ hr X hI hcd
  have hI := hI rfl
  clear hcd
  unfold bAB_init at hf
  show G2 E 1 0 [(0, .ref a0)] [] mm A dm
  refine w_aload_n B 0 rfl 0 0 rfl rfl ?_
  obtain ⟨r1, ec, hf⟩ := bd_e hf
  refine w_callI a0 [] [] [] X B 1 rfl miAC_init ⟨(iAB_init _ (List.mem_of_getElem? (i := 0) rfl)), (iAB_init _ (List.mem_of_getElem? (i := 1) rfl)), rfl⟩ (ctAC_init ec) (Or.inl ⟨rfl, rfl⟩) ⟨Nat.le_of_ble_eq_true rfl, Nat.le_of_ble_eq_true rfl⟩ rfl rfl (Nat.le_of_ble_eq_true rfl) rfl ?_
  refine w_aload_n B 2 rfl 0 0 rfl rfl ?_
  refine w_iconst 0 B 3 rfl (by decide) ?_
  obtain ⟨hk, hf⟩ := gkd_e hf
  refine w_puti B 4 rfl 9 0 a0 (by decide) hk rfl (iAB_init _ (List.mem_of_getElem? (i := 2) rfl)) (Or.inl rfl) rfl (ty := .int) (by decide) ⟨rfl, rfl⟩ ?_
  obtain ⟨m2, ex, hf⟩ := nm_x hf
  refine w_dmm ex ?_
  cases hf
  exact w_vret B 5 rfl hQ hr
/-! java/util/ArrayList.<init>()V -/
def tbAL_init : Tb := [(0, .aload_n 0, 1, 1), (1, .invokespecial 1, 3, 4), (4, .aload_n 0, 1, 5), (5, .getstatic 39, 3, 8), (8, .putfield 9, 3, 11), (11, .return_, 1, 12)]
theorem dtAL_init : ∀ q ∈ tbAL_init, decode cJx4a65c_init_da8c8 q.1 = .ok (q.2.1, q.2.2.1) ∧ q.1 + q.2.2.1 = q.2.2.2 := by decide +kernel
theorem miAL_init : MI yJx4a65c_init_da8c8 cJx4a65c_init_da8c8 1 none 0 := ⟨tw_mem (List.mem_of_getElem? (i := 462) (by decide +kernel)) rfl, by decide, by decide +kernel, tw_mem (List.mem_of_getElem? (i := 24) (by decide +kernel)) rfl⟩
abbrev rmFAL_init : Nat := 3
abbrev rmLAL_init : Nat := 72
def wAL_init : List Cond := [.methodLink "java/util/ArrayList" 1 yJxc12de_init_da8c8, .instanceMethod yJxc12de_init_da8c8, .fieldLink "java/util/ArrayList" 39 "java/util/ArrayList" "DEFAULTCAPACITY_EMPTY_ELEMENTDATA" "[Ljava/lang/Object;", .fieldLink "java/util/ArrayList" 9 "java/util/ArrayList" "elementData" "[Ljava/lang/Object;"]
theorem iAL_init : ∀ w ∈ wAL_init, w ∈ TW := tw_of (ids := [463, 464, 470, 472]) (by decide +kernel)
def bAL_init (A : AS) (dm : DM) (a0 : Nat) : Option (DM) := bd (bAB_init A dm a0) (fun r1 => gkd A a0 9 (nm (up3 r1 a0 1 (.ref 0)) (fun m2 => some (m2))))
theorem ctAL_init {l : Launch} {K : KF} {mm : Mem} {A : AS} {dm : DM} {a0 : Nat} {x : DM} (hf : bAL_init A dm a0 = some x) : Ct2 l K yJx4a65c_init_da8c8 cJx4a65c_init_da8c8 1 none 3 72 [.ref a0] mm A dm none mm A x := by
  refine Ct2.of (tb := tbAL_init) miAL_init.2.1 miAL_init.1 dtAL_init (Nat.le_of_ble_eq_true rfl) ?_
  intro E B hQ hr X hI hcd
  have hI := hI rfl
  clear hcd
  unfold bAL_init at hf
  show G2 E 1 0 [(0, .ref a0)] [] mm A dm
  refine w_aload_n B 0 rfl 0 0 rfl rfl ?_
  obtain ⟨r1, ec, hf⟩ := bd_e hf
  refine w_callI a0 [] [] [] X B 1 rfl miAB_init ⟨(iAL_init _ (List.mem_of_getElem? (i := 0) rfl)), (iAL_init _ (List.mem_of_getElem? (i := 1) rfl)), rfl⟩ (ctAB_init ec) (Or.inl ⟨rfl, rfl⟩) ⟨Nat.le_of_ble_eq_true rfl, Nat.le_of_ble_eq_true rfl⟩ rfl rfl (Nat.le_of_ble_eq_true rfl) rfl ?_
  refine w_aload_n B 2 rfl 0 0 rfl rfl ?_
  refine w_empty B 3 rfl (iAL_init _ (List.mem_of_getElem? (i := 2) rfl)) ?_
  obtain ⟨hk, hf⟩ := gkd_e hf
  refine w_putr B 4 rfl 9 1 a0 (by decide) hk rfl (iAL_init _ (List.mem_of_getElem? (i := 3) rfl)) (Or.inl rfl) rfl (ty := (.array (.object "java/lang/Object"))) (by decide) (fun _ => ⟨rfl, rfl⟩) ?_
  obtain ⟨m2, ex, hf⟩ := nm_x hf
  refine w_dmm ex ?_
  cases hf
  exact w_vret B 5 rfl hQ hr
/-! java/util/ArrayList.grow(I)[Ljava/lang/Object; -/
def tbAL_grow1 : Tb := [(0, .aload_n 0, 1, 1), (1, .getfield 9, 3, 4), (4, .arraylength, 1, 5), (5, .istore_n 2, 1, 6), (6, .iload_n 2, 1, 7), (7, .ifCond .gt 13, 3, 10), (10, .aload_n 0, 1, 11), (11, .getfield 9, 3, 14), (14, .getstatic 39, 3, 17), (17, .if_acmp .eq 28, 3, 20), (20, .iload_n 2, 1, 21), (21, .iload_n 1, 1, 22), (22, .iload_n 2, 1, 23), (23, .isub, 1, 24), (24, .iload_n 2, 1, 25), (25, .iconst 1, 1, 26), (26, .ishr, 1, 27), (27, .invokestatic 73, 3, 30), (30, .istore_n 3, 1, 31), (31, .aload_n 0, 1, 32), (32, .aload_n 0, 1, 33), (33, .getfield 9, 3, 36), (36, .iload_n 3, 1, 37), (37, .invokestatic 66, 3, 40), (40, .dup_x1, 1, 41), (41, .putfield 9, 3, 44), (44, .areturn, 1, 45), (45, .aload_n 0, 1, 46), (46, .bipush 10, 2, 48), (48, .iload_n 1, 1, 49), (49, .invokestatic 79, 3, 52), (52, .anewarray 7, 3, 55), (55, .dup_x1, 1, 56), (56, .putfield 9, 3, 59), (59, .areturn, 1, 60)]
theorem dtAL_grow1 : ∀ q ∈ tbAL_grow1, decode cJx4a65c_grow_92f84 q.1 = .ok (q.2.1, q.2.2.1) ∧ q.1 + q.2.2.1 = q.2.2.2 := by decide +kernel
theorem miAL_grow1 : MI yJx4a65c_grow_92f84 cJx4a65c_grow_92f84 4 (some (.array (.object "java/lang/Object"))) 1 := ⟨tw_mem (List.mem_of_getElem? (i := 502) (by decide +kernel)) rfl, by decide, by decide +kernel, tw_mem (List.mem_of_getElem? (i := 24) (by decide +kernel)) rfl⟩
abbrev rmFAL_grow1 : Nat := 1
abbrev rmLAL_grow1 : Nat := 21
def wAL_grow1 : List Cond := [.fieldLink "java/util/ArrayList" 9 "java/util/ArrayList" "elementData" "[Ljava/lang/Object;", .fieldLink "java/util/ArrayList" 39 "java/util/ArrayList" "DEFAULTCAPACITY_EMPTY_ELEMENTDATA" "[Ljava/lang/Object;", .methodLink "java/util/ArrayList" 79 Lib.Math.max.name, .static Lib.Math.max.name, .initialized "java/lang/Math", .code Lib.Math.max.name Lib.Math.max.code 2 (some .int), .classLink "java/util/ArrayList" 7 "java/lang/Object"]
theorem iAL_grow1 : ∀ w ∈ wAL_grow1, w ∈ TW := tw_of (ids := [472, 470, 540, 354, 26, 355, 541]) (by decide +kernel)
def bAL_grow1_j20 (x1 : Int32) (x2 : Int32) (A : AS) (dm : DM) : Option (Nat × AS × DM) := none
theorem bAL_grow1_j20_ok {E : Ev2} {l : Launch} {K : KF} {mm : Mem} {x : Nat × AS × DM} (X : Ec2 E l K rmFAL_grow1 rmLAL_grow1) (B : Bx2 E RJx4a65c tbAL_grow1 4 (some (.array (.object "java/lang/Object")))) (hQ : Rt2 E) (hr : Rs2 E (some (.ref x.1)) mm x.2.1 x.2.2) (x1 : Int32) (x2 : Int32) (A : AS) (dm : DM) (hf : bAL_grow1_j20 x1 x2 A dm = some x) : G2 E 4 20 [(1, .int x1), (2, .int x2)] [] mm A dm := by
  unfold bAL_grow1_j20 at hf
  refine w_iload_n B 10 rfl 2 1 rfl rfl ?_
  refine w_iload_n B 11 rfl 1 0 rfl rfl ?_
  refine w_iload_n B 12 rfl 2 1 rfl rfl ?_
  refine w_isub B 13 rfl ?_
  refine w_iload_n B 14 rfl 2 1 rfl rfl ?_
  refine w_iconst 1 B 15 rfl (by decide) ?_
  refine w_ishr B 16 rfl ?_
  cases hf
def bAL_grow1 (A : AS) (dm : DM) (a0 : Nat) (a1 : Int32) : Option (Nat × AS × DM) := gkd A a0 9 (gtr (dm a0 1) (fun q1 => gal A q1 (nm (nI (lenA A q1)) (fun v2 => if 0 < v2 then bAL_grow1_j20 a1 v2 A dm else gkd A a0 9 (gtr (dm a0 1) (fun q3 => if q3 = 0 then nm (mxi (10 : Int32) a1) (fun v4 => gnn v4 (alc (fun (x : Nat × AS × DM) => x.2.1) A dm 21 v4.toNatClampNeg v4.toNatClampNeg (fun _ => .null) (fun q5 A6 m7 => gkd A6 a0 9 (nm (up3 m7 a0 1 (.ref q5)) (fun m8 => some (q5, A6, m8)))))) else bAL_grow1_j20 a1 v2 A dm))))))
theorem ctAL_grow1 {l : Launch} {K : KF} {mm : Mem} {A : AS} {dm : DM} {a0 : Nat} {a1 : Int32} {x : Nat × AS × DM} (hf : bAL_grow1 A dm a0 a1 = some x) : Ct2 l K yJx4a65c_grow_92f84 cJx4a65c_grow_92f84 4 (some (.array (.object "java/lang/Object"))) 1 21 [.ref a0, .int a1] mm A dm (some (.ref x.1)) mm x.2.1 x.2.2 := by
  refine Ct2.of (tb := tbAL_grow1) miAL_grow1.2.1 miAL_grow1.1 dtAL_grow1 (Nat.le_of_ble_eq_true rfl) ?_
  intro E B hQ hr X hI hcd
  clear hI
  clear hcd
  unfold bAL_grow1 at hf
  show G2 E 4 0 [(0, .ref a0), (1, .int a1)] [] mm A dm
  refine w_aload_n B 0 rfl 0 0 rfl rfl ?_
  obtain ⟨hk, hf⟩ := gkd_e hf
  obtain ⟨q1, ex, hf⟩ := gtr_e hf
  refine w_getr B 1 rfl 9 1 a0 (by decide) hk rfl (iAL_grow1 _ (List.mem_of_getElem? (i := 0) rfl)) (Or.inl rfl) ex ?_
  obtain ⟨hk, hf⟩ := gal_e hf
  refine w_alen B 2 rfl hk ?_
  obtain ⟨v2, ex, hf⟩ := nm_x hf
  refine w_top ex ?_
  refine w_istore_n [(2, .int v2), (0, .ref a0), (1, .int a1)] B 3 rfl 2 rfl (by decide) rfl ?_
  refine w_iload_n B 4 rfl 2 0 rfl rfl ?_
  by_cases hc : 0 < v2
  · replace hf := (if_pos hc).symm.trans hf
    refine w_if_gt_t B 5 rfl 20 (by decide) hc ?_
    refine w_sub [(1, .int a1), (2, .int v2)] [2, 0] rfl ?_
    exact bAL_grow1_j20_ok X B hQ hr _ _ _ _ hf
  · replace hf := (if_neg hc).symm.trans hf
    refine w_if_gt_f B 5 rfl 20 (by decide) hc ?_
    refine w_aload_n B 6 rfl 0 1 rfl rfl ?_
    obtain ⟨hk, hf⟩ := gkd_e hf
    obtain ⟨q3, ex, hf⟩ := gtr_e hf
    refine w_getr B 7 rfl 9 1 a0 (by decide) hk rfl (iAL_grow1 _ (List.mem_of_getElem? (i := 0) rfl)) (Or.inl rfl) ex ?_
    refine w_empty B 8 rfl (iAL_grow1 _ (List.mem_of_getElem? (i := 1) rfl)) ?_
    by_cases hc : q3 = 0
    · replace hf := (if_pos hc).symm.trans hf
      refine w_acmp_eq_t B 9 rfl 45 (by decide) hc ?_
      refine w_aload_n B 27 rfl 0 1 rfl rfl ?_
      refine w_bipush 10 B 28 rfl (by decide) ?_
      refine w_iload_n B 29 rfl 1 2 rfl rfl ?_
      refine w_mmax X B 30 rfl ⟨(iAL_grow1 _ (List.mem_of_getElem? (i := 2) rfl)), (iAL_grow1 _ (List.mem_of_getElem? (i := 3) rfl)), (iAL_grow1 _ (List.mem_of_getElem? (i := 4) rfl)), (iAL_grow1 _ (List.mem_of_getElem? (i := 5) rfl))⟩ ⟨Nat.le_of_ble_eq_true rfl, Nat.le_of_ble_eq_true rfl⟩ (Nat.le_of_ble_eq_true rfl) ?_
      obtain ⟨v4, ex, hf⟩ := nm_x hf
      refine w_top ex ?_
      obtain ⟨hv, hf⟩ := gnn_e hf
      obtain ⟨q5, A6, m7, hq, hA, hM, hgd, hf⟩ := alc_e hf
      refine w_newR B 31 rfl hr hgd hq hA hM (iAL_grow1 _ (List.mem_of_getElem? (i := 6) rfl)) hv ?_
      refine w_dup_x1 B 32 rfl rfl rfl ?_
      obtain ⟨hk, hf⟩ := gkd_e hf
      refine w_putr B 33 rfl 9 1 a0 (by decide) hk rfl (iAL_grow1 _ (List.mem_of_getElem? (i := 0) rfl)) (Or.inl rfl) rfl (ty := (.array (.object "java/lang/Object"))) (by decide) (fun _ => ⟨rfl, rfl⟩) ?_
      obtain ⟨m8, ex, hf⟩ := nm_x hf
      refine w_dmm ex ?_
      cases hf
      exact w_aret B 34 rfl (Or.inr ⟨_, rfl⟩) hQ hr
    · replace hf := (if_neg hc).symm.trans hf
      refine w_acmp_eq_f B 9 rfl 45 (by decide) hc ?_
      refine w_sub [(1, .int a1), (2, .int v2)] [2, 0] rfl ?_
      exact bAL_grow1_j20_ok X B hQ hr _ _ _ _ hf
/-! java/util/ArrayList.grow()[Ljava/lang/Object; -/
def tbAL_grow : Tb := [(0, .aload_n 0, 1, 1), (1, .aload_n 0, 1, 2), (2, .getfield 48, 3, 5), (5, .iconst 1, 1, 6), (6, .iadd, 1, 7), (7, .invokevirtual 69, 3, 10), (10, .areturn, 1, 11)]
theorem dtAL_grow : ∀ q ∈ tbAL_grow, decode cJx4a65c_grow_d5877 q.1 = .ok (q.2.1, q.2.2.1) ∧ q.1 + q.2.2.1 = q.2.2.2 := by decide +kernel
theorem miAL_grow : MI yJx4a65c_grow_d5877 cJx4a65c_grow_d5877 1 (some (.array (.object "java/lang/Object"))) 0 := ⟨tw_mem (List.mem_of_getElem? (i := 498) (by decide +kernel)) rfl, by decide, by decide +kernel, tw_mem (List.mem_of_getElem? (i := 24) (by decide +kernel)) rfl⟩
abbrev rmFAL_grow : Nat := 2
abbrev rmLAL_grow : Nat := 44
def wAL_grow : List Cond := [.fieldLink "java/util/ArrayList" 48 "java/util/ArrayList" "size" "I", .methodLink "java/util/ArrayList" 69 yJx4a65c_grow_92f84, .instanceMethod yJx4a65c_grow_92f84, .selects "java/util/ArrayList" yJx4a65c_grow_92f84 yJx4a65c_grow_92f84]
theorem iAL_grow : ∀ w ∈ wAL_grow, w ∈ TW := tw_of (ids := [475, 499, 501, 10]) (by decide +kernel)
def bAL_grow (A : AS) (dm : DM) (a0 : Nat) : Option (Nat × AS × DM) := gkd A a0 9 (gti (dm a0 2) (fun v1 => gkd A a0 9 (bdg (fun (x : Nat × AS × DM) => x.2.1) A (bAL_grow1 A dm a0 (v1 + (1 : Int32))) (fun (x : Nat × AS × DM) => x.2.1) (fun r2 => some (r2.1, r2.2.1, r2.2.2)))))
theorem ctAL_grow {l : Launch} {K : KF} {mm : Mem} {A : AS} {dm : DM} {a0 : Nat} {x : Nat × AS × DM} (hf : bAL_grow A dm a0 = some x) : Ct2 l K yJx4a65c_grow_d5877 cJx4a65c_grow_d5877 1 (some (.array (.object "java/lang/Object"))) 2 44 [.ref a0] mm A dm (some (.ref x.1)) mm x.2.1 x.2.2 := by
  refine Ct2.of (tb := tbAL_grow) miAL_grow.2.1 miAL_grow.1 dtAL_grow (Nat.le_of_ble_eq_true rfl) ?_
  intro E B hQ hr X hI hcd
  clear hI
  clear hcd
  unfold bAL_grow at hf
  show G2 E 1 0 [(0, .ref a0)] [] mm A dm
  refine w_aload_n B 0 rfl 0 0 rfl rfl ?_
  refine w_aload_n B 1 rfl 0 0 rfl rfl ?_
  obtain ⟨hk, hf⟩ := gkd_e hf
  obtain ⟨v1, ex, hf⟩ := gti_e hf
  refine w_geti B 2 rfl 9 2 a0 (by decide) hk rfl (iAL_grow _ (List.mem_of_getElem? (i := 0) rfl)) (Or.inl rfl) ex ?_
  refine w_iconst 1 B 3 rfl (by decide) ?_
  refine w_iadd B 4 rfl ?_
  obtain ⟨hk, hf⟩ := gkd_e hf
  obtain ⟨r2, ec, hgd, hf⟩ := bdg_e hf
  refine w_callV a0 [.int (v1 + (1 : Int32))] [] [.ref r2.1] X B 5 rfl miAL_grow1 9 (by decide) hk rfl rfl ⟨(iAL_grow _ (List.mem_of_getElem? (i := 1) rfl)), (iAL_grow _ (List.mem_of_getElem? (i := 2) rfl)), (iAL_grow _ (List.mem_of_getElem? (i := 3) rfl))⟩ (ctAL_grow1 ec) (Or.inr ⟨_, _, _, _, hr, hgd⟩) ⟨Nat.le_of_ble_eq_true rfl, Nat.le_of_ble_eq_true rfl⟩ rfl rfl (Nat.le_of_ble_eq_true rfl) rfl ?_
  cases hf
  exact w_aret B 6 rfl (Or.inr ⟨_, rfl⟩) hQ hr
/-! java/util/ArrayList.add(Ljava/lang/Object;[Ljava/lang/Object;I)V -/
def tbAL_add2 : Tb := [(0, .iload_n 3, 1, 1), (1, .aload_n 2, 1, 2), (2, .arraylength, 1, 3), (3, .if_icmp .ne 8, 3, 6), (6, .aload_n 0, 1, 7), (7, .invokevirtual 129, 3, 10), (10, .astore_n 2, 1, 11), (11, .aload_n 2, 1, 12), (12, .iload_n 3, 1, 13), (13, .aload_n 1, 1, 14), (14, .aastore, 1, 15), (15, .aload_n 0, 1, 16), (16, .iload_n 3, 1, 17), (17, .iconst 1, 1, 18), (18, .iadd, 1, 19), (19, .putfield 48, 3, 22), (22, .return_, 1, 23)]
theorem dtAL_add2 : ∀ q ∈ tbAL_add2, decode cJx4a65c_add_72be8 q.1 = .ok (q.2.1, q.2.2.1) ∧ q.1 + q.2.2.1 = q.2.2.2 := by decide +kernel
theorem miAL_add2 : MI yJx4a65c_add_72be8 cJx4a65c_add_72be8 4 none 3 := ⟨tw_mem (List.mem_of_getElem? (i := 494) (by decide +kernel)) rfl, by decide, by decide +kernel, tw_mem (List.mem_of_getElem? (i := 24) (by decide +kernel)) rfl⟩
abbrev rmFAL_add2 : Nat := 3
abbrev rmLAL_add2 : Nat := 64
def wAL_add2 : List Cond := [.fieldLink "java/util/ArrayList" 48 "java/util/ArrayList" "size" "I", .methodLink "java/util/ArrayList" 129 yJx4a65c_grow_d5877, .instanceMethod yJx4a65c_grow_d5877, .selects "java/util/ArrayList" yJx4a65c_grow_d5877 yJx4a65c_grow_d5877]
theorem iAL_add2 : ∀ w ∈ wAL_add2, w ∈ TW := tw_of (ids := [475, 495, 497, 9]) (by decide +kernel)
def bAL_add2_j11 (x0 : Nat) (x1 : Nat) (x2 : Nat) (x3 : Int32) (A : AS) (dm : DM) : Option (AS × DM) := gkd A x2 21 (gix A x2 x3 (gst A x1 (nm (up3 dm x2 x3.toNatClampNeg (.ref x1)) (fun m1 => gkd A x0 9 (nm (up3 m1 x0 2 (.int (x3 + (1 : Int32)))) (fun m2 => some (A, m2)))))))
theorem bAL_add2_j11_ok {E : Ev2} {l : Launch} {K : KF} {mm : Mem} {x : AS × DM} (X : Ec2 E l K rmFAL_add2 rmLAL_add2) (B : Bx2 E RJx4a65c tbAL_add2 4 none) (hQ : Rt2 E) (hr : Rs2 E none mm x.1 x.2) (x0 : Nat) (x1 : Nat) (x2 : Nat) (x3 : Int32) (A : AS) (dm : DM) (hf : bAL_add2_j11 x0 x1 x2 x3 A dm = some x) : G2 E 4 11 [(0, .ref x0), (1, .ref x1), (2, .ref x2), (3, .int x3)] [] mm A dm := by
  unfold bAL_add2_j11 at hf
  refine w_aload_n B 7 rfl 2 2 rfl rfl ?_
  refine w_iload_n B 8 rfl 3 3 rfl rfl ?_
  refine w_aload_n B 9 rfl 1 1 rfl rfl ?_
  obtain ⟨hk, hf⟩ := gkd_e hf
  obtain ⟨hx, hf⟩ := gix_e hf
  obtain ⟨hv, hf⟩ := gst_e hf
  refine w_rast B 10 rfl hk hx hv ?_
  obtain ⟨m1, ex, hf⟩ := nm_x hf
  refine w_dmm ex ?_
  refine w_aload_n B 11 rfl 0 0 rfl rfl ?_
  refine w_iload_n B 12 rfl 3 3 rfl rfl ?_
  refine w_iconst 1 B 13 rfl (by decide) ?_
  refine w_iadd B 14 rfl ?_
  obtain ⟨hk, hf⟩ := gkd_e hf
  refine w_puti B 15 rfl 9 2 x0 (by decide) hk rfl (iAL_add2 _ (List.mem_of_getElem? (i := 0) rfl)) (Or.inl rfl) rfl (ty := .int) (by decide) ⟨rfl, rfl⟩ ?_
  obtain ⟨m2, ex, hf⟩ := nm_x hf
  refine w_dmm ex ?_
  cases hf
  exact w_vret B 16 rfl hQ hr
def bAL_add2 (A : AS) (dm : DM) (a0 : Nat) (a1 : Nat) (a2 : Nat) (a3 : Int32) : Option (AS × DM) := gal A a2 (if a3 = (nI (lenA A a2)) then gkd A a0 9 (bdg (fun (x : AS × DM) => x.1) A (bAL_grow A dm a0) (fun (x : Nat × AS × DM) => x.2.1) (fun r3 => bAL_add2_j11 a0 a1 r3.1 a3 r3.2.1 r3.2.2)) else bAL_add2_j11 a0 a1 a2 a3 A dm)
theorem ctAL_add2 {l : Launch} {K : KF} {mm : Mem} {A : AS} {dm : DM} {a0 : Nat} {a1 : Nat} {a2 : Nat} {a3 : Int32} {x : AS × DM} (hf : bAL_add2 A dm a0 a1 a2 a3 = some x) : Ct2 l K yJx4a65c_add_72be8 cJx4a65c_add_72be8 4 none 3 64 [.ref a0, .ref a1, .ref a2, .int a3] mm A dm none mm x.1 x.2 := by
  refine Ct2.of (tb := tbAL_add2) miAL_add2.2.1 miAL_add2.1 dtAL_add2 (Nat.le_of_ble_eq_true rfl) ?_
  intro E B hQ hr X hI hcd
  clear hI
  clear hcd
  unfold bAL_add2 at hf
  show G2 E 4 0 [(0, .ref a0), (1, .ref a1), (2, .ref a2), (3, .int a3)] [] mm A dm
  refine w_iload_n B 0 rfl 3 3 rfl rfl ?_
  refine w_aload_n B 1 rfl 2 2 rfl rfl ?_
  obtain ⟨hk, hf⟩ := gal_e hf
  refine w_alen B 2 rfl hk ?_
  by_cases hc : a3 = (nI (lenA A a2))
  · replace hf := (if_pos hc).symm.trans hf
    refine w_icmp_ne_f B 3 rfl 11 (by decide) hc ?_
    refine w_aload_n B 4 rfl 0 0 rfl rfl ?_
    obtain ⟨hk, hf⟩ := gkd_e hf
    obtain ⟨r3, ec, hgd, hf⟩ := bdg_e hf
    refine w_callV a0 [] [] [.ref r3.1] X B 5 rfl miAL_grow 9 (by decide) hk rfl rfl ⟨(iAL_add2 _ (List.mem_of_getElem? (i := 1) rfl)), (iAL_add2 _ (List.mem_of_getElem? (i := 2) rfl)), (iAL_add2 _ (List.mem_of_getElem? (i := 3) rfl))⟩ (ctAL_grow ec) (Or.inr ⟨_, _, _, _, hr, hgd⟩) ⟨Nat.le_of_ble_eq_true rfl, Nat.le_of_ble_eq_true rfl⟩ rfl rfl (Nat.le_of_ble_eq_true rfl) rfl ?_
    refine w_astore_n [(2, .ref r3.1), (0, .ref a0), (1, .ref a1), (3, .int a3)] B 6 rfl 2 rfl (by decide) rfl ?_
    refine w_sub [(0, .ref a0), (1, .ref a1), (2, .ref r3.1), (3, .int a3)] [1, 2, 0, 3] rfl ?_
    exact bAL_add2_j11_ok X B hQ hr _ _ _ _ _ _ hf
  · replace hf := (if_neg hc).symm.trans hf
    refine w_icmp_ne_t B 3 rfl 11 (by decide) hc ?_
    exact bAL_add2_j11_ok X B hQ hr _ _ _ _ _ _ hf
/-! java/util/ArrayList.add(Ljava/lang/Object;)Z -/
def tbAL_add : Tb := [(0, .aload_n 0, 1, 1), (1, .dup, 1, 2), (2, .getfield 63, 3, 5), (5, .iconst 1, 1, 6), (6, .iadd, 1, 7), (7, .putfield 63, 3, 10), (10, .aload_n 0, 1, 11), (11, .aload_n 1, 1, 12), (12, .aload_n 0, 1, 13), (13, .getfield 9, 3, 16), (16, .aload_n 0, 1, 17), (17, .getfield 48, 3, 20), (20, .invokevirtual 131, 3, 23), (23, .iconst 1, 1, 24), (24, .ireturn, 1, 25)]
theorem dtAL_add : ∀ q ∈ tbAL_add, decode cJx4a65c_add_9ea2d q.1 = .ok (q.2.1, q.2.2.1) ∧ q.1 + q.2.2.1 = q.2.2.2 := by decide +kernel
theorem miAL_add : MI yJx4a65c_add_9ea2d cJx4a65c_add_9ea2d 2 (some .boolean) 1 := ⟨tw_mem (List.mem_of_getElem? (i := 490) (by decide +kernel)) rfl, by decide, by decide +kernel, tw_mem (List.mem_of_getElem? (i := 24) (by decide +kernel)) rfl⟩
abbrev rmFAL_add : Nat := 4
abbrev rmLAL_add : Nat := 87
def wAL_add : List Cond := [.fieldLink "java/util/ArrayList" 63 "java/util/ArrayList" "modCount" "I", .sameField "java/util/ArrayList" "java/util/AbstractList" "modCount" "I", .fieldLink "java/util/ArrayList" 9 "java/util/ArrayList" "elementData" "[Ljava/lang/Object;", .fieldLink "java/util/ArrayList" 48 "java/util/ArrayList" "size" "I", .methodLink "java/util/ArrayList" 131 yJx4a65c_add_72be8, .instanceMethod yJx4a65c_add_72be8, .selects "java/util/ArrayList" yJx4a65c_add_72be8 yJx4a65c_add_72be8]
theorem iAL_add : ∀ w ∈ wAL_add, w ∈ TW := tw_of (ids := [479, 478, 472, 475, 491, 493, 8]) (by decide +kernel)
def bAL_add (A : AS) (dm : DM) (a0 : Nat) (a1 : Nat) : Option (Int32 × AS × DM) := gkd A a0 9 (gti (dm a0 0) (fun v1 => gkd A a0 9 (nm (up3 dm a0 0 (.int (v1 + (1 : Int32)))) (fun m2 => gkd A a0 9 (gtr (m2 a0 1) (fun q3 => gkd A a0 9 (gti (m2 a0 2) (fun v4 => gkd A a0 9 (bdg (fun (x : Int32 × AS × DM) => x.2.1) A (bAL_add2 A m2 a0 a1 q3 v4) (fun (x : AS × DM) => x.1) (fun r5 => some ((1 : Int32), r5.1, r5.2)))))))))))
theorem ctAL_add {l : Launch} {K : KF} {mm : Mem} {A : AS} {dm : DM} {a0 : Nat} {a1 : Nat} {x : Int32 × AS × DM} (hf : bAL_add A dm a0 a1 = some x) : Ct2 l K yJx4a65c_add_9ea2d cJx4a65c_add_9ea2d 2 (some .boolean) 4 87 [.ref a0, .ref a1] mm A dm (some (.int x.1)) mm x.2.1 x.2.2 := by
  refine Ct2.of (tb := tbAL_add) miAL_add.2.1 miAL_add.1 dtAL_add (Nat.le_of_ble_eq_true rfl) ?_
  intro E B hQ hr X hI hcd
  clear hI
  clear hcd
  unfold bAL_add at hf
  show G2 E 2 0 [(0, .ref a0), (1, .ref a1)] [] mm A dm
  refine w_aload_n B 0 rfl 0 0 rfl rfl ?_
  refine w_dup B 1 rfl rfl ?_
  obtain ⟨hk, hf⟩ := gkd_e hf
  obtain ⟨v1, ex, hf⟩ := gti_e hf
  refine w_geti B 2 rfl 9 0 a0 (by decide) hk rfl (iAL_add _ (List.mem_of_getElem? (i := 0) rfl)) (Or.inr (iAL_add _ (List.mem_of_getElem? (i := 1) rfl))) ex ?_
  refine w_iconst 1 B 3 rfl (by decide) ?_
  refine w_iadd B 4 rfl ?_
  obtain ⟨hk, hf⟩ := gkd_e hf
  refine w_puti B 5 rfl 9 0 a0 (by decide) hk rfl (iAL_add _ (List.mem_of_getElem? (i := 0) rfl)) (Or.inr (iAL_add _ (List.mem_of_getElem? (i := 1) rfl))) rfl (ty := .int) (by decide) ⟨rfl, rfl⟩ ?_
  obtain ⟨m2, ex, hf⟩ := nm_x hf
  refine w_dmm ex ?_
  refine w_aload_n B 6 rfl 0 0 rfl rfl ?_
  refine w_aload_n B 7 rfl 1 1 rfl rfl ?_
  refine w_aload_n B 8 rfl 0 0 rfl rfl ?_
  obtain ⟨hk, hf⟩ := gkd_e hf
  obtain ⟨q3, ex, hf⟩ := gtr_e hf
  refine w_getr B 9 rfl 9 1 a0 (by decide) hk rfl (iAL_add _ (List.mem_of_getElem? (i := 2) rfl)) (Or.inl rfl) ex ?_
  refine w_aload_n B 10 rfl 0 0 rfl rfl ?_
  obtain ⟨hk, hf⟩ := gkd_e hf
  obtain ⟨v4, ex, hf⟩ := gti_e hf
  refine w_geti B 11 rfl 9 2 a0 (by decide) hk rfl (iAL_add _ (List.mem_of_getElem? (i := 3) rfl)) (Or.inl rfl) ex ?_
  obtain ⟨hk, hf⟩ := gkd_e hf
  obtain ⟨r5, ec, hgd, hf⟩ := bdg_e hf
  refine w_callV a0 [.ref a1, .ref q3, .int v4] [] [] X B 12 rfl miAL_add2 9 (by decide) hk rfl rfl ⟨(iAL_add _ (List.mem_of_getElem? (i := 4) rfl)), (iAL_add _ (List.mem_of_getElem? (i := 5) rfl)), (iAL_add _ (List.mem_of_getElem? (i := 6) rfl))⟩ (ctAL_add2 ec) (Or.inr ⟨_, _, _, _, hr, hgd⟩) ⟨Nat.le_of_ble_eq_true rfl, Nat.le_of_ble_eq_true rfl⟩ rfl rfl (Nat.le_of_ble_eq_true rfl) rfl ?_
  refine w_iconst 1 B 13 rfl (by decide) ?_
  cases hf
  exact w_iret B 14 rfl (by decide) hQ hr
/-! jdk/internal/util/Preconditions.checkIndex(IILjava/util/function/BiFunction;)I -/
def tbPC_checkIndex : Tb := [(0, .iload_n 0, 1, 1), (1, .ifCond .lt 8, 3, 4), (4, .iload_n 0, 1, 5), (5, .iload_n 1, 1, 6), (6, .if_icmp .lt 10, 3, 9), (9, .aload_n 2, 1, 10), (10, .iload_n 0, 1, 11), (11, .iload_n 1, 1, 12), (12, .invokestatic 95, 3, 15), (15, .athrow, 1, 16), (16, .iload_n 0, 1, 17), (17, .ireturn, 1, 18)]
theorem dtPC_checkIndex : ∀ q ∈ tbPC_checkIndex, decode cJ3_checkIndex_8e157 q.1 = .ok (q.2.1, q.2.2.1) ∧ q.1 + q.2.2.1 = q.2.2.2 := by decide +kernel
theorem miPC_checkIndex : MI yJ3_checkIndex_8e157 cJ3_checkIndex_8e157 3 (some .int) 3 := ⟨tw_mem (List.mem_of_getElem? (i := 758) (by decide +kernel)) rfl, by decide, by decide +kernel, tw_mem (List.mem_of_getElem? (i := 30) (by decide +kernel)) rfl⟩
abbrev rmFPC_checkIndex : Nat := 0
abbrev rmLPC_checkIndex : Nat := 0
def bPC_checkIndex_j9 (A : AS) (dm : DM) (x0 : Int32) (x1 : Int32) : Option (Int32) := none
theorem bPC_checkIndex_j9_ok {E : Ev2} {l : Launch} {K : KF} {mm : Mem} {A : AS} {dm : DM} {x : Int32} (X : Ec2 E l K rmFPC_checkIndex rmLPC_checkIndex) (B : Bx2 E RJ3 tbPC_checkIndex 3 (some .int)) (hQ : Rt2 E) (hr : Rs2 E (some (.int x)) mm A dm) (x0 : Int32) (x1 : Int32) (hf : bPC_checkIndex_j9 A dm x0 x1 = some x) : G2 E 3 9 [(0, .int x0), (1, .int x1), (2, .null)] [] mm A dm := by
  unfold bPC_checkIndex_j9 at hf
  refine w_aloadN_n B 5 rfl 2 2 rfl rfl ?_
  refine w_iload_n B 6 rfl 0 0 rfl rfl ?_
  refine w_iload_n B 7 rfl 1 1 rfl rfl ?_
  cases hf
def bPC_checkIndex (A : AS) (dm : DM) (a0 : Int32) (a1 : Int32) : Option (Int32) := if a0 < 0 then bPC_checkIndex_j9 A dm a0 a1 else if a0 < a1 then some (a0) else bPC_checkIndex_j9 A dm a0 a1
theorem ctPC_checkIndex {l : Launch} {K : KF} {mm : Mem} {A : AS} {dm : DM} {a0 : Int32} {a1 : Int32} {x : Int32} (hf : bPC_checkIndex A dm a0 a1 = some x) : Ct2 l K yJ3_checkIndex_8e157 cJ3_checkIndex_8e157 3 (some .int) 0 0 [.int a0, .int a1, .null] mm A dm (some (.int x)) mm A dm := by
  refine Ct2.of (tb := tbPC_checkIndex) miPC_checkIndex.2.1 miPC_checkIndex.1 dtPC_checkIndex (Nat.le_of_ble_eq_true rfl) ?_
  intro E B hQ hr X hI hcd
  clear hI
  clear hcd
  unfold bPC_checkIndex at hf
  show G2 E 3 0 [(0, .int a0), (1, .int a1), (2, .null)] [] mm A dm
  refine w_iload_n B 0 rfl 0 0 rfl rfl ?_
  by_cases hc : a0 < 0
  · replace hf := (if_pos hc).symm.trans hf
    refine w_if_lt_t B 1 rfl 9 (by decide) hc ?_
    exact bPC_checkIndex_j9_ok X B hQ hr _ _ hf
  · replace hf := (if_neg hc).symm.trans hf
    refine w_if_lt_f B 1 rfl 9 (by decide) hc ?_
    refine w_iload_n B 2 rfl 0 0 rfl rfl ?_
    refine w_iload_n B 3 rfl 1 1 rfl rfl ?_
    by_cases hc : a0 < a1
    · replace hf := (if_pos hc).symm.trans hf
      refine w_icmp_lt_t B 4 rfl 16 (by decide) hc ?_
      refine w_iload_n B 10 rfl 0 0 rfl rfl ?_
      cases hf
      exact w_iret B 11 rfl rfl hQ hr
    · replace hf := (if_neg hc).symm.trans hf
      refine w_icmp_lt_f B 4 rfl 16 (by decide) hc ?_
      exact bPC_checkIndex_j9_ok X B hQ hr _ _ hf
/-! java/util/Objects.checkIndex(II)I -/
def tbOB_checkIndex : Tb := [(0, .iload_n 0, 1, 1), (1, .iload_n 1, 1, 2), (2, .aconst_null, 1, 3), (3, .invokestatic 105, 3, 6), (6, .ireturn, 1, 7)]
theorem dtOB_checkIndex : ∀ q ∈ tbOB_checkIndex, decode cJ15_checkIndex_7cf53 q.1 = .ok (q.2.1, q.2.2.1) ∧ q.1 + q.2.2.1 = q.2.2.2 := by decide +kernel
theorem miOB_checkIndex : MI yJ15_checkIndex_7cf53 cJ15_checkIndex_7cf53 2 (some .int) 2 := ⟨tw_mem (List.mem_of_getElem? (i := 767) (by decide +kernel)) rfl, by decide, by decide +kernel, tw_mem (List.mem_of_getElem? (i := 29) (by decide +kernel)) rfl⟩
abbrev rmFOB_checkIndex : Nat := 1
abbrev rmLOB_checkIndex : Nat := 22
def wOB_checkIndex : List Cond := [.methodLink "java/util/Objects" 105 yJ3_checkIndex_8e157, .static yJ3_checkIndex_8e157]
theorem iOB_checkIndex : ∀ w ∈ wOB_checkIndex, w ∈ TW := tw_of (ids := [768, 757]) (by decide +kernel)
def bOB_checkIndex (A : AS) (dm : DM) (a0 : Int32) (a1 : Int32) : Option (Int32) := bd (bPC_checkIndex A dm a0 a1) (fun r1 => some (r1))
theorem ctOB_checkIndex {l : Launch} {K : KF} {mm : Mem} {A : AS} {dm : DM} {a0 : Int32} {a1 : Int32} {x : Int32} (hf : bOB_checkIndex A dm a0 a1 = some x) : Ct2 l K yJ15_checkIndex_7cf53 cJ15_checkIndex_7cf53 2 (some .int) 1 22 [.int a0, .int a1] mm A dm (some (.int x)) mm A dm := by
  refine Ct2.of (tb := tbOB_checkIndex) miOB_checkIndex.2.1 miOB_checkIndex.1 dtOB_checkIndex (Nat.le_of_ble_eq_true rfl) ?_
  intro E B hQ hr X hI hcd
  clear hI
  clear hcd
  unfold bOB_checkIndex at hf
  show G2 E 2 0 [(0, .int a0), (1, .int a1)] [] mm A dm
  refine w_iload_n B 0 rfl 0 0 rfl rfl ?_
  refine w_iload_n B 1 rfl 1 1 rfl rfl ?_
  refine w_null B 2 rfl ?_
  obtain ⟨r1, ec, hf⟩ := bd_e hf
  refine w_callS [.int a0, .int a1, .null] [] [.int r1] X B 3 rfl miPC_checkIndex ⟨(iOB_checkIndex _ (List.mem_of_getElem? (i := 0) rfl)), (iOB_checkIndex _ (List.mem_of_getElem? (i := 1) rfl))⟩ (ctPC_checkIndex ec) (Or.inl ⟨rfl, rfl⟩) ⟨Nat.le_of_ble_eq_true rfl, Nat.le_of_ble_eq_true rfl⟩ rfl rfl (Nat.le_of_ble_eq_true rfl) rfl ?_
  cases hf
  exact w_iret B 4 rfl rfl hQ hr
/-! java/util/ArrayList.elementData(I)Ljava/lang/Object; -/
def tbAL_elementData : Tb := [(0, .aload_n 0, 1, 1), (1, .getfield 9, 3, 4), (4, .iload_n 1, 1, 5), (5, .aaload, 1, 6), (6, .areturn, 1, 7)]
theorem dtAL_elementData : ∀ q ∈ tbAL_elementData, decode cJx4a65c_elementData_915e3 q.1 = .ok (q.2.1, q.2.2.1) ∧ q.1 + q.2.2.1 = q.2.2.2 := by decide +kernel
theorem miAL_elementData : MI yJx4a65c_elementData_915e3 cJx4a65c_elementData_915e3 2 (some (.object "java/lang/Object")) 1 := ⟨tw_mem (List.mem_of_getElem? (i := 772) (by decide +kernel)) rfl, by decide, by decide +kernel, tw_mem (List.mem_of_getElem? (i := 24) (by decide +kernel)) rfl⟩
abbrev rmFAL_elementData : Nat := 0
abbrev rmLAL_elementData : Nat := 0
def wAL_elementData : List Cond := [.fieldLink "java/util/ArrayList" 9 "java/util/ArrayList" "elementData" "[Ljava/lang/Object;"]
theorem iAL_elementData : ∀ w ∈ wAL_elementData, w ∈ TW := tw_of (ids := [472]) (by decide +kernel)
def bAL_elementData (A : AS) (dm : DM) (a0 : Nat) (a1 : Int32) : Option (Nat) := gkd A a0 9 (gtr (dm a0 1) (fun q1 => gkd A q1 21 (gix A q1 a1 (gtr (dm q1 a1.toNatClampNeg) (fun q2 => some (q2))))))
theorem ctAL_elementData {l : Launch} {K : KF} {mm : Mem} {A : AS} {dm : DM} {a0 : Nat} {a1 : Int32} {x : Nat} (hf : bAL_elementData A dm a0 a1 = some x) : Ct2 l K yJx4a65c_elementData_915e3 cJx4a65c_elementData_915e3 2 (some (.object "java/lang/Object")) 0 0 [.ref a0, .int a1] mm A dm (some (.ref x)) mm A dm := by
  refine Ct2.of (tb := tbAL_elementData) miAL_elementData.2.1 miAL_elementData.1 dtAL_elementData (Nat.le_of_ble_eq_true rfl) ?_
  intro E B hQ hr X hI hcd
  clear hI
  clear hcd
  unfold bAL_elementData at hf
  show G2 E 2 0 [(0, .ref a0), (1, .int a1)] [] mm A dm
  refine w_aload_n B 0 rfl 0 0 rfl rfl ?_
  obtain ⟨hk, hf⟩ := gkd_e hf
  obtain ⟨q1, ex, hf⟩ := gtr_e hf
  refine w_getr B 1 rfl 9 1 a0 (by decide) hk rfl (iAL_elementData _ (List.mem_of_getElem? (i := 0) rfl)) (Or.inl rfl) ex ?_
  refine w_iload_n B 2 rfl 1 1 rfl rfl ?_
  obtain ⟨hk, hf⟩ := gkd_e hf
  obtain ⟨hx, hf⟩ := gix_e hf
  obtain ⟨q2, ex, hf⟩ := gtr_e hf
  refine w_rald B 3 rfl hk hx ex ?_
  cases hf
  exact w_aret B 4 rfl (Or.inl ⟨_, rfl⟩) hQ hr
/-! java/util/ArrayList.get(I)Ljava/lang/Object; -/
def tbAL_get : Tb := [(0, .iload_n 1, 1, 1), (1, .aload_n 0, 1, 2), (2, .getfield 48, 3, 5), (5, .invokestatic 118, 3, 8), (8, .pop, 1, 9), (9, .aload_n 0, 1, 10), (10, .iload_n 1, 1, 11), (11, .invokevirtual 123, 3, 14), (14, .areturn, 1, 15)]
theorem dtAL_get : ∀ q ∈ tbAL_get, decode cJx4a65c_get_915e3 q.1 = .ok (q.2.1, q.2.2.1) ∧ q.1 + q.2.2.1 = q.2.2.2 := by decide +kernel
theorem miAL_get : MI yJx4a65c_get_915e3 cJx4a65c_get_915e3 2 (some (.object "java/lang/Object")) 1 := ⟨tw_mem (List.mem_of_getElem? (i := 764) (by decide +kernel)) rfl, by decide, by decide +kernel, tw_mem (List.mem_of_getElem? (i := 24) (by decide +kernel)) rfl⟩
abbrev rmFAL_get : Nat := 2
abbrev rmLAL_get : Nat := 43
def wAL_get : List Cond := [.fieldLink "java/util/ArrayList" 48 "java/util/ArrayList" "size" "I", .methodLink "java/util/ArrayList" 118 yJ15_checkIndex_7cf53, .static yJ15_checkIndex_7cf53, .methodLink "java/util/ArrayList" 123 yJx4a65c_elementData_915e3, .instanceMethod yJx4a65c_elementData_915e3, .selects "java/util/ArrayList" yJx4a65c_elementData_915e3 yJx4a65c_elementData_915e3]
theorem iAL_get : ∀ w ∈ wAL_get, w ∈ TW := tw_of (ids := [475, 765, 766, 769, 770, 771]) (by decide +kernel)
def bAL_get (A : AS) (dm : DM) (a0 : Nat) (a1 : Int32) : Option (Nat) := gkd A a0 9 (gti (dm a0 2) (fun v1 => bd (bOB_checkIndex A dm a1 v1) (fun r2 => gkd A a0 9 (bd (bAL_elementData A dm a0 a1) (fun r3 => some (r3))))))
theorem ctAL_get {l : Launch} {K : KF} {mm : Mem} {A : AS} {dm : DM} {a0 : Nat} {a1 : Int32} {x : Nat} (hf : bAL_get A dm a0 a1 = some x) : Ct2 l K yJx4a65c_get_915e3 cJx4a65c_get_915e3 2 (some (.object "java/lang/Object")) 2 43 [.ref a0, .int a1] mm A dm (some (.ref x)) mm A dm := by
  refine Ct2.of (tb := tbAL_get) miAL_get.2.1 miAL_get.1 dtAL_get (Nat.le_of_ble_eq_true rfl) ?_
  intro E B hQ hr X hI hcd
  clear hI
  clear hcd
  unfold bAL_get at hf
  show G2 E 2 0 [(0, .ref a0), (1, .int a1)] [] mm A dm
  refine w_iload_n B 0 rfl 1 1 rfl rfl ?_
  refine w_aload_n B 1 rfl 0 0 rfl rfl ?_
  obtain ⟨hk, hf⟩ := gkd_e hf
  obtain ⟨v1, ex, hf⟩ := gti_e hf
  refine w_geti B 2 rfl 9 2 a0 (by decide) hk rfl (iAL_get _ (List.mem_of_getElem? (i := 0) rfl)) (Or.inl rfl) ex ?_
  obtain ⟨r2, ec, hf⟩ := bd_e hf
  refine w_callS [.int a1, .int v1] [] [.int r2] X B 3 rfl miOB_checkIndex ⟨(iAL_get _ (List.mem_of_getElem? (i := 1) rfl)), (iAL_get _ (List.mem_of_getElem? (i := 2) rfl))⟩ (ctOB_checkIndex ec) (Or.inl ⟨rfl, rfl⟩) ⟨Nat.le_of_ble_eq_true rfl, Nat.le_of_ble_eq_true rfl⟩ rfl rfl (Nat.le_of_ble_eq_true rfl) rfl ?_
  refine w_pop B 4 rfl rfl ?_
  refine w_aload_n B 5 rfl 0 0 rfl rfl ?_
  refine w_iload_n B 6 rfl 1 1 rfl rfl ?_
  obtain ⟨hk, hf⟩ := gkd_e hf
  obtain ⟨r3, ec, hf⟩ := bd_e hf
  refine w_callV a0 [.int a1] [] [.ref r3] X B 7 rfl miAL_elementData 9 (by decide) hk rfl rfl ⟨(iAL_get _ (List.mem_of_getElem? (i := 3) rfl)), (iAL_get _ (List.mem_of_getElem? (i := 4) rfl)), (iAL_get _ (List.mem_of_getElem? (i := 5) rfl))⟩ (ctAL_elementData ec) (Or.inl ⟨rfl, rfl⟩) ⟨Nat.le_of_ble_eq_true rfl, Nat.le_of_ble_eq_true rfl⟩ rfl rfl (Nat.le_of_ble_eq_true rfl) rfl ?_
  cases hf
  exact w_aret B 8 rfl (Or.inl ⟨_, rfl⟩) hQ hr
/-! java/util/ArrayList.isEmpty()Z -/
def tbAL_isEmpty : Tb := [(0, .aload_n 0, 1, 1), (1, .getfield 48, 3, 4), (4, .ifCond .ne 7, 3, 7), (7, .iconst 1, 1, 8), (8, .goto 4, 3, 11), (11, .iconst 0, 1, 12), (12, .ireturn, 1, 13)]
theorem dtAL_isEmpty : ∀ q ∈ tbAL_isEmpty, decode cJx4a65c_isEmpty_aae02 q.1 = .ok (q.2.1, q.2.2.1) ∧ q.1 + q.2.2.1 = q.2.2.2 := by decide +kernel
theorem miAL_isEmpty : MI yJx4a65c_isEmpty_aae02 cJx4a65c_isEmpty_aae02 1 (some .boolean) 0 := ⟨tw_mem (List.mem_of_getElem? (i := 818) (by decide +kernel)) rfl, by decide, by decide +kernel, tw_mem (List.mem_of_getElem? (i := 24) (by decide +kernel)) rfl⟩
abbrev rmFAL_isEmpty : Nat := 0
abbrev rmLAL_isEmpty : Nat := 0
def wAL_isEmpty : List Cond := [.fieldLink "java/util/ArrayList" 48 "java/util/ArrayList" "size" "I"]
theorem iAL_isEmpty : ∀ w ∈ wAL_isEmpty, w ∈ TW := tw_of (ids := [475]) (by decide +kernel)
def bAL_isEmpty (A : AS) (dm : DM) (a0 : Nat) : Option (Int32) := gkd A a0 9 (gti (dm a0 2) (fun v1 => if v1 = 0 then some ((1 : Int32)) else some ((0 : Int32))))
theorem ctAL_isEmpty {l : Launch} {K : KF} {mm : Mem} {A : AS} {dm : DM} {a0 : Nat} {x : Int32} (hf : bAL_isEmpty A dm a0 = some x) : Ct2 l K yJx4a65c_isEmpty_aae02 cJx4a65c_isEmpty_aae02 1 (some .boolean) 0 0 [.ref a0] mm A dm (some (.int x)) mm A dm := by
  refine Ct2.of (tb := tbAL_isEmpty) miAL_isEmpty.2.1 miAL_isEmpty.1 dtAL_isEmpty (Nat.le_of_ble_eq_true rfl) ?_
  intro E B hQ hr X hI hcd
  clear hI
  clear hcd
  unfold bAL_isEmpty at hf
  show G2 E 1 0 [(0, .ref a0)] [] mm A dm
  refine w_aload_n B 0 rfl 0 0 rfl rfl ?_
  obtain ⟨hk, hf⟩ := gkd_e hf
  obtain ⟨v1, ex, hf⟩ := gti_e hf
  refine w_geti B 1 rfl 9 2 a0 (by decide) hk rfl (iAL_isEmpty _ (List.mem_of_getElem? (i := 0) rfl)) (Or.inl rfl) ex ?_
  by_cases hc : v1 = 0
  · replace hf := (if_pos hc).symm.trans hf
    refine w_if_ne_f B 2 rfl 11 (by decide) hc ?_
    refine w_iconst 1 B 3 rfl (by decide) ?_
    refine w_goto B 4 rfl 12 (by decide) ?_
    cases hf
    exact w_iret B 6 rfl (by decide) hQ hr
  · replace hf := (if_neg hc).symm.trans hf
    refine w_if_ne_t B 2 rfl 11 (by decide) hc ?_
    refine w_iconst 0 B 5 rfl (by decide) ?_
    cases hf
    exact w_iret B 6 rfl (by decide) hQ hr
/-! java/util/ArrayList.size()I -/
def tbAL_size : Tb := [(0, .aload_n 0, 1, 1), (1, .getfield 48, 3, 4), (4, .ireturn, 1, 5)]
theorem dtAL_size : ∀ q ∈ tbAL_size, decode cJx4a65c_size_8abf5 q.1 = .ok (q.2.1, q.2.2.1) ∧ q.1 + q.2.2.1 = q.2.2.2 := by decide +kernel
theorem miAL_size : MI yJx4a65c_size_8abf5 cJx4a65c_size_8abf5 1 (some .int) 0 := ⟨tw_mem (List.mem_of_getElem? (i := 777) (by decide +kernel)) rfl, by decide, by decide +kernel, tw_mem (List.mem_of_getElem? (i := 24) (by decide +kernel)) rfl⟩
abbrev rmFAL_size : Nat := 0
abbrev rmLAL_size : Nat := 0
def wAL_size : List Cond := [.fieldLink "java/util/ArrayList" 48 "java/util/ArrayList" "size" "I"]
theorem iAL_size : ∀ w ∈ wAL_size, w ∈ TW := tw_of (ids := [475]) (by decide +kernel)
def bAL_size (A : AS) (dm : DM) (a0 : Nat) : Option (Int32) := gkd A a0 9 (gti (dm a0 2) (fun v1 => some (v1)))
theorem ctAL_size {l : Launch} {K : KF} {mm : Mem} {A : AS} {dm : DM} {a0 : Nat} {x : Int32} (hf : bAL_size A dm a0 = some x) : Ct2 l K yJx4a65c_size_8abf5 cJx4a65c_size_8abf5 1 (some .int) 0 0 [.ref a0] mm A dm (some (.int x)) mm A dm := by
  refine Ct2.of (tb := tbAL_size) miAL_size.2.1 miAL_size.1 dtAL_size (Nat.le_of_ble_eq_true rfl) ?_
  intro E B hQ hr X hI hcd
  clear hI
  clear hcd
  unfold bAL_size at hf
  show G2 E 1 0 [(0, .ref a0)] [] mm A dm
  refine w_aload_n B 0 rfl 0 0 rfl rfl ?_
  obtain ⟨hk, hf⟩ := gkd_e hf
  obtain ⟨v1, ex, hf⟩ := gti_e hf
  refine w_geti B 1 rfl 9 2 a0 (by decide) hk rfl (iAL_size _ (List.mem_of_getElem? (i := 0) rfl)) (Or.inl rfl) ex ?_
  cases hf
  exact w_iret B 2 rfl rfl hQ hr
/-! java/util/ArrayList$Itr.<init>(Ljava/util/ArrayList;)V -/
def tbIT_init : Tb := [(0, .aload_n 0, 1, 1), (1, .aload_n 1, 1, 2), (2, .putfield 1, 3, 5), (5, .aload_n 0, 1, 6), (6, .invokespecial 7, 3, 9), (9, .aload_n 0, 1, 10), (10, .iconst (-1), 1, 11), (11, .putfield 13, 3, 14), (14, .aload_n 0, 1, 15), (15, .aload_n 0, 1, 16), (16, .getfield 1, 3, 19), (19, .getfield 17, 3, 22), (22, .putfield 22, 3, 25), (25, .return_, 1, 26)]
theorem dtIT_init : ∀ q ∈ tbIT_init, decode cJx35411_init_45d68 q.1 = .ok (q.2.1, q.2.2.1) ∧ q.1 + q.2.2.1 = q.2.2.2 := by decide +kernel
theorem miIT_init : MI yJx35411_init_45d68 cJx35411_init_45d68 2 none 1 := ⟨tw_mem (List.mem_of_getElem? (i := 867) (by decide +kernel)) rfl, by decide, by decide +kernel, tw_mem (List.mem_of_getElem? (i := 31) (by decide +kernel)) rfl⟩
abbrev rmFIT_init : Nat := 1
abbrev rmLIT_init : Nat := 32
def wIT_init : List Cond := [.fieldLink "java/util/ArrayList$Itr" 1 "java/util/ArrayList$Itr" "this$0" "Ljava/util/ArrayList;", .methodLink "java/util/ArrayList$Itr" 7 Lib.objectInit, .instanceMethod Lib.objectInit, .code Lib.objectInit ⟨#[0xb1]⟩ 1 none, .fieldLink "java/util/ArrayList$Itr" 13 "java/util/ArrayList$Itr" "lastRet" "I", .fieldLink "java/util/ArrayList$Itr" 17 "java/util/ArrayList" "modCount" "I", .sameField "java/util/ArrayList" "java/util/AbstractList" "modCount" "I", .fieldLink "java/util/ArrayList$Itr" 22 "java/util/ArrayList$Itr" "expectedModCount" "I"]
theorem iIT_init : ∀ w ∈ wIT_init, w ∈ TW := tw_of (ids := [872, 868, 48, 49, 870, 477, 478, 871]) (by decide +kernel)
def bIT_init (A : AS) (dm : DM) (a0 : Nat) (a1 : Nat) : Option (DM) := gkd A a0 10 (nm (up3 dm a0 3 (.ref a1)) (fun m1 => gkd A a0 10 (nm (up3 m1 a0 1 (.int (-1 : Int32))) (fun m2 => gkd A a0 10 (gtr (m2 a0 3) (fun q3 => gkd A q3 9 (gti (m2 q3 0) (fun v4 => gkd A a0 10 (nm (up3 m2 a0 2 (.int v4)) (fun m5 => some (m5)))))))))))
theorem ctIT_init {l : Launch} {K : KF} {mm : Mem} {A : AS} {dm : DM} {a0 : Nat} {a1 : Nat} {x : DM} (hf : bIT_init A dm a0 a1 = some x) : Ct2 l K yJx35411_init_45d68 cJx35411_init_45d68 2 none 1 32 [.ref a0, .ref a1] mm A dm none mm A x := by
  refine Ct2.of (tb := tbIT_init) miIT_init.2.1 miIT_init.1 dtIT_init (Nat.le_of_ble_eq_true rfl) ?_
  intro E B hQ hr X hI hcd
  have hI := hI rfl
  clear hcd
  unfold bIT_init at hf
  show G2 E 2 0 [(0, .ref a0), (1, .ref a1)] [] mm A dm
  refine w_aload_n B 0 rfl 0 0 rfl rfl ?_
  refine w_aload_n B 1 rfl 1 1 rfl rfl ?_
  obtain ⟨hk, hf⟩ := gkd_e hf
  refine w_putrF B 2 rfl 10 3 a0 (by decide) hk rfl (iIT_init _ (List.mem_of_getElem? (i := 0) rfl)) (Or.inl rfl) rfl hI rfl (ty := (.object "java/util/ArrayList")) (by decide) (fun _ => ⟨rfl, rfl⟩) ?_
  obtain ⟨m1, ex, hf⟩ := nm_x hf
  refine w_dmm ex ?_
  refine w_aload_n B 3 rfl 0 0 rfl rfl ?_
  refine w_obj X B 4 rfl ⟨(iIT_init _ (List.mem_of_getElem? (i := 1) rfl)), (iIT_init _ (List.mem_of_getElem? (i := 2) rfl)), (iIT_init _ (List.mem_of_getElem? (i := 3) rfl))⟩ ⟨Nat.le_of_ble_eq_true rfl, Nat.le_of_ble_eq_true rfl⟩ (Nat.le_of_ble_eq_true rfl) ?_
  refine w_aload_n B 5 rfl 0 0 rfl rfl ?_
  refine w_iconst (-1) B 6 rfl (by decide) ?_
  obtain ⟨hk, hf⟩ := gkd_e hf
  refine w_puti B 7 rfl 10 1 a0 (by decide) hk rfl (iIT_init _ (List.mem_of_getElem? (i := 4) rfl)) (Or.inl rfl) rfl (ty := .int) (by decide) ⟨rfl, rfl⟩ ?_
  obtain ⟨m2, ex, hf⟩ := nm_x hf
  refine w_dmm ex ?_
  refine w_aload_n B 8 rfl 0 0 rfl rfl ?_
  refine w_aload_n B 9 rfl 0 0 rfl rfl ?_
  obtain ⟨hk, hf⟩ := gkd_e hf
  obtain ⟨q3, ex, hf⟩ := gtr_e hf
  refine w_getr B 10 rfl 10 3 a0 (by decide) hk rfl (iIT_init _ (List.mem_of_getElem? (i := 0) rfl)) (Or.inl rfl) ex ?_
  obtain ⟨hk, hf⟩ := gkd_e hf
  obtain ⟨v4, ex, hf⟩ := gti_e hf
  refine w_geti B 11 rfl 9 0 q3 (by decide) hk rfl (iIT_init _ (List.mem_of_getElem? (i := 5) rfl)) (Or.inr (iIT_init _ (List.mem_of_getElem? (i := 6) rfl))) ex ?_
  obtain ⟨hk, hf⟩ := gkd_e hf
  refine w_puti B 12 rfl 10 2 a0 (by decide) hk rfl (iIT_init _ (List.mem_of_getElem? (i := 7) rfl)) (Or.inl rfl) rfl (ty := .int) (by decide) ⟨rfl, rfl⟩ ?_
  obtain ⟨m5, ex, hf⟩ := nm_x hf
  refine w_dmm ex ?_
  cases hf
  exact w_vret B 13 rfl hQ hr
/-! java/util/ArrayList.iterator()Ljava/util/Iterator; -/
def tbAL_iterator : Tb := [(0, .new 267, 3, 3), (3, .dup, 1, 4), (4, .aload_n 0, 1, 5), (5, .invokespecial 269, 3, 8), (8, .areturn, 1, 9)]
theorem dtAL_iterator : ∀ q ∈ tbAL_iterator, decode cJx4a65c_iterator_32c93 q.1 = .ok (q.2.1, q.2.2.1) ∧ q.1 + q.2.2.1 = q.2.2.2 := by decide +kernel
theorem miAL_iterator : MI yJx4a65c_iterator_32c93 cJx4a65c_iterator_32c93 1 (some (.object "java/util/Iterator")) 0 := ⟨tw_mem (List.mem_of_getElem? (i := 862) (by decide +kernel)) rfl, by decide, by decide +kernel, tw_mem (List.mem_of_getElem? (i := 24) (by decide +kernel)) rfl⟩
abbrev rmFAL_iterator : Nat := 2
abbrev rmLAL_iterator : Nat := 53
def wAL_iterator : List Cond := [.classLink "java/util/ArrayList" 267 "java/util/ArrayList$Itr", .instantiable "java/util/ArrayList$Itr" 4, .initialized "java/util/ArrayList$Itr", .methodLink "java/util/ArrayList" 269 yJx35411_init_45d68, .instanceMethod yJx35411_init_45d68]
theorem iAL_iterator : ∀ w ∈ wAL_iterator, w ∈ TW := tw_of (ids := [863, 864, 31, 865, 866]) (by decide +kernel)
def bAL_iterator (A : AS) (dm : DM) (a0 : Nat) : Option (Nat × AS × DM) := alc (fun (x : Nat × AS × DM) => x.2.1) A dm 10 0 4 dfl10 (fun q1 A2 m3 => bd (bIT_init A2 m3 q1 a0) (fun r4 => some (q1, A2, r4)))
theorem ctAL_iterator {l : Launch} {K : KF} {mm : Mem} {A : AS} {dm : DM} {a0 : Nat} {x : Nat × AS × DM} (hf : bAL_iterator A dm a0 = some x) : Ct2 l K yJx4a65c_iterator_32c93 cJx4a65c_iterator_32c93 1 (some (.object "java/util/Iterator")) 2 53 [.ref a0] mm A dm (some (.ref x.1)) mm x.2.1 x.2.2 := by
  refine Ct2.of (tb := tbAL_iterator) miAL_iterator.2.1 miAL_iterator.1 dtAL_iterator (Nat.le_of_ble_eq_true rfl) ?_
  intro E B hQ hr X hI hcd
  clear hI
  clear hcd
  unfold bAL_iterator at hf
  show G2 E 1 0 [(0, .ref a0)] [] mm A dm
  obtain ⟨q1, A2, m3, hq, hA, hM, hgd, hf⟩ := alc_e hf
  refine w_new B 0 rfl 10 dfl10 hr hgd hq hA hM (by decide) rfl ⟨(iAL_iterator _ (List.mem_of_getElem? (i := 0) rfl)), (iAL_iterator _ (List.mem_of_getElem? (i := 1) rfl)), (iAL_iterator _ (List.mem_of_getElem? (i := 2) rfl))⟩ dfl10_ok dfl10_cv ?_
  refine w_dup B 1 rfl rfl ?_
  refine w_aload_n B 2 rfl 0 0 rfl rfl ?_
  obtain ⟨r4, ec, hf⟩ := bd_e hf
  refine w_callI q1 [.ref a0] [.ref q1] [.ref q1] X B 3 rfl miIT_init ⟨(iAL_iterator _ (List.mem_of_getElem? (i := 3) rfl)), (iAL_iterator _ (List.mem_of_getElem? (i := 4) rfl)), rfl⟩ (ctIT_init ec) (Or.inl ⟨rfl, rfl⟩) ⟨Nat.le_of_ble_eq_true rfl, Nat.le_of_ble_eq_true rfl⟩ rfl rfl (Nat.le_of_ble_eq_true rfl) rfl ?_
  cases hf
  exact w_aret B 4 rfl (Or.inl ⟨_, rfl⟩) hQ hr
/-! java/util/ArrayList$Itr.hasNext()Z -/
def tbIT_hasNext : Tb := [(0, .aload_n 0, 1, 1), (1, .getfield 25, 3, 4), (4, .aload_n 0, 1, 5), (5, .getfield 1, 3, 8), (8, .getfield 28, 3, 11), (11, .if_icmp .eq 7, 3, 14), (14, .iconst 1, 1, 15), (15, .goto 4, 3, 18), (18, .iconst 0, 1, 19), (19, .ireturn, 1, 20)]
theorem dtIT_hasNext : ∀ q ∈ tbIT_hasNext, decode cJx35411_hasNext_aae02 q.1 = .ok (q.2.1, q.2.2.1) ∧ q.1 + q.2.2.1 = q.2.2.2 := by decide +kernel
theorem miIT_hasNext : MI yJx35411_hasNext_aae02 cJx35411_hasNext_aae02 1 (some .boolean) 0 := ⟨tw_mem (List.mem_of_getElem? (i := 891) (by decide +kernel)) rfl, by decide, by decide +kernel, tw_mem (List.mem_of_getElem? (i := 31) (by decide +kernel)) rfl⟩
abbrev rmFIT_hasNext : Nat := 0
abbrev rmLIT_hasNext : Nat := 0
def wIT_hasNext : List Cond := [.fieldLink "java/util/ArrayList$Itr" 25 "java/util/ArrayList$Itr" "cursor" "I", .fieldLink "java/util/ArrayList$Itr" 1 "java/util/ArrayList$Itr" "this$0" "Ljava/util/ArrayList;"]
theorem iIT_hasNext : ∀ w ∈ wIT_hasNext, w ∈ TW := tw_of (ids := [869, 872]) (by decide +kernel)
def bIT_hasNext (A : AS) (dm : DM) (a0 : Nat) : Option (Int32) := gkd A a0 10 (gti (dm a0 0) (fun v1 => gkd A a0 10 (gtr (dm a0 3) (fun q2 => gkd A q2 9 (gti (dm q2 2) (fun v3 => if v1 = v3 then some ((0 : Int32)) else some ((1 : Int32))))))))
theorem ctIT_hasNext {l : Launch} {K : KF} {mm : Mem} {A : AS} {dm : DM} {a0 : Nat} {x : Int32} (hf : bIT_hasNext A dm a0 = some x) : Ct2 l K yJx35411_hasNext_aae02 cJx35411_hasNext_aae02 1 (some .boolean) 0 0 [.ref a0] mm A dm (some (.int x)) mm A dm := by
  refine Ct2.of (tb := tbIT_hasNext) miIT_hasNext.2.1 miIT_hasNext.1 dtIT_hasNext (Nat.le_of_ble_eq_true rfl) ?_
  intro E B hQ hr X hI hcd
  clear hI
  clear hcd
  unfold bIT_hasNext at hf
  show G2 E 1 0 [(0, .ref a0)] [] mm A dm
  refine w_aload_n B 0 rfl 0 0 rfl rfl ?_
  obtain ⟨hk, hf⟩ := gkd_e hf
  obtain ⟨v1, ex, hf⟩ := gti_e hf
  refine w_geti B 1 rfl 10 0 a0 (by decide) hk rfl (iIT_hasNext _ (List.mem_of_getElem? (i := 0) rfl)) (Or.inl rfl) ex ?_
  refine w_aload_n B 2 rfl 0 0 rfl rfl ?_
  obtain ⟨hk, hf⟩ := gkd_e hf
  obtain ⟨q2, ex, hf⟩ := gtr_e hf
  refine w_getr B 3 rfl 10 3 a0 (by decide) hk rfl (iIT_hasNext _ (List.mem_of_getElem? (i := 1) rfl)) (Or.inl rfl) ex ?_
  obtain ⟨hk, hf⟩ := gkd_e hf
  obtain ⟨v3, ex, hf⟩ := gti_e hf
  refine w_getiN B 4 rfl 9 2 q2 (by decide) hk rfl (List.mem_of_getElem? (i := 0) rfl) (Or.inl rfl) ex ?_
  by_cases hc : v1 = v3
  · replace hf := (if_pos hc).symm.trans hf
    refine w_icmp_eq_t B 5 rfl 18 (by decide) hc ?_
    refine w_iconst 0 B 8 rfl (by decide) ?_
    cases hf
    exact w_iret B 9 rfl (by decide) hQ hr
  · replace hf := (if_neg hc).symm.trans hf
    refine w_icmp_eq_f B 5 rfl 18 (by decide) hc ?_
    refine w_iconst 1 B 6 rfl (by decide) ?_
    refine w_goto B 7 rfl 19 (by decide) ?_
    cases hf
    exact w_iret B 9 rfl (by decide) hQ hr
/-! java/util/ArrayList$Itr.checkForComodification()V -/
def tbIT_checkForComodification : Tb := [(0, .aload_n 0, 1, 1), (1, .getfield 1, 3, 4), (4, .getfield 17, 3, 7), (7, .aload_n 0, 1, 8), (8, .getfield 22, 3, 11), (11, .if_icmp .eq 11, 3, 14), (14, .new 41, 3, 17), (17, .dup, 1, 18), (18, .invokespecial 43, 3, 21), (21, .athrow, 1, 22), (22, .return_, 1, 23)]
theorem dtIT_checkForComodification : ∀ q ∈ tbIT_checkForComodification, decode cJx35411_checkForComodification_da8c8 q.1 = .ok (q.2.1, q.2.2.1) ∧ q.1 + q.2.2.1 = q.2.2.2 := by decide +kernel
theorem miIT_checkForComodification : MI yJx35411_checkForComodification_da8c8 cJx35411_checkForComodification_da8c8 1 none 0 := ⟨tw_mem (List.mem_of_getElem? (i := 904) (by decide +kernel)) rfl, by decide, by decide +kernel, tw_mem (List.mem_of_getElem? (i := 31) (by decide +kernel)) rfl⟩
abbrev rmFIT_checkForComodification : Nat := 0
abbrev rmLIT_checkForComodification : Nat := 0
def wIT_checkForComodification : List Cond := [.fieldLink "java/util/ArrayList$Itr" 1 "java/util/ArrayList$Itr" "this$0" "Ljava/util/ArrayList;", .fieldLink "java/util/ArrayList$Itr" 17 "java/util/ArrayList" "modCount" "I", .sameField "java/util/ArrayList" "java/util/AbstractList" "modCount" "I", .fieldLink "java/util/ArrayList$Itr" 22 "java/util/ArrayList$Itr" "expectedModCount" "I"]
theorem iIT_checkForComodification : ∀ w ∈ wIT_checkForComodification, w ∈ TW := tw_of (ids := [872, 477, 478, 871]) (by decide +kernel)
def bIT_checkForComodification (A : AS) (dm : DM) (a0 : Nat) : Option (Unit) := gkd A a0 10 (gtr (dm a0 3) (fun q1 => gkd A q1 9 (gti (dm q1 0) (fun v2 => gkd A a0 10 (gti (dm a0 2) (fun v3 => if v2 = v3 then some () else none))))))
theorem ctIT_checkForComodification {l : Launch} {K : KF} {mm : Mem} {A : AS} {dm : DM} {a0 : Nat} {x : Unit} (hf : bIT_checkForComodification A dm a0 = some x) : Ct2 l K yJx35411_checkForComodification_da8c8 cJx35411_checkForComodification_da8c8 1 none 0 0 [.ref a0] mm A dm none mm A dm := by
  refine Ct2.of (tb := tbIT_checkForComodification) miIT_checkForComodification.2.1 miIT_checkForComodification.1 dtIT_checkForComodification (Nat.le_of_ble_eq_true rfl) ?_
  intro E B hQ hr X hI hcd
  clear hI
  clear hcd
  unfold bIT_checkForComodification at hf
  show G2 E 1 0 [(0, .ref a0)] [] mm A dm
  refine w_aload_n B 0 rfl 0 0 rfl rfl ?_
  obtain ⟨hk, hf⟩ := gkd_e hf
  obtain ⟨q1, ex, hf⟩ := gtr_e hf
  refine w_getr B 1 rfl 10 3 a0 (by decide) hk rfl (iIT_checkForComodification _ (List.mem_of_getElem? (i := 0) rfl)) (Or.inl rfl) ex ?_
  obtain ⟨hk, hf⟩ := gkd_e hf
  obtain ⟨v2, ex, hf⟩ := gti_e hf
  refine w_geti B 2 rfl 9 0 q1 (by decide) hk rfl (iIT_checkForComodification _ (List.mem_of_getElem? (i := 1) rfl)) (Or.inr (iIT_checkForComodification _ (List.mem_of_getElem? (i := 2) rfl))) ex ?_
  refine w_aload_n B 3 rfl 0 0 rfl rfl ?_
  obtain ⟨hk, hf⟩ := gkd_e hf
  obtain ⟨v3, ex, hf⟩ := gti_e hf
  refine w_geti B 4 rfl 10 2 a0 (by decide) hk rfl (iIT_checkForComodification _ (List.mem_of_getElem? (i := 3) rfl)) (Or.inl rfl) ex ?_
  by_cases hc : v2 = v3
  · replace hf := (if_pos hc).symm.trans hf
    refine w_icmp_eq_t B 5 rfl 22 (by decide) hc ?_
    cases hf
    exact w_vret B 10 rfl hQ hr
  · replace hf := (if_neg hc).symm.trans hf
    refine w_icmp_eq_f B 5 rfl 22 (by decide) hc ?_
    cases hf
/-! java/util/ArrayList$Itr.next()Ljava/lang/Object; -/
def tbIT_next : Tb := [(0, .aload_n 0, 1, 1), (1, .invokevirtual 31, 3, 4), (4, .aload_n 0, 1, 5), (5, .getfield 25, 3, 8), (8, .istore_n 1, 1, 9), (9, .iload_n 1, 1, 10), (10, .aload_n 0, 1, 11), (11, .getfield 1, 3, 14), (14, .getfield 28, 3, 17), (17, .if_icmp .lt 11, 3, 20), (20, .new 34, 3, 23), (23, .dup, 1, 24), (24, .invokespecial 36, 3, 27), (27, .athrow, 1, 28), (28, .aload_n 0, 1, 29), (29, .getfield 1, 3, 32), (32, .getfield 37, 3, 35), (35, .astore_n 2, 1, 36), (36, .iload_n 1, 1, 37), (37, .aload_n 2, 1, 38), (38, .arraylength, 1, 39), (39, .if_icmp .lt 11, 3, 42), (42, .new 41, 3, 45), (45, .dup, 1, 46), (46, .invokespecial 43, 3, 49), (49, .athrow, 1, 50), (50, .aload_n 0, 1, 51), (51, .iload_n 1, 1, 52), (52, .iconst 1, 1, 53), (53, .iadd, 1, 54), (54, .putfield 25, 3, 57), (57, .aload_n 2, 1, 58), (58, .aload_n 0, 1, 59), (59, .iload_n 1, 1, 60), (60, .dup_x1, 1, 61), (61, .putfield 13, 3, 64), (64, .aaload, 1, 65), (65, .areturn, 1, 66)]
theorem dtIT_next : ∀ q ∈ tbIT_next, decode cJx35411_next_0502b q.1 = .ok (q.2.1, q.2.2.1) ∧ q.1 + q.2.2.1 = q.2.2.2 := by decide +kernel
theorem miIT_next : MI yJx35411_next_0502b cJx35411_next_0502b 3 (some (.object "java/lang/Object")) 0 := ⟨tw_mem (List.mem_of_getElem? (i := 900) (by decide +kernel)) rfl, by decide, by decide +kernel, tw_mem (List.mem_of_getElem? (i := 31) (by decide +kernel)) rfl⟩
abbrev rmFIT_next : Nat := 1
abbrev rmLIT_next : Nat := 20
def wIT_next : List Cond := [.methodLink "java/util/ArrayList$Itr" 31 yJx35411_checkForComodification_da8c8, .instanceMethod yJx35411_checkForComodification_da8c8, .selects "java/util/ArrayList$Itr" yJx35411_checkForComodification_da8c8 yJx35411_checkForComodification_da8c8, .fieldLink "java/util/ArrayList$Itr" 25 "java/util/ArrayList$Itr" "cursor" "I", .fieldLink "java/util/ArrayList$Itr" 1 "java/util/ArrayList$Itr" "this$0" "Ljava/util/ArrayList;", .fieldLink "java/util/ArrayList$Itr" 37 "java/util/ArrayList" "elementData" "[Ljava/lang/Object;", .fieldLink "java/util/ArrayList$Itr" 13 "java/util/ArrayList$Itr" "lastRet" "I"]
theorem iIT_next : ∀ w ∈ wIT_next, w ∈ TW := tw_of (ids := [901, 902, 903, 869, 872, 473, 870]) (by decide +kernel)
def bIT_next (A : AS) (dm : DM) (a0 : Nat) : Option (Nat × DM) := gkd A a0 10 (bd (bIT_checkForComodification A dm a0) (fun r1 => gkd A a0 10 (gti (dm a0 0) (fun v2 => gkd A a0 10 (gtr (dm a0 3) (fun q3 => gkd A q3 9 (gti (dm q3 2) (fun v4 => if v2 < v4 then gkd A a0 10 (gtr (dm a0 3) (fun q5 => gkd A q5 9 (gtr (dm q5 1) (fun q6 => gal A q6 (if v2 < (nI (lenA A q6)) then gkd A a0 10 (nm (up3 dm a0 0 (.int (v2 + (1 : Int32)))) (fun m7 => gkd A a0 10 (nm (up3 m7 a0 1 (.int v2)) (fun m8 => gkd A q6 21 (gix A q6 v2 (gtr (m8 q6 v2.toNatClampNeg) (fun q9 => some (q9, m8)))))))) else none))))) else none))))))))
theorem ctIT_next {l : Launch} {K : KF} {mm : Mem} {A : AS} {dm : DM} {a0 : Nat} {x : Nat × DM} (hf : bIT_next A dm a0 = some x) : Ct2 l K yJx35411_next_0502b cJx35411_next_0502b 3 (some (.object "java/lang/Object")) 1 20 [.ref a0] mm A dm (some (.ref x.1)) mm A x.2 := by
  refine Ct2.of (tb := tbIT_next) miIT_next.2.1 miIT_next.1 dtIT_next (Nat.le_of_ble_eq_true rfl) ?_
  intro E B hQ hr X hI hcd
  clear hI
  clear hcd
  unfold bIT_next at hf
  show G2 E 3 0 [(0, .ref a0)] [] mm A dm
  refine w_aload_n B 0 rfl 0 0 rfl rfl ?_
  obtain ⟨hk, hf⟩ := gkd_e hf
  obtain ⟨r1, ec, hf⟩ := bd_e hf
  refine w_callV a0 [] [] [] X B 1 rfl miIT_checkForComodification 10 (by decide) hk rfl rfl ⟨(iIT_next _ (List.mem_of_getElem? (i := 0) rfl)), (iIT_next _ (List.mem_of_getElem? (i := 1) rfl)), (iIT_next _ (List.mem_of_getElem? (i := 2) rfl))⟩ (ctIT_checkForComodification ec) (Or.inl ⟨rfl, rfl⟩) ⟨Nat.le_of_ble_eq_true rfl, Nat.le_of_ble_eq_true rfl⟩ rfl rfl (Nat.le_of_ble_eq_true rfl) rfl ?_
  refine w_aload_n B 2 rfl 0 0 rfl rfl ?_
  obtain ⟨hk, hf⟩ := gkd_e hf
  obtain ⟨v2, ex, hf⟩ := gti_e hf
  refine w_geti B 3 rfl 10 0 a0 (by decide) hk rfl (iIT_next _ (List.mem_of_getElem? (i := 3) rfl)) (Or.inl rfl) ex ?_
  refine w_istore_n [(1, .int v2), (0, .ref a0)] B 4 rfl 1 rfl (by decide) rfl ?_
  refine w_iload_n B 5 rfl 1 0 rfl rfl ?_
  refine w_aload_n B 6 rfl 0 1 rfl rfl ?_
  obtain ⟨hk, hf⟩ := gkd_e hf
  obtain ⟨q3, ex, hf⟩ := gtr_e hf
  refine w_getr B 7 rfl 10 3 a0 (by decide) hk rfl (iIT_next _ (List.mem_of_getElem? (i := 4) rfl)) (Or.inl rfl) ex ?_
  obtain ⟨hk, hf⟩ := gkd_e hf
  obtain ⟨v4, ex, hf⟩ := gti_e hf
  refine w_getiN B 8 rfl 9 2 q3 (by decide) hk rfl (List.mem_of_getElem? (i := 0) rfl) (Or.inl rfl) ex ?_
  by_cases hc : v2 < v4
  · replace hf := (if_pos hc).symm.trans hf
    refine w_icmp_lt_t B 9 rfl 28 (by decide) hc ?_
    refine w_aload_n B 14 rfl 0 1 rfl rfl ?_
    obtain ⟨hk, hf⟩ := gkd_e hf
    obtain ⟨q5, ex, hf⟩ := gtr_e hf
    refine w_getr B 15 rfl 10 3 a0 (by decide) hk rfl (iIT_next _ (List.mem_of_getElem? (i := 4) rfl)) (Or.inl rfl) ex ?_
    obtain ⟨hk, hf⟩ := gkd_e hf
    obtain ⟨q6, ex, hf⟩ := gtr_e hf
    refine w_getr B 16 rfl 9 1 q5 (by decide) hk rfl (iIT_next _ (List.mem_of_getElem? (i := 5) rfl)) (Or.inl rfl) ex ?_
    refine w_astore_n [(2, .ref q6), (1, .int v2), (0, .ref a0)] B 17 rfl 2 rfl (by decide) rfl ?_
    refine w_iload_n B 18 rfl 1 1 rfl rfl ?_
    refine w_aload_n B 19 rfl 2 0 rfl rfl ?_
    obtain ⟨hk, hf⟩ := gal_e hf
    refine w_alen B 20 rfl hk ?_
    by_cases hc : v2 < (nI (lenA A q6))
    · replace hf := (if_pos hc).symm.trans hf
      refine w_icmp_lt_t B 21 rfl 50 (by decide) hc ?_
      refine w_aload_n B 26 rfl 0 2 rfl rfl ?_
      refine w_iload_n B 27 rfl 1 1 rfl rfl ?_
      refine w_iconst 1 B 28 rfl (by decide) ?_
      refine w_iadd B 29 rfl ?_
      obtain ⟨hk, hf⟩ := gkd_e hf
      refine w_puti B 30 rfl 10 0 a0 (by decide) hk rfl (iIT_next _ (List.mem_of_getElem? (i := 3) rfl)) (Or.inl rfl) rfl (ty := .int) (by decide) ⟨rfl, rfl⟩ ?_
      obtain ⟨m7, ex, hf⟩ := nm_x hf
      refine w_dmm ex ?_
      refine w_aload_n B 31 rfl 2 0 rfl rfl ?_
      refine w_aload_n B 32 rfl 0 2 rfl rfl ?_
      refine w_iload_n B 33 rfl 1 1 rfl rfl ?_
      refine w_dup_x1 B 34 rfl rfl rfl ?_
      obtain ⟨hk, hf⟩ := gkd_e hf
      refine w_puti B 35 rfl 10 1 a0 (by decide) hk rfl (iIT_next _ (List.mem_of_getElem? (i := 6) rfl)) (Or.inl rfl) rfl (ty := .int) (by decide) ⟨rfl, rfl⟩ ?_
      obtain ⟨m8, ex, hf⟩ := nm_x hf
      refine w_dmm ex ?_
      obtain ⟨hk, hf⟩ := gkd_e hf
      obtain ⟨hx, hf⟩ := gix_e hf
      obtain ⟨q9, ex, hf⟩ := gtr_e hf
      refine w_rald B 36 rfl hk hx ex ?_
      cases hf
      exact w_aret B 37 rfl (Or.inl ⟨_, rfl⟩) hQ hr
    · replace hf := (if_neg hc).symm.trans hf
      refine w_icmp_lt_f B 21 rfl 50 (by decide) hc ?_
      cases hf
  · replace hf := (if_neg hc).symm.trans hf
    refine w_icmp_lt_f B 9 rfl 28 (by decide) hc ?_
    cases hf
/-! java/util/ArrayList.clear()V -/
def tbAL_clear : Tb := [(0, .aload_n 0, 1, 1), (1, .dup, 1, 2), (2, .getfield 63, 3, 5), (5, .iconst 1, 1, 6), (6, .iadd, 1, 7), (7, .putfield 63, 3, 10), (10, .aload_n 0, 1, 11), (11, .getfield 9, 3, 14), (14, .astore_n 1, 1, 15), (15, .aload_n 0, 1, 16), (16, .getfield 48, 3, 19), (19, .istore_n 2, 1, 20), (20, .aload_n 0, 1, 21), (21, .iconst 0, 1, 22), (22, .dup_x1, 1, 23), (23, .putfield 48, 3, 26), (26, .istore_n 3, 1, 27), (27, .iload_n 3, 1, 28), (28, .iload_n 2, 1, 29), (29, .if_icmp .ge 13, 3, 32), (32, .aload_n 1, 1, 33), (33, .iload_n 3, 1, 34), (34, .aconst_null, 1, 35), (35, .aastore, 1, 36), (36, .iinc 3 1, 3, 39), (39, .goto (-12), 3, 42), (42, .return_, 1, 43)]
theorem dtAL_clear : ∀ q ∈ tbAL_clear, decode cJx4a65c_clear_da8c8 q.1 = .ok (q.2.1, q.2.2.1) ∧ q.1 + q.2.2.1 = q.2.2.2 := by decide +kernel
theorem miAL_clear : MI yJx4a65c_clear_da8c8 cJx4a65c_clear_da8c8 4 none 0 := ⟨tw_mem (List.mem_of_getElem? (i := 1048) (by decide +kernel)) rfl, by decide, by decide +kernel, tw_mem (List.mem_of_getElem? (i := 24) (by decide +kernel)) rfl⟩
abbrev rmFAL_clear : Nat := 0
abbrev rmLAL_clear : Nat := 0
def wAL_clear : List Cond := [.fieldLink "java/util/ArrayList" 63 "java/util/ArrayList" "modCount" "I", .sameField "java/util/ArrayList" "java/util/AbstractList" "modCount" "I", .fieldLink "java/util/ArrayList" 9 "java/util/ArrayList" "elementData" "[Ljava/lang/Object;", .fieldLink "java/util/ArrayList" 48 "java/util/ArrayList" "size" "I"]
theorem iAL_clear : ∀ w ∈ wAL_clear, w ∈ TW := tw_of (ids := [479, 478, 472, 475]) (by decide +kernel)
def bAL_clear_l27 (A : AS) : Nat → Nat → Int32 → Int32 → DM → Option (DM)
  | 0, _, _, _, _ => none
  | n + 1, x1, x2, x3, dm => if x3 < x2 then gkd A x1 21 (gix A x1 x3 (nm (up3 dm x1 x3.toNatClampNeg (.null)) (fun m6 => nm (x3 + 1) (fun v7 => bAL_clear_l27 A n x1 x2 v7 m6)))) else some (dm)
theorem bAL_clear_l27_ok {E : Ev2} {l : Launch} {K : KF} {mm : Mem} {A : AS} {x : DM} (X : Ec2 E l K rmFAL_clear rmLAL_clear) (B : Bx2 E RJx4a65c tbAL_clear 4 none) (hQ : Rt2 E) (hr : Rs2 E none mm A x) (n : Nat) : ∀ (x1 : Nat) (x2 : Int32) (x3 : Int32) (dm : DM), bAL_clear_l27 A n x1 x2 x3 dm = some x → G2 E 4 27 [(1, .ref x1), (2, .int x2), (3, .int x3)] [] mm A dm := by
  induction n with
  | zero =>
    intro x1 x2 x3 dm hf
    rw [bAL_clear_l27] at hf
    cases hf
  | succ n ih =>
    intro x1 x2 x3 dm hf
    rw [bAL_clear_l27] at hf
    refine w_iload_n B 17 rfl 3 2 rfl rfl ?_
    refine w_iload_n B 18 rfl 2 1 rfl rfl ?_
    by_cases hc : x3 < x2
    · replace hf := (if_pos hc).symm.trans hf
      refine w_icmp_ge_f B 19 rfl 42 (by decide) hc ?_
      refine w_aload_n B 20 rfl 1 0 rfl rfl ?_
      refine w_iload_n B 21 rfl 3 2 rfl rfl ?_
      refine w_null B 22 rfl ?_
      obtain ⟨hk, hf⟩ := gkd_e hf
      obtain ⟨hx, hf⟩ := gix_e hf
      refine w_rastN B 23 rfl hk hx ?_
      obtain ⟨m6, ex, hf⟩ := nm_x hf
      refine w_dmm ex ?_
      obtain ⟨v7, ex, hf⟩ := nm_x hf
      refine w_iinc v7 [(3, .int v7), (1, .ref x1), (2, .int x2)] B 24 rfl 2 rfl (ex.symm) (by decide) rfl ?_
      refine w_goto B 25 rfl 27 (by decide) ?_
      refine w_sub [(1, .ref x1), (2, .int x2), (3, .int v7)] [1, 2, 0] rfl ?_
      exact ih _ _ _ _ hf
    · replace hf := (if_neg hc).symm.trans hf
      refine w_icmp_ge_t B 19 rfl 42 (by decide) hc ?_
      cases hf
      exact w_vret B 26 rfl hQ hr
def bAL_clear (A : AS) (dm : DM) (a0 : Nat) : Option (DM) := gkd A a0 9 (gti (dm a0 0) (fun v1 => gkd A a0 9 (nm (up3 dm a0 0 (.int (v1 + (1 : Int32)))) (fun m2 => gkd A a0 9 (gtr (m2 a0 1) (fun q3 => gkd A a0 9 (gti (m2 a0 2) (fun v4 => gkd A a0 9 (nm (up3 m2 a0 2 (.int (0 : Int32))) (fun m5 => bAL_clear_l27 A FU q3 v4 (0 : Int32) m5))))))))))
theorem ctAL_clear {l : Launch} {K : KF} {mm : Mem} {A : AS} {dm : DM} {a0 : Nat} {x : DM} (hf : bAL_clear A dm a0 = some x) : Ct2 l K yJx4a65c_clear_da8c8 cJx4a65c_clear_da8c8 4 none 0 0 [.ref a0] mm A dm none mm A x := by
  refine Ct2.of (tb := tbAL_clear) miAL_clear.2.1 miAL_clear.1 dtAL_clear (Nat.le_of_ble_eq_true rfl) ?_
  intro E B hQ hr X hI hcd
  clear hI
  clear hcd
  unfold bAL_clear at hf
  show G2 E 4 0 [(0, .ref a0)] [] mm A dm
  refine w_aload_n B 0 rfl 0 0 rfl rfl ?_
  refine w_dup B 1 rfl rfl ?_
  obtain ⟨hk, hf⟩ := gkd_e hf
  obtain ⟨v1, ex, hf⟩ := gti_e hf
  refine w_geti B 2 rfl 9 0 a0 (by decide) hk rfl (iAL_clear _ (List.mem_of_getElem? (i := 0) rfl)) (Or.inr (iAL_clear _ (List.mem_of_getElem? (i := 1) rfl))) ex ?_
  refine w_iconst 1 B 3 rfl (by decide) ?_
  refine w_iadd B 4 rfl ?_
  obtain ⟨hk, hf⟩ := gkd_e hf
  refine w_puti B 5 rfl 9 0 a0 (by decide) hk rfl (iAL_clear _ (List.mem_of_getElem? (i := 0) rfl)) (Or.inr (iAL_clear _ (List.mem_of_getElem? (i := 1) rfl))) rfl (ty := .int) (by decide) ⟨rfl, rfl⟩ ?_
  obtain ⟨m2, ex, hf⟩ := nm_x hf
  refine w_dmm ex ?_
  refine w_aload_n B 6 rfl 0 0 rfl rfl ?_
  obtain ⟨hk, hf⟩ := gkd_e hf
  obtain ⟨q3, ex, hf⟩ := gtr_e hf
  refine w_getr B 7 rfl 9 1 a0 (by decide) hk rfl (iAL_clear _ (List.mem_of_getElem? (i := 2) rfl)) (Or.inl rfl) ex ?_
  refine w_astore_n [(1, .ref q3), (0, .ref a0)] B 8 rfl 1 rfl (by decide) rfl ?_
  refine w_aload_n B 9 rfl 0 1 rfl rfl ?_
  obtain ⟨hk, hf⟩ := gkd_e hf
  obtain ⟨v4, ex, hf⟩ := gti_e hf
  refine w_geti B 10 rfl 9 2 a0 (by decide) hk rfl (iAL_clear _ (List.mem_of_getElem? (i := 3) rfl)) (Or.inl rfl) ex ?_
  refine w_istore_n [(2, .int v4), (1, .ref q3), (0, .ref a0)] B 11 rfl 2 rfl (by decide) rfl ?_
  refine w_aload_n B 12 rfl 0 2 rfl rfl ?_
  refine w_iconst 0 B 13 rfl (by decide) ?_
  refine w_dup_x1 B 14 rfl rfl rfl ?_
  obtain ⟨hk, hf⟩ := gkd_e hf
  refine w_puti B 15 rfl 9 2 a0 (by decide) hk rfl (iAL_clear _ (List.mem_of_getElem? (i := 3) rfl)) (Or.inl rfl) rfl (ty := .int) (by decide) ⟨rfl, rfl⟩ ?_
  obtain ⟨m5, ex, hf⟩ := nm_x hf
  refine w_dmm ex ?_
  refine w_istore_n [(3, .int (0 : Int32)), (2, .int v4), (1, .ref q3), (0, .ref a0)] B 16 rfl 3 rfl (by decide) rfl ?_
  refine w_sub [(1, .ref q3), (2, .int v4), (3, .int (0 : Int32))] [2, 1, 0] rfl ?_
  exact bAL_clear_l27_ok X B hQ hr FU _ _ _ _ hf
