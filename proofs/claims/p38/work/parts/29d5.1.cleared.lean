/-! ZoneCapacityLaw.isCleared(LZoneCapacity;LZoneCapacityLaw$Market;)Z -/
abbrev rmFL_isCleared : Nat := 14
abbrev rmLL_isCleared : Nat := 361
def wL_isCleared : List Cond := [.methodLink "ZoneCapacityLaw" 165 yX8_clear, .instanceMethod yX8_clear, .selects "ZoneCapacityLaw$Market" yX8_clear yX8_clear, .methodLink "ZoneCapacityLaw" 106 yJx4a65c_size_8abf5, .instanceMethod yJx4a65c_size_8abf5, .selects "java/util/ArrayList" yJx4a65c_size_8abf5 yJx4a65c_size_8abf5, .methodLink "ZoneCapacityLaw" 208 yX6_surplus, .instanceMethod yX6_surplus, .selects "ZoneCapacity" yX6_surplus yX6_surplus, .methodLink "ZoneCapacityLaw" 212 yX8_surplus, .instanceMethod yX8_surplus, .selects "ZoneCapacityLaw$Market" yX8_surplus yX8_surplus, .methodLink "ZoneCapacityLaw" 203 yX6_paid, .instanceMethod yX6_paid, .selects "ZoneCapacity" yX6_paid yX6_paid, .constantLong "ZoneCapacityLaw" 213 (-1000000000000000), .methodLink "ZoneCapacityLaw" 170 yX6_price, .instanceMethod yX6_price, .selects "ZoneCapacity" yX6_price yX6_price, .methodLink "ZoneCapacityLaw" 173 yX6_net, .instanceMethod yX6_net, .selects "ZoneCapacity" yX6_net yX6_net, .constant "ZoneCapacityLaw" 164 (-1000000), .methodLink "ZoneCapacityLaw" 182 yX6_served, .instanceMethod yX6_served, .selects "ZoneCapacity" yX6_served yX6_served, .methodLink "ZoneCapacityLaw" 194 yX6_rent, .instanceMethod yX6_rent, .selects "ZoneCapacity" yX6_rent yX6_rent, .methodLink "ZoneCapacityLaw" 190 yX6_charged, .instanceMethod yX6_charged, .selects "ZoneCapacity" yX6_charged yX6_charged, .methodLink "ZoneCapacityLaw" 197 yX6_binds, .instanceMethod yX6_binds, .selects "ZoneCapacity" yX6_binds yX6_binds, .methodLink "ZoneCapacityLaw" 91 yJx4a65c_get_915e3, .instanceMethod yJx4a65c_get_915e3, .selects "java/util/ArrayList" yJx4a65c_get_915e3 yJx4a65c_get_915e3, .classLink "ZoneCapacityLaw" 169 "[I", .methodLink "ZoneCapacityLaw" 206 yX8_taken, .instanceMethod yX8_taken, .selects "ZoneCapacityLaw$Market" yX8_taken yX8_taken, .methodLink "ZoneCapacityLaw" 187 yX6_taken, .instanceMethod yX6_taken, .selects "ZoneCapacity" yX6_taken yX6_taken, .methodLink "ZoneCapacityLaw" 158 yX8_line, .instanceMethod yX8_line, .selects "ZoneCapacityLaw$Market" yX8_line yX8_line, .methodLink "ZoneCapacityLaw" 157 yX8_level, .instanceMethod yX8_level, .selects "ZoneCapacityLaw$Market" yX8_level yX8_level]
theorem iL_isCleared : ∀ w ∈ wL_isCleared, w ∈ TW := tw_of (ids := [982, 983, 984, 774, 775, 776, 422, 423, 424, 1040, 1041, 1042, 1022, 1023, 1024, 1044, 328, 329, 330, 993, 994, 995, 978, 997, 998, 999, 1006, 1007, 1008, 1001, 1002, 1003, 1014, 1015, 1016, 761, 762, 763, 992, 1036, 1037, 1038, 407, 408, 409, 971, 854, 855, 848, 849, 850]) (by decide +kernel)
def bL_isCleared_j659 (k603 : Nat → Nat → Int64 → Int64 → Int64 → Int32 → Mem → AS → DM → Option (Int32 × Mem × AS × DM)) (k616 : Nat → Nat → Int64 → Int64 → Int64 → Int32 → Int64 → Int32 → Mem → AS → DM → Option (Int32 × Mem × AS × DM)) (x0 : Nat) (x1 : Nat) (x2 : Int64) (x4 : Int64) (x6 : Int64) (x8 : Int32) (x11 : Int32) (s0 : Int64) (s1 : Int64) (mm : Mem) (A : AS) (dm : DM) : Option (Int32 × Mem × AS × DM) := nm (s1 + s0) (fun v26 => nm (x11 + 1) (fun v27 => k616 x0 x1 x2 x4 x6 x8 v26 v27 mm A dm))
def tbbL_isCleared_j659 : Tb := [(659, .ladd, 1, 660), (660, .lstore 9, 2, 662), (662, .iinc 11 1, 3, 665), (665, .goto (-49), 3, 668)]
theorem dtbL_isCleared_j659 : ∀ q ∈ tbbL_isCleared_j659, decode cL_isCleared q.1 = .ok (q.2.1, q.2.2.1) ∧ q.1 + q.2.2.1 = q.2.2.2 := by decide +kernel
theorem bL_isCleared_j659_ok {E : Ev2} {l : Launch} {K : KF} {x : Int32 × Mem × AS × DM} {k603 : Nat → Nat → Int64 → Int64 → Int64 → Int32 → Mem → AS → DM → Option (Int32 × Mem × AS × DM)} {k616 : Nat → Nat → Int64 → Int64 → Int64 → Int32 → Int64 → Int32 → Mem → AS → DM → Option (Int32 × Mem × AS × DM)} (X : Ec2 E l K rmFL_isCleared rmLL_isCleared) (B0 : Bx2 E RL [] 16 (some .boolean)) (hcd : Cd2 E cL_isCleared) (hQ : Rt2 E) (hr : Rs2 E (some (.int x.1)) x.2.1 x.2.2.1 x.2.2.2) (hk603 : ∀ (x0 : Nat) (x1 : Nat) (x2 : Int64) (x4 : Int64) (x6 : Int64) (x8 : Int32) (mm : Mem) (A : AS) (dm : DM), k603 x0 x1 x2 x4 x6 x8 mm A dm = some x → G2 E 16 603 [(0, .ref x0), (1, .ref x1), (2, .long x2), (4, .long x4), (6, .long x6), (8, .int x8)] [] mm A dm) (hk616 : ∀ (x0 : Nat) (x1 : Nat) (x2 : Int64) (x4 : Int64) (x6 : Int64) (x8 : Int32) (x9 : Int64) (x11 : Int32) (mm : Mem) (A : AS) (dm : DM), k616 x0 x1 x2 x4 x6 x8 x9 x11 mm A dm = some x → G2 E 16 616 [(0, .ref x0), (1, .ref x1), (2, .long x2), (4, .long x4), (6, .long x6), (8, .int x8), (9, .long x9), (11, .int x11)] [] mm A dm) (x0 : Nat) (x1 : Nat) (x2 : Int64) (x4 : Int64) (x6 : Int64) (x8 : Int32) (x11 : Int32) (s0 : Int64) (s1 : Int64) (mm : Mem) (A : AS) (dm : DM) (hf : bL_isCleared_j659 k603 k616 x0 x1 x2 x4 x6 x8 x11 s0 s1 mm A dm = some x) : G2 E 16 659 [(0, .ref x0), (1, .ref x1), (2, .long x2), (4, .long x4), (6, .long x6), (8, .int x8), (11, .int x11)] [.long s0, .long s1] mm A dm := by
  unfold bL_isCleared_j659 at hf
  have B := B0.tab hcd dtbL_isCleared_j659
  refine w_ladd B 0 rfl ?_
  obtain ⟨v26, ex, hf⟩ := nm_x hf
  refine w_topl ex ?_
  refine w_lstore [(9, .long v26), (0, .ref x0), (1, .ref x1), (2, .long x2), (4, .long x4), (6, .long x6), (8, .int x8), (11, .int x11)] B 1 rfl (by decide) rfl ?_
  obtain ⟨v27, ex, hf⟩ := nm_x hf
  refine w_iinc v27 [(11, .int v27), (9, .long v26), (0, .ref x0), (1, .ref x1), (2, .long x2), (4, .long x4), (6, .long x6), (8, .int x8)] B 2 rfl 7 rfl (ex.symm) (by decide) rfl ?_
  refine w_goto B 3 rfl 616 (by decide) ?_
  refine w_sub [(0, .ref x0), (1, .ref x1), (2, .long x2), (4, .long x4), (6, .long x6), (8, .int x8), (9, .long v26), (11, .int v27)] [2, 3, 4, 5, 6, 7, 1, 0] rfl ?_
  exact hk616 _ _ _ _ _ _ _ _ _ _ _ hf
def bL_isCleared_l616 (k603 : Nat → Nat → Int64 → Int64 → Int64 → Int32 → Mem → AS → DM → Option (Int32 × Mem × AS × DM)) : Nat → Nat → Nat → Int64 → Int64 → Int64 → Int32 → Int64 → Int32 → Mem → AS → DM → Option (Int32 × Mem × AS × DM)
  | 0, _, _, _, _, _, _, _, _, _, _, _ => none
  | n + 1, x0, x1, x2, x4, x6, x8, x9, x11, mm, A, dm => gkd A x1 8 (gtr (dm x1 2) (fun q18 => gkd A q18 9 (bd (bAL_size A dm q18) (fun r19 => if x11 < r19 then gkd A x1 8 (gtr (dm x1 2) (fun q23 => gkd A q23 9 (bd (bAL_get A dm q23 x11) (fun r24 => gkd A r24 20 (gkd A r24 20 (gix A r24 (3 : Int32) (gti (dm r24 (3 : Int32).toNatClampNeg) (fun v25 => if v25 = x8 then gob A x0 (bd (f6_paid mm x11) (fun r28 => bL_isCleared_j659 k603 (fun x0 x1 x2 x4 x6 x8 x9 x11 mm9 A9 dm9 => bL_isCleared_l616 k603 n x0 x1 x2 x4 x6 x8 x9 x11 mm9 A9 dm9) x0 x1 x2 x4 x6 x8 x11 r28.1 x9 r28.2 A dm)) else bL_isCleared_j659 k603 (fun x0 x1 x2 x4 x6 x8 x9 x11 mm9 A9 dm9 => bL_isCleared_l616 k603 n x0 x1 x2 x4 x6 x8 x9 x11 mm9 A9 dm9) x0 x1 x2 x4 x6 x8 x11 (0 : Int64) x9 mm A dm)))))))) else gob A x0 (bd (f6_paid mm ((100 : Int32) + x8)) (fun r20 => if (lg_cmp r20.1 x9) = 0 then nm (x4 + x9) (fun v21 => nm (x8 + 1) (fun v22 => k603 x0 x1 x2 v21 x6 v22 r20.2 A dm)) else some ((0 : Int32), r20.2, A, dm)))))))
def tbbL_isCleared_l616 : Tb := [(616, .iload 11, 2, 618), (618, .aload_n 1, 1, 619), (619, .getfield 100, 3, 622), (622, .invokevirtual 106, 3, 625), (625, .if_icmp .ge 43, 3, 628), (668, .aload_n 0, 1, 669), (669, .bipush 100, 2, 671), (671, .iload 8, 2, 673), (673, .iadd, 1, 674), (674, .invokevirtual 203, 3, 677), (677, .lload 9, 2, 679), (679, .lcmp, 1, 680), (680, .ifCond .eq 5, 3, 683), (685, .lload 4, 2, 687), (687, .lload 9, 2, 689), (689, .ladd, 1, 690), (690, .lstore 4, 2, 692), (692, .iinc 8 1, 3, 695), (695, .goto (-92), 3, 698), (683, .iconst 0, 1, 684), (684, .ireturn, 1, 685), (628, .lload 9, 2, 630), (630, .aload_n 1, 1, 631), (631, .getfield 100, 3, 634), (634, .iload 11, 2, 636), (636, .invokevirtual 91, 3, 639), (639, .checkcast 169, 3, 642), (642, .iconst 3, 1, 643), (643, .iaload, 1, 644), (644, .iload 8, 2, 646), (646, .if_icmp .ne 12, 3, 649), (658, .lconst 0, 1, 659), (649, .aload_n 0, 1, 650), (650, .iload 11, 2, 652), (652, .invokevirtual 203, 3, 655), (655, .goto 4, 3, 658)]
theorem dtbL_isCleared_l616 : ∀ q ∈ tbbL_isCleared_l616, decode cL_isCleared q.1 = .ok (q.2.1, q.2.2.1) ∧ q.1 + q.2.2.1 = q.2.2.2 := by decide +kernel
theorem bL_isCleared_l616_ok {E : Ev2} {l : Launch} {K : KF} {x : Int32 × Mem × AS × DM} {k603 : Nat → Nat → Int64 → Int64 → Int64 → Int32 → Mem → AS → DM → Option (Int32 × Mem × AS × DM)} (X : Ec2 E l K rmFL_isCleared rmLL_isCleared) (B0 : Bx2 E RL [] 16 (some .boolean)) (hcd : Cd2 E cL_isCleared) (hQ : Rt2 E) (hr : Rs2 E (some (.int x.1)) x.2.1 x.2.2.1 x.2.2.2) (hk603 : ∀ (x0 : Nat) (x1 : Nat) (x2 : Int64) (x4 : Int64) (x6 : Int64) (x8 : Int32) (mm : Mem) (A : AS) (dm : DM), k603 x0 x1 x2 x4 x6 x8 mm A dm = some x → G2 E 16 603 [(0, .ref x0), (1, .ref x1), (2, .long x2), (4, .long x4), (6, .long x6), (8, .int x8)] [] mm A dm) (n : Nat) : ∀ (x0 : Nat) (x1 : Nat) (x2 : Int64) (x4 : Int64) (x6 : Int64) (x8 : Int32) (x9 : Int64) (x11 : Int32) (mm : Mem) (A : AS) (dm : DM), bL_isCleared_l616 k603 n x0 x1 x2 x4 x6 x8 x9 x11 mm A dm = some x → G2 E 16 616 [(0, .ref x0), (1, .ref x1), (2, .long x2), (4, .long x4), (6, .long x6), (8, .int x8), (9, .long x9), (11, .int x11)] [] mm A dm := by
  induction n with
  | zero =>
    intro x0 x1 x2 x4 x6 x8 x9 x11 mm A dm hf
    rw [bL_isCleared_l616] at hf
    cases hf
  | succ n ih =>
    intro x0 x1 x2 x4 x6 x8 x9 x11 mm A dm hf
    rw [bL_isCleared_l616] at hf
    have B := B0.tab hcd dtbL_isCleared_l616
    refine w_iload B 0 rfl 7 rfl ?_
    refine w_aload_n B 1 rfl 1 1 rfl rfl ?_
    obtain ⟨hk, hf⟩ := gkd_e hf
    obtain ⟨q18, ex, hf⟩ := gtr_e hf
    refine w_getrN B 2 rfl 8 2 x1 (by decide) hk rfl (List.mem_of_getElem? (i := 3) rfl) (Or.inl rfl) ex ?_
    obtain ⟨hk, hf⟩ := gkd_e hf
    obtain ⟨r19, ec, hf⟩ := bd_e hf
    refine w_callV q18 [] [.int x11] [.int r19, .int x11] X B 3 rfl miAL_size 9 (by decide) hk rfl rfl ⟨(iL_isCleared _ (List.mem_of_getElem? (i := 3) rfl)), (iL_isCleared _ (List.mem_of_getElem? (i := 4) rfl)), (iL_isCleared _ (List.mem_of_getElem? (i := 5) rfl))⟩ (ctAL_size ec) (Or.inl ⟨rfl, rfl⟩) ⟨Nat.le_of_ble_eq_true rfl, Nat.le_of_ble_eq_true rfl⟩ rfl rfl (Nat.le_of_ble_eq_true rfl) rfl ?_
    by_cases hc : x11 < r19
    · replace hf := (if_pos hc).symm.trans hf
      refine w_icmp_ge_f B 4 rfl 668 (by decide) hc ?_
      refine w_lload B 21 rfl 6 rfl ?_
      refine w_aload_n B 22 rfl 1 1 rfl rfl ?_
      obtain ⟨hk, hf⟩ := gkd_e hf
      obtain ⟨q23, ex, hf⟩ := gtr_e hf
      refine w_getrN B 23 rfl 8 2 x1 (by decide) hk rfl (List.mem_of_getElem? (i := 3) rfl) (Or.inl rfl) ex ?_
      refine w_iload B 24 rfl 7 rfl ?_
      obtain ⟨hk, hf⟩ := gkd_e hf
      obtain ⟨r24, ec, hf⟩ := bd_e hf
      refine w_callV q23 [.int x11] [.long x9] [.ref r24, .long x9] X B 25 rfl miAL_get 9 (by decide) hk rfl rfl ⟨(iL_isCleared _ (List.mem_of_getElem? (i := 35) rfl)), (iL_isCleared _ (List.mem_of_getElem? (i := 36) rfl)), (iL_isCleared _ (List.mem_of_getElem? (i := 37) rfl))⟩ (ctAL_get ec) (Or.inl ⟨rfl, rfl⟩) ⟨Nat.le_of_ble_eq_true rfl, Nat.le_of_ble_eq_true rfl⟩ rfl rfl (Nat.le_of_ble_eq_true rfl) rfl ?_
      obtain ⟨hk, hf⟩ := gkd_e hf
      refine w_castI B 26 rfl hk (iL_isCleared _ (List.mem_of_getElem? (i := 38) rfl)) ?_
      refine w_iconst 3 B 27 rfl (by decide) ?_
      obtain ⟨hk, hf⟩ := gkd_e hf
      obtain ⟨hx, hf⟩ := gix_e hf
      obtain ⟨v25, ex, hf⟩ := gti_e hf
      refine w_iald B 28 rfl hk hx ex ?_
      refine w_iload B 29 rfl 5 rfl ?_
      by_cases hc : v25 = x8
      · replace hf := (if_pos hc).symm.trans hf
        refine w_icmp_ne_f B 30 rfl 658 (by decide) hc ?_
        refine w_aload_n B 32 rfl 0 0 rfl rfl ?_
        refine w_iload B 33 rfl 7 rfl ?_
        obtain ⟨ho, hf⟩ := gob_e hf
        obtain ⟨r28, ec, hf⟩ := bd_e hf
        refine w_callC x0 [.int x11] [.long x9] [.long r28.1, .long x9] X B 34 rfl miX6_paid rfl ho ⟨(iL_isCleared _ (List.mem_of_getElem? (i := 12) rfl)), (iL_isCleared _ (List.mem_of_getElem? (i := 13) rfl)), (iL_isCleared _ (List.mem_of_getElem? (i := 14) rfl))⟩ (fun hj => ctX6_paid hj ec) ⟨Nat.le_of_ble_eq_true rfl, Nat.le_of_ble_eq_true rfl⟩ rfl (fun _ _ => rfl) (fun _ _ => rfl) rfl (Nat.le_of_ble_eq_true rfl) rfl ?_
        refine w_goto B 35 rfl 659 (by decide) ?_
        refine w_sub [(0, .ref x0), (1, .ref x1), (2, .long x2), (4, .long x4), (6, .long x6), (8, .int x8), (11, .int x11)] [0, 1, 2, 3, 4, 5, 7] rfl ?_
        exact bL_isCleared_j659_ok X B0 hcd hQ hr hk603 ih _ _ _ _ _ _ _ _ _ _ _ _ hf
      · replace hf := (if_neg hc).symm.trans hf
        refine w_icmp_ne_t B 30 rfl 658 (by decide) hc ?_
        refine w_lconst 0 B 31 rfl (by decide) ?_
        refine w_sub [(0, .ref x0), (1, .ref x1), (2, .long x2), (4, .long x4), (6, .long x6), (8, .int x8), (11, .int x11)] [0, 1, 2, 3, 4, 5, 7] rfl ?_
        exact bL_isCleared_j659_ok X B0 hcd hQ hr hk603 ih _ _ _ _ _ _ _ _ _ _ _ _ hf
    · replace hf := (if_neg hc).symm.trans hf
      refine w_icmp_ge_t B 4 rfl 668 (by decide) hc ?_
      refine w_aload_n B 5 rfl 0 0 rfl rfl ?_
      refine w_bipush 100 B 6 rfl (by decide) ?_
      refine w_iload B 7 rfl 5 rfl ?_
      refine w_iadd B 8 rfl ?_
      obtain ⟨ho, hf⟩ := gob_e hf
      obtain ⟨r20, ec, hf⟩ := bd_e hf
      refine w_callC x0 [.int ((100 : Int32) + x8)] [] [.long r20.1] X B 9 rfl miX6_paid rfl ho ⟨(iL_isCleared _ (List.mem_of_getElem? (i := 12) rfl)), (iL_isCleared _ (List.mem_of_getElem? (i := 13) rfl)), (iL_isCleared _ (List.mem_of_getElem? (i := 14) rfl))⟩ (fun hj => ctX6_paid hj ec) ⟨Nat.le_of_ble_eq_true rfl, Nat.le_of_ble_eq_true rfl⟩ rfl (fun _ _ => rfl) (fun _ _ => rfl) rfl (Nat.le_of_ble_eq_true rfl) rfl ?_
      refine w_lload B 10 rfl 6 rfl ?_
      refine w_lcmp B 11 rfl ?_
      by_cases hc : (lg_cmp r20.1 x9) = 0
      · replace hf := (if_pos hc).symm.trans hf
        refine w_if_eq_t B 12 rfl 685 (by decide) hc ?_
        refine w_lload B 13 rfl 3 rfl ?_
        refine w_lload B 14 rfl 6 rfl ?_
        refine w_ladd B 15 rfl ?_
        obtain ⟨v21, ex, hf⟩ := nm_x hf
        refine w_topl ex ?_
        refine w_lstore [(4, .long v21), (0, .ref x0), (1, .ref x1), (2, .long x2), (6, .long x6), (8, .int x8), (9, .long x9), (11, .int x11)] B 16 rfl (by decide) rfl ?_
        obtain ⟨v22, ex, hf⟩ := nm_x hf
        refine w_iinc v22 [(8, .int v22), (4, .long v21), (0, .ref x0), (1, .ref x1), (2, .long x2), (6, .long x6), (9, .long x9), (11, .int x11)] B 17 rfl 5 rfl (ex.symm) (by decide) rfl ?_
        refine w_goto B 18 rfl 603 (by decide) ?_
        refine w_sub [(0, .ref x0), (1, .ref x1), (2, .long x2), (4, .long v21), (6, .long x6), (8, .int v22)] [2, 3, 4, 1, 5, 0] rfl ?_
        exact hk603 _ _ _ _ _ _ _ _ _ hf
      · replace hf := (if_neg hc).symm.trans hf
        refine w_if_eq_f B 12 rfl 685 (by decide) hc ?_
        refine w_iconst 0 B 19 rfl (by decide) ?_
        cases hf
        exact w_iret B 20 rfl (by decide) hQ hr
def bL_isCleared_l603 : Nat → Nat → Nat → Int64 → Int64 → Int64 → Int32 → Mem → AS → DM → Option (Int32 × Mem × AS × DM)
  | 0, _, _, _, _, _, _, _, _, _ => none
  | n + 1, x0, x1, x2, x4, x6, x8, mm, A, dm => if x8 < (6 : Int32) then bL_isCleared_l616 (fun x0 x1 x2 x4 x6 x8 mm9 A9 dm9 => bL_isCleared_l603 n x0 x1 x2 x4 x6 x8 mm9 A9 dm9) FU x0 x1 x2 x4 x6 x8 (0 : Int64) (0 : Int32) mm A dm else gkd A x1 8 (gtr (dm x1 0) (fun q6 => gkd A q6 9 (bd (bAL_size A dm q6) (fun r7 => if (lg_cmp x2 (x4 + x6)) = 0 then gob A x0 (bd (f6_surplus mm) (fun r8 => gkd A x1 8 (bdg (fun (x : Int32 × Mem × AS × DM) => x.2.2.1) A (bX8_surplus A dm x1) (fun (x : Int64 × AS × DM) => x.2.1) (fun r9 => if (lg_cmp r8.1 r9.1) = 0 then gob r9.2.1 x0 (bd (f6_paid r8.2 (106 : Int32)) (fun r10 => if (lg_cmp r10.1 (-1000000000000000 : Int64)) = 0 then gob r9.2.1 x0 (bd (f6_paid r10.2 (99 : Int32)) (fun r11 => if (lg_cmp r11.1 (-1000000000000000 : Int64)) = 0 then gob r9.2.1 x0 (bd (f6_price r11.2 r7) (fun r12 => if r12.1 = (-1 : Int32) then gob r9.2.1 x0 (bd (f6_net r12.2 r7) (fun r13 => if r13.1 = (-1000000 : Int32) then gob r9.2.1 x0 (bd (f6_served r13.2 (-1 : Int32)) (fun r14 => if r14.1 = (-1 : Int32) then gob r9.2.1 x0 (bd (f6_rent r14.2 r7) (fun r15 => if (lg_cmp r15.1 (-1000000000000000 : Int64)) = 0 then gob r9.2.1 x0 (bd (f6_charged r15.2 r7) (fun r16 => if (lg_cmp r16.1 (-1000000000000000 : Int64)) = 0 then gob r9.2.1 x0 (bd (f6_binds r16.2 r7) (fun r17 => if r17.1 = (-1 : Int32) then some ((1 : Int32), r17.2, r9.2.1, r9.2.2) else some ((0 : Int32), r17.2, r9.2.1, r9.2.2))) else some ((0 : Int32), r16.2, r9.2.1, r9.2.2))) else some ((0 : Int32), r15.2, r9.2.1, r9.2.2))) else some ((0 : Int32), r14.2, r9.2.1, r9.2.2))) else some ((0 : Int32), r13.2, r9.2.1, r9.2.2))) else some ((0 : Int32), r12.2, r9.2.1, r9.2.2))) else some ((0 : Int32), r11.2, r9.2.1, r9.2.2))) else some ((0 : Int32), r10.2, r9.2.1, r9.2.2))) else some ((0 : Int32), r8.2, r9.2.1, r9.2.2))))) else some ((0 : Int32), mm, A, dm)))))
def tbbL_isCleared_l603 : Tb := [(603, .iload 8, 2, 605), (605, .bipush 6, 2, 607), (607, .if_icmp .ge 91, 3, 610), (698, .aload_n 1, 1, 699), (699, .getfield 55, 3, 702), (702, .invokevirtual 106, 3, 705), (705, .istore 8, 2, 707), (707, .lload_n 2, 1, 708), (708, .lload 4, 2, 710), (710, .lload 6, 2, 712), (712, .ladd, 1, 713), (713, .lcmp, 1, 714), (714, .ifCond .ne 111, 3, 717), (825, .iconst 0, 1, 826), (826, .ireturn, 1, 827), (717, .aload_n 0, 1, 718), (718, .invokevirtual 208, 3, 721), (721, .aload_n 1, 1, 722), (722, .invokevirtual 212, 3, 725), (725, .lcmp, 1, 726), (726, .ifCond .ne 99, 3, 729), (729, .aload_n 0, 1, 730), (730, .bipush 106, 2, 732), (732, .invokevirtual 203, 3, 735), (735, .ldc2_w 213, 3, 738), (738, .lcmp, 1, 739), (739, .ifCond .ne 86, 3, 742), (742, .aload_n 0, 1, 743), (743, .bipush 99, 2, 745), (745, .invokevirtual 203, 3, 748), (748, .ldc2_w 213, 3, 751), (751, .lcmp, 1, 752), (752, .ifCond .ne 73, 3, 755), (755, .aload_n 0, 1, 756), (756, .iload 8, 2, 758), (758, .invokevirtual 170, 3, 761), (761, .iconst (-1), 1, 762), (762, .if_icmp .ne 63, 3, 765), (765, .aload_n 0, 1, 766), (766, .iload 8, 2, 768), (768, .invokevirtual 173, 3, 771), (771, .ldc 164, 2, 773), (773, .if_icmp .ne 52, 3, 776), (776, .aload_n 0, 1, 777), (777, .iconst (-1), 1, 778), (778, .invokevirtual 182, 3, 781), (781, .iconst (-1), 1, 782), (782, .if_icmp .ne 43, 3, 785), (785, .aload_n 0, 1, 786), (786, .iload 8, 2, 788), (788, .invokevirtual 194, 3, 791), (791, .ldc2_w 213, 3, 794), (794, .lcmp, 1, 795), (795, .ifCond .ne 30, 3, 798), (798, .aload_n 0, 1, 799), (799, .iload 8, 2, 801), (801, .invokevirtual 190, 3, 804), (804, .ldc2_w 213, 3, 807), (807, .lcmp, 1, 808), (808, .ifCond .ne 17, 3, 811), (811, .aload_n 0, 1, 812), (812, .iload 8, 2, 814), (814, .invokevirtual 197, 3, 817), (817, .iconst (-1), 1, 818), (818, .if_icmp .ne 7, 3, 821), (821, .iconst 1, 1, 822), (822, .goto 4, 3, 825), (610, .lconst 0, 1, 611), (611, .lstore 9, 2, 613), (613, .iconst 0, 1, 614), (614, .istore 11, 2, 616)]
theorem dtbL_isCleared_l603 : ∀ q ∈ tbbL_isCleared_l603, decode cL_isCleared q.1 = .ok (q.2.1, q.2.2.1) ∧ q.1 + q.2.2.1 = q.2.2.2 := by decide +kernel
theorem bL_isCleared_l603_ok {E : Ev2} {l : Launch} {K : KF} {x : Int32 × Mem × AS × DM} (X : Ec2 E l K rmFL_isCleared rmLL_isCleared) (B0 : Bx2 E RL [] 16 (some .boolean)) (hcd : Cd2 E cL_isCleared) (hQ : Rt2 E) (hr : Rs2 E (some (.int x.1)) x.2.1 x.2.2.1 x.2.2.2) (n : Nat) : ∀ (x0 : Nat) (x1 : Nat) (x2 : Int64) (x4 : Int64) (x6 : Int64) (x8 : Int32) (mm : Mem) (A : AS) (dm : DM), bL_isCleared_l603 n x0 x1 x2 x4 x6 x8 mm A dm = some x → G2 E 16 603 [(0, .ref x0), (1, .ref x1), (2, .long x2), (4, .long x4), (6, .long x6), (8, .int x8)] [] mm A dm := by
  induction n with
  | zero =>
    intro x0 x1 x2 x4 x6 x8 mm A dm hf
    rw [bL_isCleared_l603] at hf
    cases hf
  | succ n ih =>
    intro x0 x1 x2 x4 x6 x8 mm A dm hf
    rw [bL_isCleared_l603] at hf
    have B := B0.tab hcd dtbL_isCleared_l603
    refine w_iload B 0 rfl 5 rfl ?_
    refine w_bipush 6 B 1 rfl (by decide) ?_
    by_cases hc : x8 < (6 : Int32)
    · replace hf := (if_pos hc).symm.trans hf
      refine w_icmp_ge_f B 2 rfl 698 (by decide) hc ?_
      refine w_lconst 0 B 67 rfl (by decide) ?_
      refine w_lstore [(9, .long (0 : Int64)), (0, .ref x0), (1, .ref x1), (2, .long x2), (4, .long x4), (6, .long x6), (8, .int x8)] B 68 rfl (by decide) rfl ?_
      refine w_iconst 0 B 69 rfl (by decide) ?_
      refine w_istore [(11, .int (0 : Int32)), (9, .long (0 : Int64)), (0, .ref x0), (1, .ref x1), (2, .long x2), (4, .long x4), (6, .long x6), (8, .int x8)] B 70 rfl (by decide) rfl ?_
      refine w_sub [(0, .ref x0), (1, .ref x1), (2, .long x2), (4, .long x4), (6, .long x6), (8, .int x8), (9, .long (0 : Int64)), (11, .int (0 : Int32))] [2, 3, 4, 5, 6, 7, 1, 0] rfl ?_
      exact bL_isCleared_l616_ok X B0 hcd hQ hr ih FU _ _ _ _ _ _ _ _ _ _ _ hf
    · replace hf := (if_neg hc).symm.trans hf
      refine w_icmp_ge_t B 2 rfl 698 (by decide) hc ?_
      refine w_aload_n B 3 rfl 1 1 rfl rfl ?_
      obtain ⟨hk, hf⟩ := gkd_e hf
      obtain ⟨q6, ex, hf⟩ := gtr_e hf
      refine w_getrN B 4 rfl 8 0 x1 (by decide) hk rfl (List.mem_of_getElem? (i := 1) rfl) (Or.inl rfl) ex ?_
      obtain ⟨hk, hf⟩ := gkd_e hf
      obtain ⟨r7, ec, hf⟩ := bd_e hf
      refine w_callV q6 [] [] [.int r7] X B 5 rfl miAL_size 9 (by decide) hk rfl rfl ⟨(iL_isCleared _ (List.mem_of_getElem? (i := 3) rfl)), (iL_isCleared _ (List.mem_of_getElem? (i := 4) rfl)), (iL_isCleared _ (List.mem_of_getElem? (i := 5) rfl))⟩ (ctAL_size ec) (Or.inl ⟨rfl, rfl⟩) ⟨Nat.le_of_ble_eq_true rfl, Nat.le_of_ble_eq_true rfl⟩ rfl rfl (Nat.le_of_ble_eq_true rfl) rfl ?_
      refine w_istore [(8, .int r7), (0, .ref x0), (1, .ref x1), (2, .long x2), (4, .long x4), (6, .long x6)] B 6 rfl (by decide) rfl ?_
      refine w_lload_n B 7 rfl 2 3 rfl rfl ?_
      refine w_lload B 8 rfl 4 rfl ?_
      refine w_lload B 9 rfl 5 rfl ?_
      refine w_ladd B 10 rfl ?_
      refine w_lcmp B 11 rfl ?_
      by_cases hc : (lg_cmp x2 (x4 + x6)) = 0
      · replace hf := (if_pos hc).symm.trans hf
        refine w_if_ne_f B 12 rfl 825 (by decide) hc ?_
        refine w_aload_n B 15 rfl 0 1 rfl rfl ?_
        obtain ⟨ho, hf⟩ := gob_e hf
        obtain ⟨r8, ec, hf⟩ := bd_e hf
        refine w_callC x0 [] [] [.long r8.1] X B 16 rfl miX6_surplus rfl ho ⟨(iL_isCleared _ (List.mem_of_getElem? (i := 6) rfl)), (iL_isCleared _ (List.mem_of_getElem? (i := 7) rfl)), (iL_isCleared _ (List.mem_of_getElem? (i := 8) rfl))⟩ (fun hj => ctX6_surplus hj ec) ⟨Nat.le_of_ble_eq_true rfl, Nat.le_of_ble_eq_true rfl⟩ rfl (fun _ _ => rfl) (fun _ _ => rfl) rfl (Nat.le_of_ble_eq_true rfl) rfl ?_
        refine w_aload_n B 17 rfl 1 2 rfl rfl ?_
        obtain ⟨hk, hf⟩ := gkd_e hf
        obtain ⟨r9, ec, hgd, hf⟩ := bdg_e hf
        refine w_callV x1 [] [.long r8.1] [.long r9.1, .long r8.1] X B 18 rfl miX8_surplus 8 (by decide) hk rfl rfl ⟨(iL_isCleared _ (List.mem_of_getElem? (i := 9) rfl)), (iL_isCleared _ (List.mem_of_getElem? (i := 10) rfl)), (iL_isCleared _ (List.mem_of_getElem? (i := 11) rfl))⟩ (ctX8_surplus ec) (Or.inr ⟨_, _, _, _, hr, hgd⟩) ⟨Nat.le_of_ble_eq_true rfl, Nat.le_of_ble_eq_true rfl⟩ rfl rfl (Nat.le_of_ble_eq_true rfl) rfl ?_
        refine w_lcmp B 19 rfl ?_
        by_cases hc : (lg_cmp r8.1 r9.1) = 0
        · replace hf := (if_pos hc).symm.trans hf
          refine w_if_ne_f B 20 rfl 825 (by decide) hc ?_
          refine w_aload_n B 21 rfl 0 1 rfl rfl ?_
          refine w_bipush 106 B 22 rfl (by decide) ?_
          obtain ⟨ho, hf⟩ := gob_e hf
          obtain ⟨r10, ec, hf⟩ := bd_e hf
          refine w_callC x0 [.int (106 : Int32)] [] [.long r10.1] X B 23 rfl miX6_paid rfl ho ⟨(iL_isCleared _ (List.mem_of_getElem? (i := 12) rfl)), (iL_isCleared _ (List.mem_of_getElem? (i := 13) rfl)), (iL_isCleared _ (List.mem_of_getElem? (i := 14) rfl))⟩ (fun hj => ctX6_paid hj ec) ⟨Nat.le_of_ble_eq_true rfl, Nat.le_of_ble_eq_true rfl⟩ rfl (fun _ _ => rfl) (fun _ _ => rfl) rfl (Nat.le_of_ble_eq_true rfl) rfl ?_
          refine w_ldc2 (-1000000000000000) B 24 rfl (iL_isCleared _ (List.mem_of_getElem? (i := 15) rfl)) ?_
          refine w_lcmp B 25 rfl ?_
          by_cases hc : (lg_cmp r10.1 (-1000000000000000 : Int64)) = 0
          · replace hf := (if_pos hc).symm.trans hf
            refine w_if_ne_f B 26 rfl 825 (by decide) hc ?_
            refine w_aload_n B 27 rfl 0 1 rfl rfl ?_
            refine w_bipush 99 B 28 rfl (by decide) ?_
            obtain ⟨ho, hf⟩ := gob_e hf
            obtain ⟨r11, ec, hf⟩ := bd_e hf
            refine w_callC x0 [.int (99 : Int32)] [] [.long r11.1] X B 29 rfl miX6_paid rfl ho ⟨(iL_isCleared _ (List.mem_of_getElem? (i := 12) rfl)), (iL_isCleared _ (List.mem_of_getElem? (i := 13) rfl)), (iL_isCleared _ (List.mem_of_getElem? (i := 14) rfl))⟩ (fun hj => ctX6_paid hj ec) ⟨Nat.le_of_ble_eq_true rfl, Nat.le_of_ble_eq_true rfl⟩ rfl (fun _ _ => rfl) (fun _ _ => rfl) rfl (Nat.le_of_ble_eq_true rfl) rfl ?_
            refine w_ldc2 (-1000000000000000) B 30 rfl (iL_isCleared _ (List.mem_of_getElem? (i := 15) rfl)) ?_
            refine w_lcmp B 31 rfl ?_
            by_cases hc : (lg_cmp r11.1 (-1000000000000000 : Int64)) = 0
            · replace hf := (if_pos hc).symm.trans hf
              refine w_if_ne_f B 32 rfl 825 (by decide) hc ?_
              refine w_aload_n B 33 rfl 0 1 rfl rfl ?_
              refine w_iload B 34 rfl 0 rfl ?_
              obtain ⟨ho, hf⟩ := gob_e hf
              obtain ⟨r12, ec, hf⟩ := bd_e hf
              refine w_callC x0 [.int r7] [] [.int r12.1] X B 35 rfl miX6_price rfl ho ⟨(iL_isCleared _ (List.mem_of_getElem? (i := 16) rfl)), (iL_isCleared _ (List.mem_of_getElem? (i := 17) rfl)), (iL_isCleared _ (List.mem_of_getElem? (i := 18) rfl))⟩ (fun hj => ctX6_price hj ec) ⟨Nat.le_of_ble_eq_true rfl, Nat.le_of_ble_eq_true rfl⟩ rfl (fun _ _ => rfl) (fun _ _ => rfl) rfl (Nat.le_of_ble_eq_true rfl) rfl ?_
              refine w_iconst (-1) B 36 rfl (by decide) ?_
              by_cases hc : r12.1 = (-1 : Int32)
              · replace hf := (if_pos hc).symm.trans hf
                refine w_icmp_ne_f B 37 rfl 825 (by decide) hc ?_
                refine w_aload_n B 38 rfl 0 1 rfl rfl ?_
                refine w_iload B 39 rfl 0 rfl ?_
                obtain ⟨ho, hf⟩ := gob_e hf
                obtain ⟨r13, ec, hf⟩ := bd_e hf
                refine w_callC x0 [.int r7] [] [.int r13.1] X B 40 rfl miX6_net rfl ho ⟨(iL_isCleared _ (List.mem_of_getElem? (i := 19) rfl)), (iL_isCleared _ (List.mem_of_getElem? (i := 20) rfl)), (iL_isCleared _ (List.mem_of_getElem? (i := 21) rfl))⟩ (fun hj => ctX6_net hj ec) ⟨Nat.le_of_ble_eq_true rfl, Nat.le_of_ble_eq_true rfl⟩ rfl (fun _ _ => rfl) (fun _ _ => rfl) rfl (Nat.le_of_ble_eq_true rfl) rfl ?_
                refine w_ldc (-1000000) B 41 rfl (iL_isCleared _ (List.mem_of_getElem? (i := 22) rfl)) ?_
                by_cases hc : r13.1 = (-1000000 : Int32)
                · replace hf := (if_pos hc).symm.trans hf
                  refine w_icmp_ne_f B 42 rfl 825 (by decide) hc ?_
                  refine w_aload_n B 43 rfl 0 1 rfl rfl ?_
                  refine w_iconst (-1) B 44 rfl (by decide) ?_
                  obtain ⟨ho, hf⟩ := gob_e hf
                  obtain ⟨r14, ec, hf⟩ := bd_e hf
                  refine w_callC x0 [.int (-1 : Int32)] [] [.int r14.1] X B 45 rfl miX6_served rfl ho ⟨(iL_isCleared _ (List.mem_of_getElem? (i := 23) rfl)), (iL_isCleared _ (List.mem_of_getElem? (i := 24) rfl)), (iL_isCleared _ (List.mem_of_getElem? (i := 25) rfl))⟩ (fun hj => ctX6_served hj ec) ⟨Nat.le_of_ble_eq_true rfl, Nat.le_of_ble_eq_true rfl⟩ rfl (fun _ _ => rfl) (fun _ _ => rfl) rfl (Nat.le_of_ble_eq_true rfl) rfl ?_
                  refine w_iconst (-1) B 46 rfl (by decide) ?_
                  by_cases hc : r14.1 = (-1 : Int32)
                  · replace hf := (if_pos hc).symm.trans hf
                    refine w_icmp_ne_f B 47 rfl 825 (by decide) hc ?_
                    refine w_aload_n B 48 rfl 0 1 rfl rfl ?_
                    refine w_iload B 49 rfl 0 rfl ?_
                    obtain ⟨ho, hf⟩ := gob_e hf
                    obtain ⟨r15, ec, hf⟩ := bd_e hf
                    refine w_callC x0 [.int r7] [] [.long r15.1] X B 50 rfl miX6_rent rfl ho ⟨(iL_isCleared _ (List.mem_of_getElem? (i := 26) rfl)), (iL_isCleared _ (List.mem_of_getElem? (i := 27) rfl)), (iL_isCleared _ (List.mem_of_getElem? (i := 28) rfl))⟩ (fun hj => ctX6_rent hj ec) ⟨Nat.le_of_ble_eq_true rfl, Nat.le_of_ble_eq_true rfl⟩ rfl (fun _ _ => rfl) (fun _ _ => rfl) rfl (Nat.le_of_ble_eq_true rfl) rfl ?_
                    refine w_ldc2 (-1000000000000000) B 51 rfl (iL_isCleared _ (List.mem_of_getElem? (i := 15) rfl)) ?_
                    refine w_lcmp B 52 rfl ?_
                    by_cases hc : (lg_cmp r15.1 (-1000000000000000 : Int64)) = 0
                    · replace hf := (if_pos hc).symm.trans hf
                      refine w_if_ne_f B 53 rfl 825 (by decide) hc ?_
                      refine w_aload_n B 54 rfl 0 1 rfl rfl ?_
                      refine w_iload B 55 rfl 0 rfl ?_
                      obtain ⟨ho, hf⟩ := gob_e hf
                      obtain ⟨r16, ec, hf⟩ := bd_e hf
                      refine w_callC x0 [.int r7] [] [.long r16.1] X B 56 rfl miX6_charged rfl ho ⟨(iL_isCleared _ (List.mem_of_getElem? (i := 29) rfl)), (iL_isCleared _ (List.mem_of_getElem? (i := 30) rfl)), (iL_isCleared _ (List.mem_of_getElem? (i := 31) rfl))⟩ (fun hj => ctX6_charged hj ec) ⟨Nat.le_of_ble_eq_true rfl, Nat.le_of_ble_eq_true rfl⟩ rfl (fun _ _ => rfl) (fun _ _ => rfl) rfl (Nat.le_of_ble_eq_true rfl) rfl ?_
                      refine w_ldc2 (-1000000000000000) B 57 rfl (iL_isCleared _ (List.mem_of_getElem? (i := 15) rfl)) ?_
                      refine w_lcmp B 58 rfl ?_
                      by_cases hc : (lg_cmp r16.1 (-1000000000000000 : Int64)) = 0
                      · replace hf := (if_pos hc).symm.trans hf
                        refine w_if_ne_f B 59 rfl 825 (by decide) hc ?_
                        refine w_aload_n B 60 rfl 0 1 rfl rfl ?_
                        refine w_iload B 61 rfl 0 rfl ?_
                        obtain ⟨ho, hf⟩ := gob_e hf
                        obtain ⟨r17, ec, hf⟩ := bd_e hf
                        refine w_callC x0 [.int r7] [] [.int r17.1] X B 62 rfl miX6_binds rfl ho ⟨(iL_isCleared _ (List.mem_of_getElem? (i := 32) rfl)), (iL_isCleared _ (List.mem_of_getElem? (i := 33) rfl)), (iL_isCleared _ (List.mem_of_getElem? (i := 34) rfl))⟩ (fun hj => ctX6_binds hj ec) ⟨Nat.le_of_ble_eq_true rfl, Nat.le_of_ble_eq_true rfl⟩ rfl (fun _ _ => rfl) (fun _ _ => rfl) rfl (Nat.le_of_ble_eq_true rfl) rfl ?_
                        refine w_iconst (-1) B 63 rfl (by decide) ?_
                        by_cases hc : r17.1 = (-1 : Int32)
                        · replace hf := (if_pos hc).symm.trans hf
                          refine w_icmp_ne_f B 64 rfl 825 (by decide) hc ?_
                          refine w_iconst 1 B 65 rfl (by decide) ?_
                          refine w_goto B 66 rfl 826 (by decide) ?_
                          cases hf
                          exact w_iret B 14 rfl (by decide) hQ hr
                        · replace hf := (if_neg hc).symm.trans hf
                          refine w_icmp_ne_t B 64 rfl 825 (by decide) hc ?_
                          refine w_iconst 0 B 13 rfl (by decide) ?_
                          cases hf
                          exact w_iret B 14 rfl (by decide) hQ hr
                      · replace hf := (if_neg hc).symm.trans hf
                        refine w_if_ne_t B 59 rfl 825 (by decide) hc ?_
                        refine w_iconst 0 B 13 rfl (by decide) ?_
                        cases hf
                        exact w_iret B 14 rfl (by decide) hQ hr
                    · replace hf := (if_neg hc).symm.trans hf
                      refine w_if_ne_t B 53 rfl 825 (by decide) hc ?_
                      refine w_iconst 0 B 13 rfl (by decide) ?_
                      cases hf
                      exact w_iret B 14 rfl (by decide) hQ hr
                  · replace hf := (if_neg hc).symm.trans hf
                    refine w_icmp_ne_t B 47 rfl 825 (by decide) hc ?_
                    refine w_iconst 0 B 13 rfl (by decide) ?_
                    cases hf
                    exact w_iret B 14 rfl (by decide) hQ hr
                · replace hf := (if_neg hc).symm.trans hf
                  refine w_icmp_ne_t B 42 rfl 825 (by decide) hc ?_
                  refine w_iconst 0 B 13 rfl (by decide) ?_
                  cases hf
                  exact w_iret B 14 rfl (by decide) hQ hr
              · replace hf := (if_neg hc).symm.trans hf
                refine w_icmp_ne_t B 37 rfl 825 (by decide) hc ?_
                refine w_iconst 0 B 13 rfl (by decide) ?_
                cases hf
                exact w_iret B 14 rfl (by decide) hQ hr
            · replace hf := (if_neg hc).symm.trans hf
              refine w_if_ne_t B 32 rfl 825 (by decide) hc ?_
              refine w_iconst 0 B 13 rfl (by decide) ?_
              cases hf
              exact w_iret B 14 rfl (by decide) hQ hr
          · replace hf := (if_neg hc).symm.trans hf
            refine w_if_ne_t B 26 rfl 825 (by decide) hc ?_
            refine w_iconst 0 B 13 rfl (by decide) ?_
            cases hf
            exact w_iret B 14 rfl (by decide) hQ hr
        · replace hf := (if_neg hc).symm.trans hf
          refine w_if_ne_t B 20 rfl 825 (by decide) hc ?_
          refine w_iconst 0 B 13 rfl (by decide) ?_
          cases hf
          exact w_iret B 14 rfl (by decide) hQ hr
      · replace hf := (if_neg hc).symm.trans hf
        refine w_if_ne_t B 12 rfl 825 (by decide) hc ?_
        refine w_iconst 0 B 13 rfl (by decide) ?_
        cases hf
        exact w_iret B 14 rfl (by decide) hQ hr
def bL_isCleared_j544 (k488 : Nat → Nat → Int64 → Int64 → Int64 → Int32 → Mem → AS → DM → Option (Int32 × Mem × AS × DM)) (k503 : Nat → Nat → Int64 → Int64 → Int64 → Int32 → Int32 → Mem → AS → DM → Option (Int32 × Mem × AS × DM)) (x0 : Nat) (x1 : Nat) (x2 : Int64) (x4 : Int64) (x6 : Int64) (x8 : Int32) (x9 : Int32) (s0 : Int32) (s1 : Int32) (mm : Mem) (A : AS) (dm : DM) : Option (Int32 × Mem × AS × DM) := if s1 = s0 then nm (x9 + 1) (fun v39 => k503 x0 x1 x2 x4 x6 x8 v39 mm A dm) else some ((0 : Int32), mm, A, dm)
def tbbL_isCleared_j544 : Tb := [(544, .if_icmp .eq 5, 3, 547), (549, .iinc 9 1, 3, 552), (552, .goto (-49), 3, 555), (547, .iconst 0, 1, 548), (548, .ireturn, 1, 549)]
theorem dtbL_isCleared_j544 : ∀ q ∈ tbbL_isCleared_j544, decode cL_isCleared q.1 = .ok (q.2.1, q.2.2.1) ∧ q.1 + q.2.2.1 = q.2.2.2 := by decide +kernel
theorem bL_isCleared_j544_ok {E : Ev2} {l : Launch} {K : KF} {x : Int32 × Mem × AS × DM} {k488 : Nat → Nat → Int64 → Int64 → Int64 → Int32 → Mem → AS → DM → Option (Int32 × Mem × AS × DM)} {k503 : Nat → Nat → Int64 → Int64 → Int64 → Int32 → Int32 → Mem → AS → DM → Option (Int32 × Mem × AS × DM)} (X : Ec2 E l K rmFL_isCleared rmLL_isCleared) (B0 : Bx2 E RL [] 16 (some .boolean)) (hcd : Cd2 E cL_isCleared) (hQ : Rt2 E) (hr : Rs2 E (some (.int x.1)) x.2.1 x.2.2.1 x.2.2.2) (hk488 : ∀ (x0 : Nat) (x1 : Nat) (x2 : Int64) (x4 : Int64) (x6 : Int64) (x8 : Int32) (mm : Mem) (A : AS) (dm : DM), k488 x0 x1 x2 x4 x6 x8 mm A dm = some x → G2 E 16 488 [(0, .ref x0), (1, .ref x1), (2, .long x2), (4, .long x4), (6, .long x6), (8, .int x8)] [] mm A dm) (hk503 : ∀ (x0 : Nat) (x1 : Nat) (x2 : Int64) (x4 : Int64) (x6 : Int64) (x8 : Int32) (x9 : Int32) (mm : Mem) (A : AS) (dm : DM), k503 x0 x1 x2 x4 x6 x8 x9 mm A dm = some x → G2 E 16 503 [(0, .ref x0), (1, .ref x1), (2, .long x2), (4, .long x4), (6, .long x6), (8, .int x8), (9, .int x9)] [] mm A dm) (x0 : Nat) (x1 : Nat) (x2 : Int64) (x4 : Int64) (x6 : Int64) (x8 : Int32) (x9 : Int32) (s0 : Int32) (s1 : Int32) (mm : Mem) (A : AS) (dm : DM) (hf : bL_isCleared_j544 k488 k503 x0 x1 x2 x4 x6 x8 x9 s0 s1 mm A dm = some x) : G2 E 16 544 [(0, .ref x0), (1, .ref x1), (2, .long x2), (4, .long x4), (6, .long x6), (8, .int x8), (9, .int x9)] [.int s0, .int s1] mm A dm := by
  unfold bL_isCleared_j544 at hf
  have B := B0.tab hcd dtbL_isCleared_j544
  by_cases hc : s1 = s0
  · replace hf := (if_pos hc).symm.trans hf
    refine w_icmp_eq_t B 0 rfl 549 (by decide) hc ?_
    obtain ⟨v39, ex, hf⟩ := nm_x hf
    refine w_iinc v39 [(9, .int v39), (0, .ref x0), (1, .ref x1), (2, .long x2), (4, .long x4), (6, .long x6), (8, .int x8)] B 1 rfl 6 rfl (ex.symm) (by decide) rfl ?_
    refine w_goto B 2 rfl 503 (by decide) ?_
    refine w_sub [(0, .ref x0), (1, .ref x1), (2, .long x2), (4, .long x4), (6, .long x6), (8, .int x8), (9, .int v39)] [1, 2, 3, 4, 5, 6, 0] rfl ?_
    exact hk503 _ _ _ _ _ _ _ _ _ _ hf
  · replace hf := (if_neg hc).symm.trans hf
    refine w_icmp_eq_f B 0 rfl 549 (by decide) hc ?_
    refine w_iconst 0 B 3 rfl (by decide) ?_
    cases hf
    exact w_iret B 4 rfl (by decide) hQ hr
def bL_isCleared_l503 (k488 : Nat → Nat → Int64 → Int64 → Int64 → Int32 → Mem → AS → DM → Option (Int32 × Mem × AS × DM)) : Nat → Nat → Nat → Int64 → Int64 → Int64 → Int32 → Int32 → Mem → AS → DM → Option (Int32 × Mem × AS × DM)
  | 0, _, _, _, _, _, _, _, _, _, _ => none
  | n + 1, x0, x1, x2, x4, x6, x8, x9, mm, A, dm => if x9 < (4 : Int32) then gob A x0 (bd (f6_taken mm x8 x9) (fun r36 => gkd A x1 8 (bdg (fun (x : Int32 × Mem × AS × DM) => x.2.2.1) A (bX8_line A dm x1 x8 x9) (fun (x : Nat × AS × DM) => x.2.1) (fun r37 => gkd r37.2.1 r37.1 20 (gix r37.2.1 r37.1 (0 : Int32) (gti (r37.2.2 r37.1 (0 : Int32).toNatClampNeg) (fun v38 => if 0 < v38 then gkd r37.2.1 x1 8 (gtr (r37.2.2 x1 9) (fun q40 => gkd r37.2.1 q40 22 (gix r37.2.1 q40 x8 (gtr (r37.2.2 q40 x8.toNatClampNeg) (fun q41 => gkd r37.2.1 q41 20 (gix r37.2.1 q41 x9 (gti (r37.2.2 q41 x9.toNatClampNeg) (fun v42 => bL_isCleared_j544 k488 (fun x0 x1 x2 x4 x6 x8 x9 mm9 A9 dm9 => bL_isCleared_l503 k488 n x0 x1 x2 x4 x6 x8 x9 mm9 A9 dm9) x0 x1 x2 x4 x6 x8 x9 v42 r36.1 r36.2 r37.2.1 r37.2.2)))))))) else bL_isCleared_j544 k488 (fun x0 x1 x2 x4 x6 x8 x9 mm9 A9 dm9 => bL_isCleared_l503 k488 n x0 x1 x2 x4 x6 x8 x9 mm9 A9 dm9) x0 x1 x2 x4 x6 x8 x9 (-1 : Int32) r36.1 r36.2 r37.2.1 r37.2.2))))))) else gob A x0 (bd (f6_paid mm x8) (fun r29 => gkd A x1 8 (gtr (dm x1 2) (fun q30 => gkd A q30 9 (bd (bAL_get A dm q30 x8) (fun r31 => gkd A r31 20 (gkd A r31 20 (gix A r31 (0 : Int32) (gti (dm r31 (0 : Int32).toNatClampNeg) (fun v32 => gob A x0 (bd (f6_price r29.2 v32) (fun r33 => gkd A x1 8 (bd (bX8_taken A dm x1 x8) (fun r34 => if (lg_cmp r29.1 (r33.1.toInt64 * r34.toInt64)) = 0 then nm (x8 + 1) (fun v35 => k488 x0 x1 x2 x4 x6 v35 r33.2 A dm) else some ((0 : Int32), r33.2, A, dm)))))))))))))))
def tbbL_isCleared_l503 : Tb := [(503, .iload 9, 2, 505), (505, .iconst 4, 1, 506), (506, .if_icmp .ge 49, 3, 509), (555, .aload_n 0, 1, 556), (556, .iload 8, 2, 558), (558, .invokevirtual 203, 3, 561), (561, .aload_n 0, 1, 562), (562, .aload_n 1, 1, 563), (563, .getfield 100, 3, 566), (566, .iload 8, 2, 568), (568, .invokevirtual 91, 3, 571), (571, .checkcast 169, 3, 574), (574, .iconst 0, 1, 575), (575, .iaload, 1, 576), (576, .invokevirtual 170, 3, 579), (579, .i2l, 1, 580), (580, .aload_n 1, 1, 581), (581, .iload 8, 2, 583), (583, .invokevirtual 206, 3, 586), (586, .i2l, 1, 587), (587, .lmul, 1, 588), (588, .lcmp, 1, 589), (589, .ifCond .eq 5, 3, 592), (594, .iinc 8 1, 3, 597), (597, .goto (-109), 3, 600), (592, .iconst 0, 1, 593), (593, .ireturn, 1, 594), (509, .aload_n 0, 1, 510), (510, .iload 8, 2, 512), (512, .iload 9, 2, 514), (514, .invokevirtual 187, 3, 517), (517, .aload_n 1, 1, 518), (518, .iload 8, 2, 520), (520, .iload 9, 2, 522), (522, .invokevirtual 158, 3, 525), (525, .iconst 0, 1, 526), (526, .iaload, 1, 527), (527, .ifCond .le 16, 3, 530), (543, .iconst (-1), 1, 544), (530, .aload_n 1, 1, 531), (531, .getfield 200, 3, 534), (534, .iload 8, 2, 536), (536, .aaload, 1, 537), (537, .iload 9, 2, 539), (539, .iaload, 1, 540), (540, .goto 4, 3, 543)]
theorem dtbL_isCleared_l503 : ∀ q ∈ tbbL_isCleared_l503, decode cL_isCleared q.1 = .ok (q.2.1, q.2.2.1) ∧ q.1 + q.2.2.1 = q.2.2.2 := by decide +kernel
theorem bL_isCleared_l503_ok {E : Ev2} {l : Launch} {K : KF} {x : Int32 × Mem × AS × DM} {k488 : Nat → Nat → Int64 → Int64 → Int64 → Int32 → Mem → AS → DM → Option (Int32 × Mem × AS × DM)} (X : Ec2 E l K rmFL_isCleared rmLL_isCleared) (B0 : Bx2 E RL [] 16 (some .boolean)) (hcd : Cd2 E cL_isCleared) (hQ : Rt2 E) (hr : Rs2 E (some (.int x.1)) x.2.1 x.2.2.1 x.2.2.2) (hk488 : ∀ (x0 : Nat) (x1 : Nat) (x2 : Int64) (x4 : Int64) (x6 : Int64) (x8 : Int32) (mm : Mem) (A : AS) (dm : DM), k488 x0 x1 x2 x4 x6 x8 mm A dm = some x → G2 E 16 488 [(0, .ref x0), (1, .ref x1), (2, .long x2), (4, .long x4), (6, .long x6), (8, .int x8)] [] mm A dm) (n : Nat) : ∀ (x0 : Nat) (x1 : Nat) (x2 : Int64) (x4 : Int64) (x6 : Int64) (x8 : Int32) (x9 : Int32) (mm : Mem) (A : AS) (dm : DM), bL_isCleared_l503 k488 n x0 x1 x2 x4 x6 x8 x9 mm A dm = some x → G2 E 16 503 [(0, .ref x0), (1, .ref x1), (2, .long x2), (4, .long x4), (6, .long x6), (8, .int x8), (9, .int x9)] [] mm A dm := by
  induction n with
  | zero =>
    intro x0 x1 x2 x4 x6 x8 x9 mm A dm hf
    rw [bL_isCleared_l503] at hf
    cases hf
  | succ n ih =>
    intro x0 x1 x2 x4 x6 x8 x9 mm A dm hf
    rw [bL_isCleared_l503] at hf
    have B := B0.tab hcd dtbL_isCleared_l503
    refine w_iload B 0 rfl 6 rfl ?_
    refine w_iconst 4 B 1 rfl (by decide) ?_
    by_cases hc : x9 < (4 : Int32)
    · replace hf := (if_pos hc).symm.trans hf
      refine w_icmp_ge_f B 2 rfl 555 (by decide) hc ?_
      refine w_aload_n B 27 rfl 0 0 rfl rfl ?_
      refine w_iload B 28 rfl 5 rfl ?_
      refine w_iload B 29 rfl 6 rfl ?_
      obtain ⟨ho, hf⟩ := gob_e hf
      obtain ⟨r36, ec, hf⟩ := bd_e hf
      refine w_callC x0 [.int x8, .int x9] [] [.int r36.1] X B 30 rfl miX6_taken rfl ho ⟨(iL_isCleared _ (List.mem_of_getElem? (i := 42) rfl)), (iL_isCleared _ (List.mem_of_getElem? (i := 43) rfl)), (iL_isCleared _ (List.mem_of_getElem? (i := 44) rfl))⟩ (fun hj => ctX6_taken hj ec) ⟨Nat.le_of_ble_eq_true rfl, Nat.le_of_ble_eq_true rfl⟩ rfl (fun _ _ => rfl) (fun _ _ => rfl) rfl (Nat.le_of_ble_eq_true rfl) rfl ?_
      refine w_aload_n B 31 rfl 1 1 rfl rfl ?_
      refine w_iload B 32 rfl 5 rfl ?_
      refine w_iload B 33 rfl 6 rfl ?_
      obtain ⟨hk, hf⟩ := gkd_e hf
      obtain ⟨r37, ec, hgd, hf⟩ := bdg_e hf
      refine w_callV x1 [.int x8, .int x9] [.int r36.1] [.ref r37.1, .int r36.1] X B 34 rfl miX8_line 8 (by decide) hk rfl rfl ⟨(iL_isCleared _ (List.mem_of_getElem? (i := 45) rfl)), (iL_isCleared _ (List.mem_of_getElem? (i := 46) rfl)), (iL_isCleared _ (List.mem_of_getElem? (i := 47) rfl))⟩ (ctX8_line ec) (Or.inr ⟨_, _, _, _, hr, hgd⟩) ⟨Nat.le_of_ble_eq_true rfl, Nat.le_of_ble_eq_true rfl⟩ rfl rfl (Nat.le_of_ble_eq_true rfl) rfl ?_
      refine w_iconst 0 B 35 rfl (by decide) ?_
      obtain ⟨hk, hf⟩ := gkd_e hf
      obtain ⟨hx, hf⟩ := gix_e hf
      obtain ⟨v38, ex, hf⟩ := gti_e hf
      refine w_iald B 36 rfl hk hx ex ?_
      by_cases hc : 0 < v38
      · replace hf := (if_pos hc).symm.trans hf
        refine w_if_le_f B 37 rfl 543 (by decide) hc ?_
        refine w_aload_n B 39 rfl 1 1 rfl rfl ?_
        obtain ⟨hk, hf⟩ := gkd_e hf
        obtain ⟨q40, ex, hf⟩ := gtr_e hf
        refine w_getrN B 40 rfl 8 9 x1 (by decide) hk rfl (List.mem_of_getElem? (i := 10) rfl) (Or.inl rfl) ex ?_
        refine w_iload B 41 rfl 5 rfl ?_
        obtain ⟨hk, hf⟩ := gkd_e hf
        obtain ⟨hx, hf⟩ := gix_e hf
        obtain ⟨q41, ex, hf⟩ := gtr_e hf
        refine w_gald B 42 rfl hk hx ex ?_
        refine w_iload B 43 rfl 6 rfl ?_
        obtain ⟨hk, hf⟩ := gkd_e hf
        obtain ⟨hx, hf⟩ := gix_e hf
        obtain ⟨v42, ex, hf⟩ := gti_e hf
        refine w_iald B 44 rfl hk hx ex ?_
        refine w_goto B 45 rfl 544 (by decide) ?_
        exact bL_isCleared_j544_ok X B0 hcd hQ hr hk488 ih _ _ _ _ _ _ _ _ _ _ _ _ hf
      · replace hf := (if_neg hc).symm.trans hf
        refine w_if_le_t B 37 rfl 543 (by decide) hc ?_
        refine w_iconst (-1) B 38 rfl (by decide) ?_
        exact bL_isCleared_j544_ok X B0 hcd hQ hr hk488 ih _ _ _ _ _ _ _ _ _ _ _ _ hf
    · replace hf := (if_neg hc).symm.trans hf
      refine w_icmp_ge_t B 2 rfl 555 (by decide) hc ?_
      refine w_aload_n B 3 rfl 0 0 rfl rfl ?_
      refine w_iload B 4 rfl 5 rfl ?_
      obtain ⟨ho, hf⟩ := gob_e hf
      obtain ⟨r29, ec, hf⟩ := bd_e hf
      refine w_callC x0 [.int x8] [] [.long r29.1] X B 5 rfl miX6_paid rfl ho ⟨(iL_isCleared _ (List.mem_of_getElem? (i := 12) rfl)), (iL_isCleared _ (List.mem_of_getElem? (i := 13) rfl)), (iL_isCleared _ (List.mem_of_getElem? (i := 14) rfl))⟩ (fun hj => ctX6_paid hj ec) ⟨Nat.le_of_ble_eq_true rfl, Nat.le_of_ble_eq_true rfl⟩ rfl (fun _ _ => rfl) (fun _ _ => rfl) rfl (Nat.le_of_ble_eq_true rfl) rfl ?_
      refine w_aload_n B 6 rfl 0 0 rfl rfl ?_
      refine w_aload_n B 7 rfl 1 1 rfl rfl ?_
      obtain ⟨hk, hf⟩ := gkd_e hf
      obtain ⟨q30, ex, hf⟩ := gtr_e hf
      refine w_getrN B 8 rfl 8 2 x1 (by decide) hk rfl (List.mem_of_getElem? (i := 3) rfl) (Or.inl rfl) ex ?_
      refine w_iload B 9 rfl 5 rfl ?_
      obtain ⟨hk, hf⟩ := gkd_e hf
      obtain ⟨r31, ec, hf⟩ := bd_e hf
      refine w_callV q30 [.int x8] [.ref x0, .long r29.1] [.ref r31, .ref x0, .long r29.1] X B 10 rfl miAL_get 9 (by decide) hk rfl rfl ⟨(iL_isCleared _ (List.mem_of_getElem? (i := 35) rfl)), (iL_isCleared _ (List.mem_of_getElem? (i := 36) rfl)), (iL_isCleared _ (List.mem_of_getElem? (i := 37) rfl))⟩ (ctAL_get ec) (Or.inl ⟨rfl, rfl⟩) ⟨Nat.le_of_ble_eq_true rfl, Nat.le_of_ble_eq_true rfl⟩ rfl rfl (Nat.le_of_ble_eq_true rfl) rfl ?_
      obtain ⟨hk, hf⟩ := gkd_e hf
      refine w_castI B 11 rfl hk (iL_isCleared _ (List.mem_of_getElem? (i := 38) rfl)) ?_
      refine w_iconst 0 B 12 rfl (by decide) ?_
      obtain ⟨hk, hf⟩ := gkd_e hf
      obtain ⟨hx, hf⟩ := gix_e hf
      obtain ⟨v32, ex, hf⟩ := gti_e hf
      refine w_iald B 13 rfl hk hx ex ?_
      obtain ⟨ho, hf⟩ := gob_e hf
      obtain ⟨r33, ec, hf⟩ := bd_e hf
      refine w_callC x0 [.int v32] [.long r29.1] [.int r33.1, .long r29.1] X B 14 rfl miX6_price rfl ho ⟨(iL_isCleared _ (List.mem_of_getElem? (i := 16) rfl)), (iL_isCleared _ (List.mem_of_getElem? (i := 17) rfl)), (iL_isCleared _ (List.mem_of_getElem? (i := 18) rfl))⟩ (fun hj => ctX6_price hj ec) ⟨Nat.le_of_ble_eq_true rfl, Nat.le_of_ble_eq_true rfl⟩ rfl (fun _ _ => rfl) (fun _ _ => rfl) rfl (Nat.le_of_ble_eq_true rfl) rfl ?_
      refine w_i2l B 15 rfl ?_
      refine w_aload_n B 16 rfl 1 1 rfl rfl ?_
      refine w_iload B 17 rfl 5 rfl ?_
      obtain ⟨hk, hf⟩ := gkd_e hf
      obtain ⟨r34, ec, hf⟩ := bd_e hf
      refine w_callV x1 [.int x8] [.long r33.1.toInt64, .long r29.1] [.int r34, .long r33.1.toInt64, .long r29.1] X B 18 rfl miX8_taken 8 (by decide) hk rfl rfl ⟨(iL_isCleared _ (List.mem_of_getElem? (i := 39) rfl)), (iL_isCleared _ (List.mem_of_getElem? (i := 40) rfl)), (iL_isCleared _ (List.mem_of_getElem? (i := 41) rfl))⟩ (ctX8_taken ec) (Or.inl ⟨rfl, rfl⟩) ⟨Nat.le_of_ble_eq_true rfl, Nat.le_of_ble_eq_true rfl⟩ rfl rfl (Nat.le_of_ble_eq_true rfl) rfl ?_
      refine w_i2l B 19 rfl ?_
      refine w_lmul B 20 rfl ?_
      refine w_lcmp B 21 rfl ?_
      by_cases hc : (lg_cmp r29.1 (r33.1.toInt64 * r34.toInt64)) = 0
      · replace hf := (if_pos hc).symm.trans hf
        refine w_if_eq_t B 22 rfl 594 (by decide) hc ?_
        obtain ⟨v35, ex, hf⟩ := nm_x hf
        refine w_iinc v35 [(8, .int v35), (0, .ref x0), (1, .ref x1), (2, .long x2), (4, .long x4), (6, .long x6), (9, .int x9)] B 23 rfl 5 rfl (ex.symm) (by decide) rfl ?_
        refine w_goto B 24 rfl 488 (by decide) ?_
        refine w_sub [(0, .ref x0), (1, .ref x1), (2, .long x2), (4, .long x4), (6, .long x6), (8, .int v35)] [1, 2, 3, 4, 5, 0] rfl ?_
        exact hk488 _ _ _ _ _ _ _ _ _ hf
      · replace hf := (if_neg hc).symm.trans hf
        refine w_if_eq_f B 22 rfl 594 (by decide) hc ?_
        refine w_iconst 0 B 25 rfl (by decide) ?_
        cases hf
        exact w_iret B 26 rfl (by decide) hQ hr
def bL_isCleared_l488 : Nat → Nat → Nat → Int64 → Int64 → Int64 → Int32 → Mem → AS → DM → Option (Int32 × Mem × AS × DM)
  | 0, _, _, _, _, _, _, _, _, _ => none
  | n + 1, x0, x1, x2, x4, x6, x8, mm, A, dm => gkd A x1 8 (gtr (dm x1 2) (fun q4 => gkd A q4 9 (bd (bAL_size A dm q4) (fun r5 => if x8 < r5 then bL_isCleared_l503 (fun x0 x1 x2 x4 x6 x8 mm9 A9 dm9 => bL_isCleared_l488 n x0 x1 x2 x4 x6 x8 mm9 A9 dm9) FU x0 x1 x2 x4 x6 x8 (0 : Int32) mm A dm else bL_isCleared_l603 FU x0 x1 x2 x4 x6 (0 : Int32) mm A dm))))
def tbbL_isCleared_l488 : Tb := [(488, .iload 8, 2, 490), (490, .aload_n 1, 1, 491), (491, .getfield 100, 3, 494), (494, .invokevirtual 106, 3, 497), (497, .if_icmp .ge 103, 3, 500), (600, .iconst 0, 1, 601), (601, .istore 8, 2, 603), (500, .iconst 0, 1, 501), (501, .istore 9, 2, 503)]
theorem dtbL_isCleared_l488 : ∀ q ∈ tbbL_isCleared_l488, decode cL_isCleared q.1 = .ok (q.2.1, q.2.2.1) ∧ q.1 + q.2.2.1 = q.2.2.2 := by decide +kernel
theorem bL_isCleared_l488_ok {E : Ev2} {l : Launch} {K : KF} {x : Int32 × Mem × AS × DM} (X : Ec2 E l K rmFL_isCleared rmLL_isCleared) (B0 : Bx2 E RL [] 16 (some .boolean)) (hcd : Cd2 E cL_isCleared) (hQ : Rt2 E) (hr : Rs2 E (some (.int x.1)) x.2.1 x.2.2.1 x.2.2.2) (n : Nat) : ∀ (x0 : Nat) (x1 : Nat) (x2 : Int64) (x4 : Int64) (x6 : Int64) (x8 : Int32) (mm : Mem) (A : AS) (dm : DM), bL_isCleared_l488 n x0 x1 x2 x4 x6 x8 mm A dm = some x → G2 E 16 488 [(0, .ref x0), (1, .ref x1), (2, .long x2), (4, .long x4), (6, .long x6), (8, .int x8)] [] mm A dm := by
  induction n with
  | zero =>
    intro x0 x1 x2 x4 x6 x8 mm A dm hf
    rw [bL_isCleared_l488] at hf
    cases hf
  | succ n ih =>
    intro x0 x1 x2 x4 x6 x8 mm A dm hf
    rw [bL_isCleared_l488] at hf
    have B := B0.tab hcd dtbL_isCleared_l488
    refine w_iload B 0 rfl 5 rfl ?_
    refine w_aload_n B 1 rfl 1 1 rfl rfl ?_
    obtain ⟨hk, hf⟩ := gkd_e hf
    obtain ⟨q4, ex, hf⟩ := gtr_e hf
    refine w_getrN B 2 rfl 8 2 x1 (by decide) hk rfl (List.mem_of_getElem? (i := 3) rfl) (Or.inl rfl) ex ?_
    obtain ⟨hk, hf⟩ := gkd_e hf
    obtain ⟨r5, ec, hf⟩ := bd_e hf
    refine w_callV q4 [] [.int x8] [.int r5, .int x8] X B 3 rfl miAL_size 9 (by decide) hk rfl rfl ⟨(iL_isCleared _ (List.mem_of_getElem? (i := 3) rfl)), (iL_isCleared _ (List.mem_of_getElem? (i := 4) rfl)), (iL_isCleared _ (List.mem_of_getElem? (i := 5) rfl))⟩ (ctAL_size ec) (Or.inl ⟨rfl, rfl⟩) ⟨Nat.le_of_ble_eq_true rfl, Nat.le_of_ble_eq_true rfl⟩ rfl rfl (Nat.le_of_ble_eq_true rfl) rfl ?_
    by_cases hc : x8 < r5
    · replace hf := (if_pos hc).symm.trans hf
      refine w_icmp_ge_f B 4 rfl 600 (by decide) hc ?_
      refine w_iconst 0 B 7 rfl (by decide) ?_
      refine w_istore [(9, .int (0 : Int32)), (0, .ref x0), (1, .ref x1), (2, .long x2), (4, .long x4), (6, .long x6), (8, .int x8)] B 8 rfl (by decide) rfl ?_
      refine w_sub [(0, .ref x0), (1, .ref x1), (2, .long x2), (4, .long x4), (6, .long x6), (8, .int x8), (9, .int (0 : Int32))] [1, 2, 3, 4, 5, 6, 0] rfl ?_
      exact bL_isCleared_l503_ok X B0 hcd hQ hr ih FU _ _ _ _ _ _ _ _ _ _ hf
    · replace hf := (if_neg hc).symm.trans hf
      refine w_icmp_ge_t B 4 rfl 600 (by decide) hc ?_
      refine w_iconst 0 B 5 rfl (by decide) ?_
      refine w_istore [(8, .int (0 : Int32)), (0, .ref x0), (1, .ref x1), (2, .long x2), (4, .long x4), (6, .long x6)] B 6 rfl (by decide) rfl ?_
      refine w_sub [(0, .ref x0), (1, .ref x1), (2, .long x2), (4, .long x4), (6, .long x6), (8, .int (0 : Int32))] [1, 2, 3, 4, 5, 0] rfl ?_
      exact bL_isCleared_l603_ok X B0 hcd hQ hr FU _ _ _ _ _ _ _ _ _ hf
def bL_isCleared_j479 (k16 : Nat → Nat → Int64 → Int64 → Int64 → Int32 → Mem → AS → DM → Option (Int32 × Mem × AS × DM)) (x0 : Nat) (x1 : Nat) (x2 : Int64) (x4 : Int64) (x6 : Int64) (x8 : Int32) (mm : Mem) (A : AS) (dm : DM) : Option (Int32 × Mem × AS × DM) := nm (x8 + 1) (fun v76 => k16 x0 x1 x2 x4 x6 v76 mm A dm)
def tbbL_isCleared_j479 : Tb := [(479, .iinc 8 1, 3, 482), (482, .goto (-466), 3, 485)]
theorem dtbL_isCleared_j479 : ∀ q ∈ tbbL_isCleared_j479, decode cL_isCleared q.1 = .ok (q.2.1, q.2.2.1) ∧ q.1 + q.2.2.1 = q.2.2.2 := by decide +kernel
theorem bL_isCleared_j479_ok {E : Ev2} {l : Launch} {K : KF} {x : Int32 × Mem × AS × DM} {k16 : Nat → Nat → Int64 → Int64 → Int64 → Int32 → Mem → AS → DM → Option (Int32 × Mem × AS × DM)} (X : Ec2 E l K rmFL_isCleared rmLL_isCleared) (B0 : Bx2 E RL [] 16 (some .boolean)) (hcd : Cd2 E cL_isCleared) (hQ : Rt2 E) (hr : Rs2 E (some (.int x.1)) x.2.1 x.2.2.1 x.2.2.2) (hk16 : ∀ (x0 : Nat) (x1 : Nat) (x2 : Int64) (x4 : Int64) (x6 : Int64) (x8 : Int32) (mm : Mem) (A : AS) (dm : DM), k16 x0 x1 x2 x4 x6 x8 mm A dm = some x → G2 E 16 16 [(0, .ref x0), (1, .ref x1), (2, .long x2), (4, .long x4), (6, .long x6), (8, .int x8)] [] mm A dm) (x0 : Nat) (x1 : Nat) (x2 : Int64) (x4 : Int64) (x6 : Int64) (x8 : Int32) (mm : Mem) (A : AS) (dm : DM) (hf : bL_isCleared_j479 k16 x0 x1 x2 x4 x6 x8 mm A dm = some x) : G2 E 16 479 [(0, .ref x0), (1, .ref x1), (2, .long x2), (4, .long x4), (6, .long x6), (8, .int x8)] [] mm A dm := by
  unfold bL_isCleared_j479 at hf
  have B := B0.tab hcd dtbL_isCleared_j479
  obtain ⟨v76, ex, hf⟩ := nm_x hf
  refine w_iinc v76 [(8, .int v76), (0, .ref x0), (1, .ref x1), (2, .long x2), (4, .long x4), (6, .long x6)] B 0 rfl 5 rfl (ex.symm) (by decide) rfl ?_
  refine w_goto B 1 rfl 16 (by decide) ?_
  refine w_sub [(0, .ref x0), (1, .ref x1), (2, .long x2), (4, .long x4), (6, .long x6), (8, .int v76)] [1, 2, 3, 4, 5, 0] rfl ?_
  exact hk16 _ _ _ _ _ _ _ _ _ hf
def bL_isCleared_j446 (k16 : Nat → Nat → Int64 → Int64 → Int64 → Int32 → Mem → AS → DM → Option (Int32 × Mem × AS × DM)) (x0 : Nat) (x1 : Nat) (x2 : Int64) (x4 : Int64) (x6 : Int64) (x8 : Int32) (x10 : Int32) (x11 : Int32) (x14 : Int32) (mm : Mem) (A : AS) (dm : DM) : Option (Int32 × Mem × AS × DM) := gob A x0 (bd (f6_rent mm x8) (fun r74 => if (lg_cmp r74.1 (x11.toInt64 * ((x14 - x10).toInt64))) = 0 then gob A x0 (bd (f6_rent r74.2 x8) (fun r75 => if (lg_cmp r75.1 (0 : Int64)) < 0 then some ((0 : Int32), r75.2, A, dm) else bL_isCleared_j479 k16 x0 x1 x2 x4 x6 x8 r75.2 A dm)) else some ((0 : Int32), r74.2, A, dm)))
def tbbL_isCleared_j446 : Tb := [(446, .aload_n 0, 1, 447), (447, .iload 8, 2, 449), (449, .invokevirtual 194, 3, 452), (452, .iload 11, 2, 454), (454, .i2l, 1, 455), (455, .iload 14, 2, 457), (457, .iload 10, 2, 459), (459, .isub, 1, 460), (460, .i2l, 1, 461), (461, .lmul, 1, 462), (462, .lcmp, 1, 463), (463, .ifCond .ne 14, 3, 466), (477, .iconst 0, 1, 478), (478, .ireturn, 1, 479), (466, .aload_n 0, 1, 467), (467, .iload 8, 2, 469), (469, .invokevirtual 194, 3, 472), (472, .lconst 0, 1, 473), (473, .lcmp, 1, 474), (474, .ifCond .ge 5, 3, 477)]
theorem dtbL_isCleared_j446 : ∀ q ∈ tbbL_isCleared_j446, decode cL_isCleared q.1 = .ok (q.2.1, q.2.2.1) ∧ q.1 + q.2.2.1 = q.2.2.2 := by decide +kernel
theorem bL_isCleared_j446_ok {E : Ev2} {l : Launch} {K : KF} {x : Int32 × Mem × AS × DM} {k16 : Nat → Nat → Int64 → Int64 → Int64 → Int32 → Mem → AS → DM → Option (Int32 × Mem × AS × DM)} (X : Ec2 E l K rmFL_isCleared rmLL_isCleared) (B0 : Bx2 E RL [] 16 (some .boolean)) (hcd : Cd2 E cL_isCleared) (hQ : Rt2 E) (hr : Rs2 E (some (.int x.1)) x.2.1 x.2.2.1 x.2.2.2) (hk16 : ∀ (x0 : Nat) (x1 : Nat) (x2 : Int64) (x4 : Int64) (x6 : Int64) (x8 : Int32) (mm : Mem) (A : AS) (dm : DM), k16 x0 x1 x2 x4 x6 x8 mm A dm = some x → G2 E 16 16 [(0, .ref x0), (1, .ref x1), (2, .long x2), (4, .long x4), (6, .long x6), (8, .int x8)] [] mm A dm) (x0 : Nat) (x1 : Nat) (x2 : Int64) (x4 : Int64) (x6 : Int64) (x8 : Int32) (x10 : Int32) (x11 : Int32) (x14 : Int32) (mm : Mem) (A : AS) (dm : DM) (hf : bL_isCleared_j446 k16 x0 x1 x2 x4 x6 x8 x10 x11 x14 mm A dm = some x) : G2 E 16 446 [(0, .ref x0), (1, .ref x1), (2, .long x2), (4, .long x4), (6, .long x6), (8, .int x8), (10, .int x10), (11, .int x11), (14, .int x14)] [] mm A dm := by
  unfold bL_isCleared_j446 at hf
  have B := B0.tab hcd dtbL_isCleared_j446
  refine w_aload_n B 0 rfl 0 0 rfl rfl ?_
  refine w_iload B 1 rfl 5 rfl ?_
  obtain ⟨ho, hf⟩ := gob_e hf
  obtain ⟨r74, ec, hf⟩ := bd_e hf
  refine w_callC x0 [.int x8] [] [.long r74.1] X B 2 rfl miX6_rent rfl ho ⟨(iL_isCleared _ (List.mem_of_getElem? (i := 26) rfl)), (iL_isCleared _ (List.mem_of_getElem? (i := 27) rfl)), (iL_isCleared _ (List.mem_of_getElem? (i := 28) rfl))⟩ (fun hj => ctX6_rent hj ec) ⟨Nat.le_of_ble_eq_true rfl, Nat.le_of_ble_eq_true rfl⟩ rfl (fun _ _ => rfl) (fun _ _ => rfl) rfl (Nat.le_of_ble_eq_true rfl) rfl ?_
  refine w_iload B 3 rfl 7 rfl ?_
  refine w_i2l B 4 rfl ?_
  refine w_iload B 5 rfl 8 rfl ?_
  refine w_iload B 6 rfl 6 rfl ?_
  refine w_isub B 7 rfl ?_
  refine w_i2l B 8 rfl ?_
  refine w_lmul B 9 rfl ?_
  refine w_lcmp B 10 rfl ?_
  by_cases hc : (lg_cmp r74.1 (x11.toInt64 * ((x14 - x10).toInt64))) = 0
  · replace hf := (if_pos hc).symm.trans hf
    refine w_if_ne_f B 11 rfl 477 (by decide) hc ?_
    refine w_aload_n B 14 rfl 0 0 rfl rfl ?_
    refine w_iload B 15 rfl 5 rfl ?_
    obtain ⟨ho, hf⟩ := gob_e hf
    obtain ⟨r75, ec, hf⟩ := bd_e hf
    refine w_callC x0 [.int x8] [] [.long r75.1] X B 16 rfl miX6_rent rfl ho ⟨(iL_isCleared _ (List.mem_of_getElem? (i := 26) rfl)), (iL_isCleared _ (List.mem_of_getElem? (i := 27) rfl)), (iL_isCleared _ (List.mem_of_getElem? (i := 28) rfl))⟩ (fun hj => ctX6_rent hj ec) ⟨Nat.le_of_ble_eq_true rfl, Nat.le_of_ble_eq_true rfl⟩ rfl (fun _ _ => rfl) (fun _ _ => rfl) rfl (Nat.le_of_ble_eq_true rfl) rfl ?_
    refine w_lconst 0 B 17 rfl (by decide) ?_
    refine w_lcmp B 18 rfl ?_
    by_cases hc : (lg_cmp r75.1 (0 : Int64)) < 0
    · replace hf := (if_pos hc).symm.trans hf
      refine w_if_ge_f B 19 rfl 479 (by decide) hc ?_
      refine w_iconst 0 B 12 rfl (by decide) ?_
      cases hf
      exact w_iret B 13 rfl (by decide) hQ hr
    · replace hf := (if_neg hc).symm.trans hf
      refine w_if_ge_t B 19 rfl 479 (by decide) hc ?_
      refine w_sub [(0, .ref x0), (1, .ref x1), (2, .long x2), (4, .long x4), (6, .long x6), (8, .int x8)] [0, 1, 2, 3, 4, 5] rfl ?_
      exact bL_isCleared_j479_ok X B0 hcd hQ hr hk16 _ _ _ _ _ _ _ _ _ hf
  · replace hf := (if_neg hc).symm.trans hf
    refine w_if_ne_t B 11 rfl 477 (by decide) hc ?_
    refine w_iconst 0 B 12 rfl (by decide) ?_
    cases hf
    exact w_iret B 13 rfl (by decide) hQ hr
def bL_isCleared_j416 (k16 : Nat → Nat → Int64 → Int64 → Int64 → Int32 → Mem → AS → DM → Option (Int32 × Mem × AS × DM)) (x0 : Nat) (x1 : Nat) (x2 : Int64) (x4 : Int64) (x6 : Int64) (x8 : Int32) (x10 : Int32) (x11 : Int32) (x12 : Int32) (x14 : Int32) (s0 : Int32) (mm : Mem) (A : AS) (dm : DM) : Option (Int32 × Mem × AS × DM) := gob A x0 (bd (f6_binds mm x8) (fun r73 => if r73.1 = s0 then if x10 = x14 then bL_isCleared_j446 k16 x0 x1 x2 x4 x6 x8 x10 x11 x14 r73.2 A dm else if s0 = 0 then some ((0 : Int32), r73.2, A, dm) else if x12 = 0 then some ((0 : Int32), r73.2, A, dm) else bL_isCleared_j446 k16 x0 x1 x2 x4 x6 x8 x10 x11 x14 r73.2 A dm else some ((0 : Int32), r73.2, A, dm)))
def tbbL_isCleared_j416 : Tb := [(416, .istore 15, 2, 418), (418, .aload_n 0, 1, 419), (419, .iload 8, 2, 421), (421, .invokevirtual 197, 3, 424), (424, .iload 15, 2, 426), (426, .if_icmp .ne 51, 3, 429), (477, .iconst 0, 1, 478), (478, .ireturn, 1, 479), (429, .iload 10, 2, 431), (431, .iload 14, 2, 433), (433, .if_icmp .eq 13, 3, 436), (436, .iload 15, 2, 438), (438, .ifCond .eq 39, 3, 441), (441, .iload 12, 2, 443), (443, .ifCond .eq 34, 3, 446)]
theorem dtbL_isCleared_j416 : ∀ q ∈ tbbL_isCleared_j416, decode cL_isCleared q.1 = .ok (q.2.1, q.2.2.1) ∧ q.1 + q.2.2.1 = q.2.2.2 := by decide +kernel
theorem bL_isCleared_j416_ok {E : Ev2} {l : Launch} {K : KF} {x : Int32 × Mem × AS × DM} {k16 : Nat → Nat → Int64 → Int64 → Int64 → Int32 → Mem → AS → DM → Option (Int32 × Mem × AS × DM)} (X : Ec2 E l K rmFL_isCleared rmLL_isCleared) (B0 : Bx2 E RL [] 16 (some .boolean)) (hcd : Cd2 E cL_isCleared) (hQ : Rt2 E) (hr : Rs2 E (some (.int x.1)) x.2.1 x.2.2.1 x.2.2.2) (hk16 : ∀ (x0 : Nat) (x1 : Nat) (x2 : Int64) (x4 : Int64) (x6 : Int64) (x8 : Int32) (mm : Mem) (A : AS) (dm : DM), k16 x0 x1 x2 x4 x6 x8 mm A dm = some x → G2 E 16 16 [(0, .ref x0), (1, .ref x1), (2, .long x2), (4, .long x4), (6, .long x6), (8, .int x8)] [] mm A dm) (x0 : Nat) (x1 : Nat) (x2 : Int64) (x4 : Int64) (x6 : Int64) (x8 : Int32) (x10 : Int32) (x11 : Int32) (x12 : Int32) (x14 : Int32) (s0 : Int32) (mm : Mem) (A : AS) (dm : DM) (hf : bL_isCleared_j416 k16 x0 x1 x2 x4 x6 x8 x10 x11 x12 x14 s0 mm A dm = some x) : G2 E 16 416 [(0, .ref x0), (1, .ref x1), (2, .long x2), (4, .long x4), (6, .long x6), (8, .int x8), (10, .int x10), (11, .int x11), (12, .int x12), (14, .int x14)] [.int s0] mm A dm := by
  unfold bL_isCleared_j416 at hf
  have B := B0.tab hcd dtbL_isCleared_j416
  refine w_istore [(15, .int s0), (0, .ref x0), (1, .ref x1), (2, .long x2), (4, .long x4), (6, .long x6), (8, .int x8), (10, .int x10), (11, .int x11), (12, .int x12), (14, .int x14)] B 0 rfl (by decide) rfl ?_
  refine w_aload_n B 1 rfl 0 1 rfl rfl ?_
  refine w_iload B 2 rfl 6 rfl ?_
  obtain ⟨ho, hf⟩ := gob_e hf
  obtain ⟨r73, ec, hf⟩ := bd_e hf
  refine w_callC x0 [.int x8] [] [.int r73.1] X B 3 rfl miX6_binds rfl ho ⟨(iL_isCleared _ (List.mem_of_getElem? (i := 32) rfl)), (iL_isCleared _ (List.mem_of_getElem? (i := 33) rfl)), (iL_isCleared _ (List.mem_of_getElem? (i := 34) rfl))⟩ (fun hj => ctX6_binds hj ec) ⟨Nat.le_of_ble_eq_true rfl, Nat.le_of_ble_eq_true rfl⟩ rfl (fun _ _ => rfl) (fun _ _ => rfl) rfl (Nat.le_of_ble_eq_true rfl) rfl ?_
  refine w_iload B 4 rfl 0 rfl ?_
  by_cases hc : r73.1 = s0
  · replace hf := (if_pos hc).symm.trans hf
    refine w_icmp_ne_f B 5 rfl 477 (by decide) hc ?_
    refine w_iload B 8 rfl 7 rfl ?_
    refine w_iload B 9 rfl 10 rfl ?_
    by_cases hc : x10 = x14
    · replace hf := (if_pos hc).symm.trans hf
      refine w_icmp_eq_t B 10 rfl 446 (by decide) hc ?_
      refine w_sub [(0, .ref x0), (1, .ref x1), (2, .long x2), (4, .long x4), (6, .long x6), (8, .int x8), (10, .int x10), (11, .int x11), (14, .int x14)] [1, 2, 3, 4, 5, 6, 7, 8, 10] rfl ?_
      exact bL_isCleared_j446_ok X B0 hcd hQ hr hk16 _ _ _ _ _ _ _ _ _ _ _ _ hf
    · replace hf := (if_neg hc).symm.trans hf
      refine w_icmp_eq_f B 10 rfl 446 (by decide) hc ?_
      refine w_iload B 11 rfl 0 rfl ?_
      by_cases hc : s0 = 0
      · replace hf := (if_pos hc).symm.trans hf
        refine w_if_eq_t B 12 rfl 477 (by decide) hc ?_
        refine w_iconst 0 B 6 rfl (by decide) ?_
        cases hf
        exact w_iret B 7 rfl (by decide) hQ hr
      · replace hf := (if_neg hc).symm.trans hf
        refine w_if_eq_f B 12 rfl 477 (by decide) hc ?_
        refine w_iload B 13 rfl 9 rfl ?_
        by_cases hc : x12 = 0
        · replace hf := (if_pos hc).symm.trans hf
          refine w_if_eq_t B 14 rfl 477 (by decide) hc ?_
          refine w_iconst 0 B 6 rfl (by decide) ?_
          cases hf
          exact w_iret B 7 rfl (by decide) hQ hr
        · replace hf := (if_neg hc).symm.trans hf
          refine w_if_eq_f B 14 rfl 477 (by decide) hc ?_
          refine w_sub [(0, .ref x0), (1, .ref x1), (2, .long x2), (4, .long x4), (6, .long x6), (8, .int x8), (10, .int x10), (11, .int x11), (14, .int x14)] [1, 2, 3, 4, 5, 6, 7, 8, 10] rfl ?_
          exact bL_isCleared_j446_ok X B0 hcd hQ hr hk16 _ _ _ _ _ _ _ _ _ _ _ _ hf
  · replace hf := (if_neg hc).symm.trans hf
    refine w_icmp_ne_t B 5 rfl 477 (by decide) hc ?_
    refine w_iconst 0 B 6 rfl (by decide) ?_
    cases hf
    exact w_iret B 7 rfl (by decide) hQ hr
def bL_isCleared_j415 (k16 : Nat → Nat → Int64 → Int64 → Int64 → Int32 → Mem → AS → DM → Option (Int32 × Mem × AS × DM)) (x0 : Nat) (x1 : Nat) (x2 : Int64) (x4 : Int64) (x6 : Int64) (x8 : Int32) (x10 : Int32) (x11 : Int32) (x12 : Int32) (x14 : Int32) (mm : Mem) (A : AS) (dm : DM) : Option (Int32 × Mem × AS × DM) := bL_isCleared_j416 k16 x0 x1 x2 x4 x6 x8 x10 x11 x12 x14 (0 : Int32) mm A dm
def tbbL_isCleared_j415 : Tb := [(415, .iconst 0, 1, 416)]
theorem dtbL_isCleared_j415 : ∀ q ∈ tbbL_isCleared_j415, decode cL_isCleared q.1 = .ok (q.2.1, q.2.2.1) ∧ q.1 + q.2.2.1 = q.2.2.2 := by decide +kernel
theorem bL_isCleared_j415_ok {E : Ev2} {l : Launch} {K : KF} {x : Int32 × Mem × AS × DM} {k16 : Nat → Nat → Int64 → Int64 → Int64 → Int32 → Mem → AS → DM → Option (Int32 × Mem × AS × DM)} (X : Ec2 E l K rmFL_isCleared rmLL_isCleared) (B0 : Bx2 E RL [] 16 (some .boolean)) (hcd : Cd2 E cL_isCleared) (hQ : Rt2 E) (hr : Rs2 E (some (.int x.1)) x.2.1 x.2.2.1 x.2.2.2) (hk16 : ∀ (x0 : Nat) (x1 : Nat) (x2 : Int64) (x4 : Int64) (x6 : Int64) (x8 : Int32) (mm : Mem) (A : AS) (dm : DM), k16 x0 x1 x2 x4 x6 x8 mm A dm = some x → G2 E 16 16 [(0, .ref x0), (1, .ref x1), (2, .long x2), (4, .long x4), (6, .long x6), (8, .int x8)] [] mm A dm) (x0 : Nat) (x1 : Nat) (x2 : Int64) (x4 : Int64) (x6 : Int64) (x8 : Int32) (x10 : Int32) (x11 : Int32) (x12 : Int32) (x14 : Int32) (mm : Mem) (A : AS) (dm : DM) (hf : bL_isCleared_j415 k16 x0 x1 x2 x4 x6 x8 x10 x11 x12 x14 mm A dm = some x) : G2 E 16 415 [(0, .ref x0), (1, .ref x1), (2, .long x2), (4, .long x4), (6, .long x6), (8, .int x8), (10, .int x10), (11, .int x11), (12, .int x12), (14, .int x14)] [] mm A dm := by
  unfold bL_isCleared_j415 at hf
  have B := B0.tab hcd dtbL_isCleared_j415
  refine w_iconst 0 B 0 rfl (by decide) ?_
  exact bL_isCleared_j416_ok X B0 hcd hQ hr hk16 _ _ _ _ _ _ _ _ _ _ _ _ _ _ hf
def bL_isCleared_j395 (k16 : Nat → Nat → Int64 → Int64 → Int64 → Int32 → Mem → AS → DM → Option (Int32 × Mem × AS × DM)) (x0 : Nat) (x1 : Nat) (x2 : Int64) (x4 : Int64) (x6 : Int64) (x8 : Int32) (x9 : Nat) (x10 : Int32) (x11 : Int32) (x12 : Int32) (x14 : Int32) (mm : Mem) (A : AS) (dm : DM) : Option (Int32 × Mem × AS × DM) := gkd A x9 20 (gix A x9 (2 : Int32) (gti (dm x9 (2 : Int32).toNatClampNeg) (fun v72 => if x11 = v72 then if x10 < x14 then bL_isCleared_j416 k16 x0 x1 x2 x4 x6 x8 x10 x11 x12 x14 (2 : Int32) mm A dm else bL_isCleared_j415 k16 x0 x1 x2 x4 x6 x8 x10 x11 x12 x14 mm A dm else bL_isCleared_j415 k16 x0 x1 x2 x4 x6 x8 x10 x11 x12 x14 mm A dm)))
def tbbL_isCleared_j395 : Tb := [(395, .iload 11, 2, 397), (397, .aload 9, 2, 399), (399, .iconst 2, 1, 400), (400, .iaload, 1, 401), (401, .if_icmp .ne 14, 3, 404), (404, .iload 10, 2, 406), (406, .iload 14, 2, 408), (408, .if_icmp .ge 7, 3, 411), (411, .iconst 2, 1, 412), (412, .goto 4, 3, 415)]
theorem dtbL_isCleared_j395 : ∀ q ∈ tbbL_isCleared_j395, decode cL_isCleared q.1 = .ok (q.2.1, q.2.2.1) ∧ q.1 + q.2.2.1 = q.2.2.2 := by decide +kernel
theorem bL_isCleared_j395_ok {E : Ev2} {l : Launch} {K : KF} {x : Int32 × Mem × AS × DM} {k16 : Nat → Nat → Int64 → Int64 → Int64 → Int32 → Mem → AS → DM → Option (Int32 × Mem × AS × DM)} (X : Ec2 E l K rmFL_isCleared rmLL_isCleared) (B0 : Bx2 E RL [] 16 (some .boolean)) (hcd : Cd2 E cL_isCleared) (hQ : Rt2 E) (hr : Rs2 E (some (.int x.1)) x.2.1 x.2.2.1 x.2.2.2) (hk16 : ∀ (x0 : Nat) (x1 : Nat) (x2 : Int64) (x4 : Int64) (x6 : Int64) (x8 : Int32) (mm : Mem) (A : AS) (dm : DM), k16 x0 x1 x2 x4 x6 x8 mm A dm = some x → G2 E 16 16 [(0, .ref x0), (1, .ref x1), (2, .long x2), (4, .long x4), (6, .long x6), (8, .int x8)] [] mm A dm) (x0 : Nat) (x1 : Nat) (x2 : Int64) (x4 : Int64) (x6 : Int64) (x8 : Int32) (x9 : Nat) (x10 : Int32) (x11 : Int32) (x12 : Int32) (x14 : Int32) (mm : Mem) (A : AS) (dm : DM) (hf : bL_isCleared_j395 k16 x0 x1 x2 x4 x6 x8 x9 x10 x11 x12 x14 mm A dm = some x) : G2 E 16 395 [(0, .ref x0), (1, .ref x1), (2, .long x2), (4, .long x4), (6, .long x6), (8, .int x8), (9, .ref x9), (10, .int x10), (11, .int x11), (12, .int x12), (14, .int x14)] [] mm A dm := by
  unfold bL_isCleared_j395 at hf
  have B := B0.tab hcd dtbL_isCleared_j395
  refine w_iload B 0 rfl 8 rfl ?_
  refine w_aload B 1 rfl 6 rfl ?_
  refine w_iconst 2 B 2 rfl (by decide) ?_
  obtain ⟨hk, hf⟩ := gkd_e hf
  obtain ⟨hx, hf⟩ := gix_e hf
  obtain ⟨v72, ex, hf⟩ := gti_e hf
  refine w_iald B 3 rfl hk hx ex ?_
  by_cases hc : x11 = v72
  · replace hf := (if_pos hc).symm.trans hf
    refine w_icmp_ne_f B 4 rfl 415 (by decide) hc ?_
    refine w_iload B 5 rfl 7 rfl ?_
    refine w_iload B 6 rfl 10 rfl ?_
    by_cases hc : x10 < x14
    · replace hf := (if_pos hc).symm.trans hf
      refine w_icmp_ge_f B 7 rfl 415 (by decide) hc ?_
      refine w_iconst 2 B 8 rfl (by decide) ?_
      refine w_goto B 9 rfl 416 (by decide) ?_
      refine w_sub [(0, .ref x0), (1, .ref x1), (2, .long x2), (4, .long x4), (6, .long x6), (8, .int x8), (10, .int x10), (11, .int x11), (12, .int x12), (14, .int x14)] [0, 1, 2, 3, 4, 5, 7, 8, 9, 10] rfl ?_
      exact bL_isCleared_j416_ok X B0 hcd hQ hr hk16 _ _ _ _ _ _ _ _ _ _ _ _ _ _ hf
    · replace hf := (if_neg hc).symm.trans hf
      refine w_icmp_ge_t B 7 rfl 415 (by decide) hc ?_
      refine w_sub [(0, .ref x0), (1, .ref x1), (2, .long x2), (4, .long x4), (6, .long x6), (8, .int x8), (10, .int x10), (11, .int x11), (12, .int x12), (14, .int x14)] [0, 1, 2, 3, 4, 5, 7, 8, 9, 10] rfl ?_
      exact bL_isCleared_j415_ok X B0 hcd hQ hr hk16 _ _ _ _ _ _ _ _ _ _ _ _ _ hf
  · replace hf := (if_neg hc).symm.trans hf
    refine w_icmp_ne_t B 4 rfl 415 (by decide) hc ?_
    refine w_sub [(0, .ref x0), (1, .ref x1), (2, .long x2), (4, .long x4), (6, .long x6), (8, .int x8), (10, .int x10), (11, .int x11), (12, .int x12), (14, .int x14)] [0, 1, 2, 3, 4, 5, 7, 8, 9, 10] rfl ?_
    exact bL_isCleared_j415_ok X B0 hcd hQ hr hk16 _ _ _ _ _ _ _ _ _ _ _ _ _ hf
def bL_isCleared_j270 (k16 : Nat → Nat → Int64 → Int64 → Int64 → Int32 → Mem → AS → DM → Option (Int32 × Mem × AS × DM)) (k227 : Nat → Nat → Int64 → Int64 → Int64 → Int32 → Nat → Int32 → Int32 → Int32 → Int32 → Int32 → Mem → AS → DM → Option (Int32 × Mem × AS × DM)) (x0 : Nat) (x1 : Nat) (x2 : Int64) (x4 : Int64) (x6 : Int64) (x8 : Int32) (x9 : Nat) (x10 : Int32) (x11 : Int32) (x12 : Int32) (x14 : Int32) (s0 : Int32) (s1 : Int32) (mm : Mem) (A : AS) (dm : DM) : Option (Int32 × Mem × AS × DM) := nm (s1 + s0) (fun v82 => nm (x14 + 1) (fun v83 => k227 x0 x1 x2 x4 x6 x8 x9 x10 x11 x12 v82 v83 mm A dm))
def tbbL_isCleared_j270 : Tb := [(270, .iadd, 1, 271), (271, .istore 13, 2, 273), (273, .iinc 14 1, 3, 276), (276, .goto (-49), 3, 279)]
theorem dtbL_isCleared_j270 : ∀ q ∈ tbbL_isCleared_j270, decode cL_isCleared q.1 = .ok (q.2.1, q.2.2.1) ∧ q.1 + q.2.2.1 = q.2.2.2 := by decide +kernel
theorem bL_isCleared_j270_ok {E : Ev2} {l : Launch} {K : KF} {x : Int32 × Mem × AS × DM} {k16 : Nat → Nat → Int64 → Int64 → Int64 → Int32 → Mem → AS → DM → Option (Int32 × Mem × AS × DM)} {k227 : Nat → Nat → Int64 → Int64 → Int64 → Int32 → Nat → Int32 → Int32 → Int32 → Int32 → Int32 → Mem → AS → DM → Option (Int32 × Mem × AS × DM)} (X : Ec2 E l K rmFL_isCleared rmLL_isCleared) (B0 : Bx2 E RL [] 16 (some .boolean)) (hcd : Cd2 E cL_isCleared) (hQ : Rt2 E) (hr : Rs2 E (some (.int x.1)) x.2.1 x.2.2.1 x.2.2.2) (hk16 : ∀ (x0 : Nat) (x1 : Nat) (x2 : Int64) (x4 : Int64) (x6 : Int64) (x8 : Int32) (mm : Mem) (A : AS) (dm : DM), k16 x0 x1 x2 x4 x6 x8 mm A dm = some x → G2 E 16 16 [(0, .ref x0), (1, .ref x1), (2, .long x2), (4, .long x4), (6, .long x6), (8, .int x8)] [] mm A dm) (hk227 : ∀ (x0 : Nat) (x1 : Nat) (x2 : Int64) (x4 : Int64) (x6 : Int64) (x8 : Int32) (x9 : Nat) (x10 : Int32) (x11 : Int32) (x12 : Int32) (x13 : Int32) (x14 : Int32) (mm : Mem) (A : AS) (dm : DM), k227 x0 x1 x2 x4 x6 x8 x9 x10 x11 x12 x13 x14 mm A dm = some x → G2 E 16 227 [(0, .ref x0), (1, .ref x1), (2, .long x2), (4, .long x4), (6, .long x6), (8, .int x8), (9, .ref x9), (10, .int x10), (11, .int x11), (12, .int x12), (13, .int x13), (14, .int x14)] [] mm A dm) (x0 : Nat) (x1 : Nat) (x2 : Int64) (x4 : Int64) (x6 : Int64) (x8 : Int32) (x9 : Nat) (x10 : Int32) (x11 : Int32) (x12 : Int32) (x14 : Int32) (s0 : Int32) (s1 : Int32) (mm : Mem) (A : AS) (dm : DM) (hf : bL_isCleared_j270 k16 k227 x0 x1 x2 x4 x6 x8 x9 x10 x11 x12 x14 s0 s1 mm A dm = some x) : G2 E 16 270 [(0, .ref x0), (1, .ref x1), (2, .long x2), (4, .long x4), (6, .long x6), (8, .int x8), (9, .ref x9), (10, .int x10), (11, .int x11), (12, .int x12), (14, .int x14)] [.int s0, .int s1] mm A dm := by
  unfold bL_isCleared_j270 at hf
  have B := B0.tab hcd dtbL_isCleared_j270
  refine w_iadd B 0 rfl ?_
  obtain ⟨v82, ex, hf⟩ := nm_x hf
  refine w_top ex ?_
  refine w_istore [(13, .int v82), (0, .ref x0), (1, .ref x1), (2, .long x2), (4, .long x4), (6, .long x6), (8, .int x8), (9, .ref x9), (10, .int x10), (11, .int x11), (12, .int x12), (14, .int x14)] B 1 rfl (by decide) rfl ?_
  obtain ⟨v83, ex, hf⟩ := nm_x hf
  refine w_iinc v83 [(14, .int v83), (13, .int v82), (0, .ref x0), (1, .ref x1), (2, .long x2), (4, .long x4), (6, .long x6), (8, .int x8), (9, .ref x9), (10, .int x10), (11, .int x11), (12, .int x12)] B 2 rfl 11 rfl (ex.symm) (by decide) rfl ?_
  refine w_goto B 3 rfl 227 (by decide) ?_
  refine w_sub [(0, .ref x0), (1, .ref x1), (2, .long x2), (4, .long x4), (6, .long x6), (8, .int x8), (9, .ref x9), (10, .int x10), (11, .int x11), (12, .int x12), (13, .int v82), (14, .int v83)] [2, 3, 4, 5, 6, 7, 8, 9, 10, 11, 1, 0] rfl ?_
  exact hk227 _ _ _ _ _ _ _ _ _ _ _ _ _ _ _ hf
def bL_isCleared_l227 (k16 : Nat → Nat → Int64 → Int64 → Int64 → Int32 → Mem → AS → DM → Option (Int32 × Mem × AS × DM)) : Nat → Nat → Nat → Int64 → Int64 → Int64 → Int32 → Nat → Int32 → Int32 → Int32 → Int32 → Int32 → Mem → AS → DM → Option (Int32 × Mem × AS × DM)
  | 0, _, _, _, _, _, _, _, _, _, _, _, _, _, _, _ => none
  | n + 1, x0, x1, x2, x4, x6, x8, x9, x10, x11, x12, x13, x14, mm, A, dm => gkd A x1 8 (gtr (dm x1 0) (fun q61 => gkd A q61 9 (bd (bAL_size A dm q61) (fun r62 => if x14 < r62 then gkd A x1 8 (gtr (dm x1 0) (fun q79 => gkd A q79 9 (bd (bAL_get A dm q79 x14) (fun r80 => gkd A r80 20 (gkd A r80 20 (gix A r80 (0 : Int32) (gti (dm r80 (0 : Int32).toNatClampNeg) (fun v81 => if v81 = x8 then gob A x0 (bd (f6_net mm x14) (fun r84 => bL_isCleared_j270 k16 (fun x0 x1 x2 x4 x6 x8 x9 x10 x11 x12 x13 x14 mm9 A9 dm9 => bL_isCleared_l227 k16 n x0 x1 x2 x4 x6 x8 x9 x10 x11 x12 x13 x14 mm9 A9 dm9) x0 x1 x2 x4 x6 x8 x9 x10 x11 x12 x14 r84.1 x13 r84.2 A dm)) else bL_isCleared_j270 k16 (fun x0 x1 x2 x4 x6 x8 x9 x10 x11 x12 x13 x14 mm9 A9 dm9 => bL_isCleared_l227 k16 n x0 x1 x2 x4 x6 x8 x9 x10 x11 x12 x13 x14 mm9 A9 dm9) x0 x1 x2 x4 x6 x8 x9 x10 x11 x12 x14 (0 : Int32) x13 mm A dm)))))))) else if x13 = x11 then gob A x0 (bd (f6_charged mm x8) (fun r63 => gob A x0 (bd (f6_served r63.2 x8) (fun r64 => if (lg_cmp r63.1 (x10.toInt64 * r64.1.toInt64)) = 0 then gob A x0 (bd (f6_charged r64.2 x8) (fun r65 => nm (x2 + r65.1) (fun v66 => gob A x0 (bd (f6_rent r65.2 x8) (fun r67 => nm (x6 + r67.1) (fun v68 => if x8 = 0 then if x11 = 0 then if x12 = 0 then some ((0 : Int32), r67.2, A, dm) else gob A x0 (bd (f6_binds r67.2 (0 : Int32)) (fun r77 => if r77.1 = 0 then gob A x0 (bd (f6_rent r77.2 (0 : Int32)) (fun r78 => if (lg_cmp r78.1 (0 : Int64)) = 0 then bL_isCleared_j479 k16 x0 x1 v66 x4 v68 x8 r78.2 A dm else some ((0 : Int32), r78.2, A, dm))) else some ((0 : Int32), r77.2, A, dm))) else some ((0 : Int32), r67.2, A, dm) else gkd A x9 20 (gix A x9 (0 : Int32) (gti (dm x9 (0 : Int32).toNatClampNeg) (fun v69 => gob A x0 (bd (f6_price r67.2 v69) (fun r70 => gkd A x9 20 (gix A x9 (1 : Int32) (gti (dm x9 (1 : Int32).toNatClampNeg) (fun v71 => if x11 = (-v71) then if r70.1 < x10 then bL_isCleared_j416 k16 x0 x1 v66 x4 v68 x8 x10 x11 x12 r70.1 (1 : Int32) r70.2 A dm else bL_isCleared_j395 k16 x0 x1 v66 x4 v68 x8 x9 x10 x11 x12 r70.1 r70.2 A dm else bL_isCleared_j395 k16 x0 x1 v66 x4 v68 x8 x9 x10 x11 x12 r70.1 r70.2 A dm)))))))))))))) else some ((0 : Int32), r64.2, A, dm))))) else some ((0 : Int32), mm, A, dm)))))
def tbbL_isCleared_l227 : Tb := [(227, .iload 14, 2, 229), (229, .aload_n 1, 1, 230), (230, .getfield 55, 3, 233), (233, .invokevirtual 106, 3, 236), (236, .if_icmp .ge 43, 3, 239), (279, .iload 13, 2, 281), (281, .iload 11, 2, 283), (283, .if_icmp .ne 24, 3, 286), (307, .iconst 0, 1, 308), (308, .ireturn, 1, 309), (286, .aload_n 0, 1, 287), (287, .iload 8, 2, 289), (289, .invokevirtual 190, 3, 292), (292, .iload 10, 2, 294), (294, .i2l, 1, 295), (295, .aload_n 0, 1, 296), (296, .iload 8, 2, 298), (298, .invokevirtual 182, 3, 301), (301, .i2l, 1, 302), (302, .lmul, 1, 303), (303, .lcmp, 1, 304), (304, .ifCond .eq 5, 3, 307), (309, .lload_n 2, 1, 310), (310, .aload_n 0, 1, 311), (311, .iload 8, 2, 313), (313, .invokevirtual 190, 3, 316), (316, .ladd, 1, 317), (317, .lstore_n 2, 1, 318), (318, .lload 6, 2, 320), (320, .aload_n 0, 1, 321), (321, .iload 8, 2, 323), (323, .invokevirtual 194, 3, 326), (326, .ladd, 1, 327), (327, .lstore 6, 2, 329), (329, .iload 8, 2, 331), (331, .ifCond .ne 33, 3, 334), (364, .aload_n 0, 1, 365), (365, .aload 9, 2, 367), (367, .iconst 0, 1, 368), (368, .iaload, 1, 369), (369, .invokevirtual 170, 3, 372), (372, .istore 14, 2, 374), (374, .iload 11, 2, 376), (376, .aload 9, 2, 378), (378, .iconst 1, 1, 379), (379, .iaload, 1, 380), (380, .ineg, 1, 381), (381, .if_icmp .ne 14, 3, 384), (384, .iload 10, 2, 386), (386, .iload 14, 2, 388), (388, .if_icmp .le 7, 3, 391), (391, .iconst 1, 1, 392), (392, .goto 24, 3, 395), (334, .iload 11, 2, 336), (336, .ifCond .ne 26, 3, 339), (362, .iconst 0, 1, 363), (363, .ireturn, 1, 364), (339, .iload 12, 2, 341), (341, .ifCond .eq 21, 3, 344), (344, .aload_n 0, 1, 345), (345, .iconst 0, 1, 346), (346, .invokevirtual 197, 3, 349), (349, .ifCond .ne 13, 3, 352), (352, .aload_n 0, 1, 353), (353, .iconst 0, 1, 354), (354, .invokevirtual 194, 3, 357), (357, .lconst 0, 1, 358), (358, .lcmp, 1, 359), (359, .ifCond .eq 120, 3, 362), (239, .iload 13, 2, 241), (241, .aload_n 1, 1, 242), (242, .getfield 55, 3, 245), (245, .iload 14, 2, 247), (247, .invokevirtual 91, 3, 250), (250, .checkcast 169, 3, 253), (253, .iconst 0, 1, 254), (254, .iaload, 1, 255), (255, .iload 8, 2, 257), (257, .if_icmp .ne 12, 3, 260), (269, .iconst 0, 1, 270), (260, .aload_n 0, 1, 261), (261, .iload 14, 2, 263), (263, .invokevirtual 173, 3, 266), (266, .goto 4, 3, 269)]
theorem dtbL_isCleared_l227 : ∀ q ∈ tbbL_isCleared_l227, decode cL_isCleared q.1 = .ok (q.2.1, q.2.2.1) ∧ q.1 + q.2.2.1 = q.2.2.2 := by decide +kernel
theorem bL_isCleared_l227_ok {E : Ev2} {l : Launch} {K : KF} {x : Int32 × Mem × AS × DM} {k16 : Nat → Nat → Int64 → Int64 → Int64 → Int32 → Mem → AS → DM → Option (Int32 × Mem × AS × DM)} (X : Ec2 E l K rmFL_isCleared rmLL_isCleared) (B0 : Bx2 E RL [] 16 (some .boolean)) (hcd : Cd2 E cL_isCleared) (hQ : Rt2 E) (hr : Rs2 E (some (.int x.1)) x.2.1 x.2.2.1 x.2.2.2) (hk16 : ∀ (x0 : Nat) (x1 : Nat) (x2 : Int64) (x4 : Int64) (x6 : Int64) (x8 : Int32) (mm : Mem) (A : AS) (dm : DM), k16 x0 x1 x2 x4 x6 x8 mm A dm = some x → G2 E 16 16 [(0, .ref x0), (1, .ref x1), (2, .long x2), (4, .long x4), (6, .long x6), (8, .int x8)] [] mm A dm) (n : Nat) : ∀ (x0 : Nat) (x1 : Nat) (x2 : Int64) (x4 : Int64) (x6 : Int64) (x8 : Int32) (x9 : Nat) (x10 : Int32) (x11 : Int32) (x12 : Int32) (x13 : Int32) (x14 : Int32) (mm : Mem) (A : AS) (dm : DM), bL_isCleared_l227 k16 n x0 x1 x2 x4 x6 x8 x9 x10 x11 x12 x13 x14 mm A dm = some x → G2 E 16 227 [(0, .ref x0), (1, .ref x1), (2, .long x2), (4, .long x4), (6, .long x6), (8, .int x8), (9, .ref x9), (10, .int x10), (11, .int x11), (12, .int x12), (13, .int x13), (14, .int x14)] [] mm A dm := by
  induction n with
  | zero =>
    intro x0 x1 x2 x4 x6 x8 x9 x10 x11 x12 x13 x14 mm A dm hf
    rw [bL_isCleared_l227] at hf
    cases hf
  | succ n ih =>
    intro x0 x1 x2 x4 x6 x8 x9 x10 x11 x12 x13 x14 mm A dm hf
    rw [bL_isCleared_l227] at hf
    have B := B0.tab hcd dtbL_isCleared_l227
    refine w_iload B 0 rfl 11 rfl ?_
    refine w_aload_n B 1 rfl 1 1 rfl rfl ?_
    obtain ⟨hk, hf⟩ := gkd_e hf
    obtain ⟨q61, ex, hf⟩ := gtr_e hf
    refine w_getrN B 2 rfl 8 0 x1 (by decide) hk rfl (List.mem_of_getElem? (i := 1) rfl) (Or.inl rfl) ex ?_
    obtain ⟨hk, hf⟩ := gkd_e hf
    obtain ⟨r62, ec, hf⟩ := bd_e hf
    refine w_callV q61 [] [.int x14] [.int r62, .int x14] X B 3 rfl miAL_size 9 (by decide) hk rfl rfl ⟨(iL_isCleared _ (List.mem_of_getElem? (i := 3) rfl)), (iL_isCleared _ (List.mem_of_getElem? (i := 4) rfl)), (iL_isCleared _ (List.mem_of_getElem? (i := 5) rfl))⟩ (ctAL_size ec) (Or.inl ⟨rfl, rfl⟩) ⟨Nat.le_of_ble_eq_true rfl, Nat.le_of_ble_eq_true rfl⟩ rfl rfl (Nat.le_of_ble_eq_true rfl) rfl ?_
    by_cases hc : x14 < r62
    · replace hf := (if_pos hc).symm.trans hf
      refine w_icmp_ge_f B 4 rfl 279 (by decide) hc ?_
      refine w_iload B 69 rfl 10 rfl ?_
      refine w_aload_n B 70 rfl 1 1 rfl rfl ?_
      obtain ⟨hk, hf⟩ := gkd_e hf
      obtain ⟨q79, ex, hf⟩ := gtr_e hf
      refine w_getrN B 71 rfl 8 0 x1 (by decide) hk rfl (List.mem_of_getElem? (i := 1) rfl) (Or.inl rfl) ex ?_
      refine w_iload B 72 rfl 11 rfl ?_
      obtain ⟨hk, hf⟩ := gkd_e hf
      obtain ⟨r80, ec, hf⟩ := bd_e hf
      refine w_callV q79 [.int x14] [.int x13] [.ref r80, .int x13] X B 73 rfl miAL_get 9 (by decide) hk rfl rfl ⟨(iL_isCleared _ (List.mem_of_getElem? (i := 35) rfl)), (iL_isCleared _ (List.mem_of_getElem? (i := 36) rfl)), (iL_isCleared _ (List.mem_of_getElem? (i := 37) rfl))⟩ (ctAL_get ec) (Or.inl ⟨rfl, rfl⟩) ⟨Nat.le_of_ble_eq_true rfl, Nat.le_of_ble_eq_true rfl⟩ rfl rfl (Nat.le_of_ble_eq_true rfl) rfl ?_
      obtain ⟨hk, hf⟩ := gkd_e hf
      refine w_castI B 74 rfl hk (iL_isCleared _ (List.mem_of_getElem? (i := 38) rfl)) ?_
      refine w_iconst 0 B 75 rfl (by decide) ?_
      obtain ⟨hk, hf⟩ := gkd_e hf
      obtain ⟨hx, hf⟩ := gix_e hf
      obtain ⟨v81, ex, hf⟩ := gti_e hf
      refine w_iald B 76 rfl hk hx ex ?_
      refine w_iload B 77 rfl 5 rfl ?_
      by_cases hc : v81 = x8
      · replace hf := (if_pos hc).symm.trans hf
        refine w_icmp_ne_f B 78 rfl 269 (by decide) hc ?_
        refine w_aload_n B 80 rfl 0 0 rfl rfl ?_
        refine w_iload B 81 rfl 11 rfl ?_
        obtain ⟨ho, hf⟩ := gob_e hf
        obtain ⟨r84, ec, hf⟩ := bd_e hf
        refine w_callC x0 [.int x14] [.int x13] [.int r84.1, .int x13] X B 82 rfl miX6_net rfl ho ⟨(iL_isCleared _ (List.mem_of_getElem? (i := 19) rfl)), (iL_isCleared _ (List.mem_of_getElem? (i := 20) rfl)), (iL_isCleared _ (List.mem_of_getElem? (i := 21) rfl))⟩ (fun hj => ctX6_net hj ec) ⟨Nat.le_of_ble_eq_true rfl, Nat.le_of_ble_eq_true rfl⟩ rfl (fun _ _ => rfl) (fun _ _ => rfl) rfl (Nat.le_of_ble_eq_true rfl) rfl ?_
        refine w_goto B 83 rfl 270 (by decide) ?_
        refine w_sub [(0, .ref x0), (1, .ref x1), (2, .long x2), (4, .long x4), (6, .long x6), (8, .int x8), (9, .ref x9), (10, .int x10), (11, .int x11), (12, .int x12), (14, .int x14)] [0, 1, 2, 3, 4, 5, 6, 7, 8, 9, 11] rfl ?_
        exact bL_isCleared_j270_ok X B0 hcd hQ hr hk16 ih _ _ _ _ _ _ _ _ _ _ _ _ _ _ _ _ hf
      · replace hf := (if_neg hc).symm.trans hf
        refine w_icmp_ne_t B 78 rfl 269 (by decide) hc ?_
        refine w_iconst 0 B 79 rfl (by decide) ?_
        refine w_sub [(0, .ref x0), (1, .ref x1), (2, .long x2), (4, .long x4), (6, .long x6), (8, .int x8), (9, .ref x9), (10, .int x10), (11, .int x11), (12, .int x12), (14, .int x14)] [0, 1, 2, 3, 4, 5, 6, 7, 8, 9, 11] rfl ?_
        exact bL_isCleared_j270_ok X B0 hcd hQ hr hk16 ih _ _ _ _ _ _ _ _ _ _ _ _ _ _ _ _ hf
    · replace hf := (if_neg hc).symm.trans hf
      refine w_icmp_ge_t B 4 rfl 279 (by decide) hc ?_
      refine w_iload B 5 rfl 10 rfl ?_
      refine w_iload B 6 rfl 8 rfl ?_
      by_cases hc : x13 = x11
      · replace hf := (if_pos hc).symm.trans hf
        refine w_icmp_ne_f B 7 rfl 307 (by decide) hc ?_
        refine w_aload_n B 10 rfl 0 0 rfl rfl ?_
        refine w_iload B 11 rfl 5 rfl ?_
        obtain ⟨ho, hf⟩ := gob_e hf
        obtain ⟨r63, ec, hf⟩ := bd_e hf
        refine w_callC x0 [.int x8] [] [.long r63.1] X B 12 rfl miX6_charged rfl ho ⟨(iL_isCleared _ (List.mem_of_getElem? (i := 29) rfl)), (iL_isCleared _ (List.mem_of_getElem? (i := 30) rfl)), (iL_isCleared _ (List.mem_of_getElem? (i := 31) rfl))⟩ (fun hj => ctX6_charged hj ec) ⟨Nat.le_of_ble_eq_true rfl, Nat.le_of_ble_eq_true rfl⟩ rfl (fun _ _ => rfl) (fun _ _ => rfl) rfl (Nat.le_of_ble_eq_true rfl) rfl ?_
        refine w_iload B 13 rfl 7 rfl ?_
        refine w_i2l B 14 rfl ?_
        refine w_aload_n B 15 rfl 0 0 rfl rfl ?_
        refine w_iload B 16 rfl 5 rfl ?_
        obtain ⟨ho, hf⟩ := gob_e hf
        obtain ⟨r64, ec, hf⟩ := bd_e hf
        refine w_callC x0 [.int x8] [.long x10.toInt64, .long r63.1] [.int r64.1, .long x10.toInt64, .long r63.1] X B 17 rfl miX6_served rfl ho ⟨(iL_isCleared _ (List.mem_of_getElem? (i := 23) rfl)), (iL_isCleared _ (List.mem_of_getElem? (i := 24) rfl)), (iL_isCleared _ (List.mem_of_getElem? (i := 25) rfl))⟩ (fun hj => ctX6_served hj ec) ⟨Nat.le_of_ble_eq_true rfl, Nat.le_of_ble_eq_true rfl⟩ rfl (fun _ _ => rfl) (fun _ _ => rfl) rfl (Nat.le_of_ble_eq_true rfl) rfl ?_
        refine w_i2l B 18 rfl ?_
        refine w_lmul B 19 rfl ?_
        refine w_lcmp B 20 rfl ?_
        by_cases hc : (lg_cmp r63.1 (x10.toInt64 * r64.1.toInt64)) = 0
        · replace hf := (if_pos hc).symm.trans hf
          refine w_if_eq_t B 21 rfl 309 (by decide) hc ?_
          refine w_lload_n B 22 rfl 2 2 rfl rfl ?_
          refine w_aload_n B 23 rfl 0 0 rfl rfl ?_
          refine w_iload B 24 rfl 5 rfl ?_
          obtain ⟨ho, hf⟩ := gob_e hf
          obtain ⟨r65, ec, hf⟩ := bd_e hf
          refine w_callC x0 [.int x8] [.long x2] [.long r65.1, .long x2] X B 25 rfl miX6_charged rfl ho ⟨(iL_isCleared _ (List.mem_of_getElem? (i := 29) rfl)), (iL_isCleared _ (List.mem_of_getElem? (i := 30) rfl)), (iL_isCleared _ (List.mem_of_getElem? (i := 31) rfl))⟩ (fun hj => ctX6_charged hj ec) ⟨Nat.le_of_ble_eq_true rfl, Nat.le_of_ble_eq_true rfl⟩ rfl (fun _ _ => rfl) (fun _ _ => rfl) rfl (Nat.le_of_ble_eq_true rfl) rfl ?_
          refine w_ladd B 26 rfl ?_
          obtain ⟨v66, ex, hf⟩ := nm_x hf
          refine w_topl ex ?_
          refine w_lstore_n [(2, .long v66), (0, .ref x0), (1, .ref x1), (4, .long x4), (6, .long x6), (8, .int x8), (9, .ref x9), (10, .int x10), (11, .int x11), (12, .int x12), (13, .int x13), (14, .int x14)] B 27 rfl 2 rfl (by decide) rfl ?_
          refine w_lload B 28 rfl 4 rfl ?_
          refine w_aload_n B 29 rfl 0 1 rfl rfl ?_
          refine w_iload B 30 rfl 5 rfl ?_
          obtain ⟨ho, hf⟩ := gob_e hf
          obtain ⟨r67, ec, hf⟩ := bd_e hf
          refine w_callC x0 [.int x8] [.long x6] [.long r67.1, .long x6] X B 31 rfl miX6_rent rfl ho ⟨(iL_isCleared _ (List.mem_of_getElem? (i := 26) rfl)), (iL_isCleared _ (List.mem_of_getElem? (i := 27) rfl)), (iL_isCleared _ (List.mem_of_getElem? (i := 28) rfl))⟩ (fun hj => ctX6_rent hj ec) ⟨Nat.le_of_ble_eq_true rfl, Nat.le_of_ble_eq_true rfl⟩ rfl (fun _ _ => rfl) (fun _ _ => rfl) rfl (Nat.le_of_ble_eq_true rfl) rfl ?_
          refine w_ladd B 32 rfl ?_
          obtain ⟨v68, ex, hf⟩ := nm_x hf
          refine w_topl ex ?_
          refine w_lstore [(6, .long v68), (2, .long v66), (0, .ref x0), (1, .ref x1), (4, .long x4), (8, .int x8), (9, .ref x9), (10, .int x10), (11, .int x11), (12, .int x12), (13, .int x13), (14, .int x14)] B 33 rfl (by decide) rfl ?_
          refine w_iload B 34 rfl 5 rfl ?_
          by_cases hc : x8 = 0
          · replace hf := (if_pos hc).symm.trans hf
            refine w_if_ne_f B 35 rfl 364 (by decide) hc ?_
            refine w_iload B 53 rfl 8 rfl ?_
            by_cases hc : x11 = 0
            · replace hf := (if_pos hc).symm.trans hf
              refine w_if_ne_f B 54 rfl 362 (by decide) hc ?_
              refine w_iload B 57 rfl 9 rfl ?_
              by_cases hc : x12 = 0
              · replace hf := (if_pos hc).symm.trans hf
                refine w_if_eq_t B 58 rfl 362 (by decide) hc ?_
                refine w_iconst 0 B 55 rfl (by decide) ?_
                cases hf
                exact w_iret B 56 rfl (by decide) hQ hr
              · replace hf := (if_neg hc).symm.trans hf
                refine w_if_eq_f B 58 rfl 362 (by decide) hc ?_
                refine w_aload_n B 59 rfl 0 2 rfl rfl ?_
                refine w_iconst 0 B 60 rfl (by decide) ?_
                obtain ⟨ho, hf⟩ := gob_e hf
                obtain ⟨r77, ec, hf⟩ := bd_e hf
                refine w_callC x0 [.int (0 : Int32)] [] [.int r77.1] X B 61 rfl miX6_binds rfl ho ⟨(iL_isCleared _ (List.mem_of_getElem? (i := 32) rfl)), (iL_isCleared _ (List.mem_of_getElem? (i := 33) rfl)), (iL_isCleared _ (List.mem_of_getElem? (i := 34) rfl))⟩ (fun hj => ctX6_binds hj ec) ⟨Nat.le_of_ble_eq_true rfl, Nat.le_of_ble_eq_true rfl⟩ rfl (fun _ _ => rfl) (fun _ _ => rfl) rfl (Nat.le_of_ble_eq_true rfl) rfl ?_
                by_cases hc : r77.1 = 0
                · replace hf := (if_pos hc).symm.trans hf
                  refine w_if_ne_f B 62 rfl 362 (by decide) hc ?_
                  refine w_aload_n B 63 rfl 0 2 rfl rfl ?_
                  refine w_iconst 0 B 64 rfl (by decide) ?_
                  obtain ⟨ho, hf⟩ := gob_e hf
                  obtain ⟨r78, ec, hf⟩ := bd_e hf
                  refine w_callC x0 [.int (0 : Int32)] [] [.long r78.1] X B 65 rfl miX6_rent rfl ho ⟨(iL_isCleared _ (List.mem_of_getElem? (i := 26) rfl)), (iL_isCleared _ (List.mem_of_getElem? (i := 27) rfl)), (iL_isCleared _ (List.mem_of_getElem? (i := 28) rfl))⟩ (fun hj => ctX6_rent hj ec) ⟨Nat.le_of_ble_eq_true rfl, Nat.le_of_ble_eq_true rfl⟩ rfl (fun _ _ => rfl) (fun _ _ => rfl) rfl (Nat.le_of_ble_eq_true rfl) rfl ?_
                  refine w_lconst 0 B 66 rfl (by decide) ?_
                  refine w_lcmp B 67 rfl ?_
                  by_cases hc : (lg_cmp r78.1 (0 : Int64)) = 0
                  · replace hf := (if_pos hc).symm.trans hf
                    refine w_if_eq_t B 68 rfl 479 (by decide) hc ?_
                    refine w_sub [(0, .ref x0), (1, .ref x1), (2, .long v66), (4, .long x4), (6, .long v68), (8, .int x8)] [2, 3, 1, 4, 0, 5] rfl ?_
                    exact bL_isCleared_j479_ok X B0 hcd hQ hr hk16 _ _ _ _ _ _ _ _ _ hf
                  · replace hf := (if_neg hc).symm.trans hf
                    refine w_if_eq_f B 68 rfl 479 (by decide) hc ?_
                    refine w_iconst 0 B 55 rfl (by decide) ?_
                    cases hf
                    exact w_iret B 56 rfl (by decide) hQ hr
                · replace hf := (if_neg hc).symm.trans hf
                  refine w_if_ne_t B 62 rfl 362 (by decide) hc ?_
                  refine w_iconst 0 B 55 rfl (by decide) ?_
                  cases hf
                  exact w_iret B 56 rfl (by decide) hQ hr
            · replace hf := (if_neg hc).symm.trans hf
              refine w_if_ne_t B 54 rfl 362 (by decide) hc ?_
              refine w_iconst 0 B 55 rfl (by decide) ?_
              cases hf
              exact w_iret B 56 rfl (by decide) hQ hr
          · replace hf := (if_neg hc).symm.trans hf
            refine w_if_ne_t B 35 rfl 364 (by decide) hc ?_
            refine w_aload_n B 36 rfl 0 2 rfl rfl ?_
            refine w_aload B 37 rfl 6 rfl ?_
            refine w_iconst 0 B 38 rfl (by decide) ?_
            obtain ⟨hk, hf⟩ := gkd_e hf
            obtain ⟨hx, hf⟩ := gix_e hf
            obtain ⟨v69, ex, hf⟩ := gti_e hf
            refine w_iald B 39 rfl hk hx ex ?_
            obtain ⟨ho, hf⟩ := gob_e hf
            obtain ⟨r70, ec, hf⟩ := bd_e hf
            refine w_callC x0 [.int v69] [] [.int r70.1] X B 40 rfl miX6_price rfl ho ⟨(iL_isCleared _ (List.mem_of_getElem? (i := 16) rfl)), (iL_isCleared _ (List.mem_of_getElem? (i := 17) rfl)), (iL_isCleared _ (List.mem_of_getElem? (i := 18) rfl))⟩ (fun hj => ctX6_price hj ec) ⟨Nat.le_of_ble_eq_true rfl, Nat.le_of_ble_eq_true rfl⟩ rfl (fun _ _ => rfl) (fun _ _ => rfl) rfl (Nat.le_of_ble_eq_true rfl) rfl ?_
            refine w_istore [(14, .int r70.1), (6, .long v68), (2, .long v66), (0, .ref x0), (1, .ref x1), (4, .long x4), (8, .int x8), (9, .ref x9), (10, .int x10), (11, .int x11), (12, .int x12), (13, .int x13)] B 41 rfl (by decide) rfl ?_
            refine w_iload B 42 rfl 9 rfl ?_
            refine w_aload B 43 rfl 7 rfl ?_
            refine w_iconst 1 B 44 rfl (by decide) ?_
            obtain ⟨hk, hf⟩ := gkd_e hf
            obtain ⟨hx, hf⟩ := gix_e hf
            obtain ⟨v71, ex, hf⟩ := gti_e hf
            refine w_iald B 45 rfl hk hx ex ?_
            refine w_ineg B 46 rfl ?_
            by_cases hc : x11 = (-v71)
            · replace hf := (if_pos hc).symm.trans hf
              refine w_icmp_ne_f B 47 rfl 395 (by decide) hc ?_
              refine w_iload B 48 rfl 8 rfl ?_
              refine w_iload B 49 rfl 0 rfl ?_
              by_cases hc : r70.1 < x10
              · replace hf := (if_pos hc).symm.trans hf
                refine w_icmp_le_f B 50 rfl 395 (by decide) hc ?_
                refine w_iconst 1 B 51 rfl (by decide) ?_
                refine w_goto B 52 rfl 416 (by decide) ?_
                refine w_sub [(0, .ref x0), (1, .ref x1), (2, .long v66), (4, .long x4), (6, .long v68), (8, .int x8), (10, .int x10), (11, .int x11), (12, .int x12), (14, .int r70.1)] [3, 4, 2, 5, 1, 6, 8, 9, 10, 0] rfl ?_
                exact bL_isCleared_j416_ok X B0 hcd hQ hr hk16 _ _ _ _ _ _ _ _ _ _ _ _ _ _ hf
              · replace hf := (if_neg hc).symm.trans hf
                refine w_icmp_le_t B 50 rfl 395 (by decide) hc ?_
                refine w_sub [(0, .ref x0), (1, .ref x1), (2, .long v66), (4, .long x4), (6, .long v68), (8, .int x8), (9, .ref x9), (10, .int x10), (11, .int x11), (12, .int x12), (14, .int r70.1)] [3, 4, 2, 5, 1, 6, 7, 8, 9, 10, 0] rfl ?_
                exact bL_isCleared_j395_ok X B0 hcd hQ hr hk16 _ _ _ _ _ _ _ _ _ _ _ _ _ _ hf
            · replace hf := (if_neg hc).symm.trans hf
              refine w_icmp_ne_t B 47 rfl 395 (by decide) hc ?_
              refine w_sub [(0, .ref x0), (1, .ref x1), (2, .long v66), (4, .long x4), (6, .long v68), (8, .int x8), (9, .ref x9), (10, .int x10), (11, .int x11), (12, .int x12), (14, .int r70.1)] [3, 4, 2, 5, 1, 6, 7, 8, 9, 10, 0] rfl ?_
              exact bL_isCleared_j395_ok X B0 hcd hQ hr hk16 _ _ _ _ _ _ _ _ _ _ _ _ _ _ hf
        · replace hf := (if_neg hc).symm.trans hf
          refine w_if_eq_f B 21 rfl 309 (by decide) hc ?_
          refine w_iconst 0 B 8 rfl (by decide) ?_
          cases hf
          exact w_iret B 9 rfl (by decide) hQ hr
      · replace hf := (if_neg hc).symm.trans hf
        refine w_icmp_ne_t B 7 rfl 307 (by decide) hc ?_
        refine w_iconst 0 B 8 rfl (by decide) ?_
        cases hf
        exact w_iret B 9 rfl (by decide) hQ hr
def bL_isCleared_j212 (k16 : Nat → Nat → Int64 → Int64 → Int64 → Int32 → Mem → AS → DM → Option (Int32 × Mem × AS × DM)) (k168 : Nat → Nat → Int64 → Int64 → Int64 → Int32 → Nat → Int32 → Int32 → Int32 → Int32 → Int32 → Mem → AS → DM → Option (Int32 × Mem × AS × DM)) (x0 : Nat) (x1 : Nat) (x2 : Int64) (x4 : Int64) (x6 : Int64) (x8 : Int32) (x9 : Nat) (x10 : Int32) (x11 : Int32) (x12 : Int32) (x14 : Int32) (s0 : Int32) (s1 : Int32) (mm : Mem) (A : AS) (dm : DM) : Option (Int32 × Mem × AS × DM) := nm (s1 + s0) (fun v88 => nm (x14 + 1) (fun v89 => k168 x0 x1 x2 x4 x6 x8 x9 x10 x11 x12 v88 v89 mm A dm))
def tbbL_isCleared_j212 : Tb := [(212, .iadd, 1, 213), (213, .istore 13, 2, 215), (215, .iinc 14 1, 3, 218), (218, .goto (-50), 3, 221)]
theorem dtbL_isCleared_j212 : ∀ q ∈ tbbL_isCleared_j212, decode cL_isCleared q.1 = .ok (q.2.1, q.2.2.1) ∧ q.1 + q.2.2.1 = q.2.2.2 := by decide +kernel
theorem bL_isCleared_j212_ok {E : Ev2} {l : Launch} {K : KF} {x : Int32 × Mem × AS × DM} {k16 : Nat → Nat → Int64 → Int64 → Int64 → Int32 → Mem → AS → DM → Option (Int32 × Mem × AS × DM)} {k168 : Nat → Nat → Int64 → Int64 → Int64 → Int32 → Nat → Int32 → Int32 → Int32 → Int32 → Int32 → Mem → AS → DM → Option (Int32 × Mem × AS × DM)} (X : Ec2 E l K rmFL_isCleared rmLL_isCleared) (B0 : Bx2 E RL [] 16 (some .boolean)) (hcd : Cd2 E cL_isCleared) (hQ : Rt2 E) (hr : Rs2 E (some (.int x.1)) x.2.1 x.2.2.1 x.2.2.2) (hk16 : ∀ (x0 : Nat) (x1 : Nat) (x2 : Int64) (x4 : Int64) (x6 : Int64) (x8 : Int32) (mm : Mem) (A : AS) (dm : DM), k16 x0 x1 x2 x4 x6 x8 mm A dm = some x → G2 E 16 16 [(0, .ref x0), (1, .ref x1), (2, .long x2), (4, .long x4), (6, .long x6), (8, .int x8)] [] mm A dm) (hk168 : ∀ (x0 : Nat) (x1 : Nat) (x2 : Int64) (x4 : Int64) (x6 : Int64) (x8 : Int32) (x9 : Nat) (x10 : Int32) (x11 : Int32) (x12 : Int32) (x13 : Int32) (x14 : Int32) (mm : Mem) (A : AS) (dm : DM), k168 x0 x1 x2 x4 x6 x8 x9 x10 x11 x12 x13 x14 mm A dm = some x → G2 E 16 168 [(0, .ref x0), (1, .ref x1), (2, .long x2), (4, .long x4), (6, .long x6), (8, .int x8), (9, .ref x9), (10, .int x10), (11, .int x11), (12, .int x12), (13, .int x13), (14, .int x14)] [] mm A dm) (x0 : Nat) (x1 : Nat) (x2 : Int64) (x4 : Int64) (x6 : Int64) (x8 : Int32) (x9 : Nat) (x10 : Int32) (x11 : Int32) (x12 : Int32) (x14 : Int32) (s0 : Int32) (s1 : Int32) (mm : Mem) (A : AS) (dm : DM) (hf : bL_isCleared_j212 k16 k168 x0 x1 x2 x4 x6 x8 x9 x10 x11 x12 x14 s0 s1 mm A dm = some x) : G2 E 16 212 [(0, .ref x0), (1, .ref x1), (2, .long x2), (4, .long x4), (6, .long x6), (8, .int x8), (9, .ref x9), (10, .int x10), (11, .int x11), (12, .int x12), (14, .int x14)] [.int s0, .int s1] mm A dm := by
  unfold bL_isCleared_j212 at hf
  have B := B0.tab hcd dtbL_isCleared_j212
  refine w_iadd B 0 rfl ?_
  obtain ⟨v88, ex, hf⟩ := nm_x hf
  refine w_top ex ?_
  refine w_istore [(13, .int v88), (0, .ref x0), (1, .ref x1), (2, .long x2), (4, .long x4), (6, .long x6), (8, .int x8), (9, .ref x9), (10, .int x10), (11, .int x11), (12, .int x12), (14, .int x14)] B 1 rfl (by decide) rfl ?_
  obtain ⟨v89, ex, hf⟩ := nm_x hf
  refine w_iinc v89 [(14, .int v89), (13, .int v88), (0, .ref x0), (1, .ref x1), (2, .long x2), (4, .long x4), (6, .long x6), (8, .int x8), (9, .ref x9), (10, .int x10), (11, .int x11), (12, .int x12)] B 2 rfl 11 rfl (ex.symm) (by decide) rfl ?_
  refine w_goto B 3 rfl 168 (by decide) ?_
  refine w_sub [(0, .ref x0), (1, .ref x1), (2, .long x2), (4, .long x4), (6, .long x6), (8, .int x8), (9, .ref x9), (10, .int x10), (11, .int x11), (12, .int x12), (13, .int v88), (14, .int v89)] [2, 3, 4, 5, 6, 7, 8, 9, 10, 11, 1, 0] rfl ?_
  exact hk168 _ _ _ _ _ _ _ _ _ _ _ _ _ _ _ hf
def bL_isCleared_l168 (k16 : Nat → Nat → Int64 → Int64 → Int64 → Int32 → Mem → AS → DM → Option (Int32 × Mem × AS × DM)) : Nat → Nat → Nat → Int64 → Int64 → Int64 → Int32 → Nat → Int32 → Int32 → Int32 → Int32 → Int32 → Mem → AS → DM → Option (Int32 × Mem × AS × DM)
  | 0, _, _, _, _, _, _, _, _, _, _, _, _, _, _, _ => none
  | n + 1, x0, x1, x2, x4, x6, x8, x9, x10, x11, x12, x13, x14, mm, A, dm => gkd A x1 8 (gtr (dm x1 2) (fun q58 => gkd A q58 9 (bd (bAL_size A dm q58) (fun r59 => if x14 < r59 then gkd A x1 8 (gtr (dm x1 2) (fun q85 => gkd A q85 9 (bd (bAL_get A dm q85 x14) (fun r86 => gkd A r86 20 (gkd A r86 20 (gix A r86 (0 : Int32) (gti (dm r86 (0 : Int32).toNatClampNeg) (fun v87 => if v87 = x8 then gob A x0 (bd (f6_taken mm x14 (-1 : Int32)) (fun r90 => bL_isCleared_j212 k16 (fun x0 x1 x2 x4 x6 x8 x9 x10 x11 x12 x13 x14 mm9 A9 dm9 => bL_isCleared_l168 k16 n x0 x1 x2 x4 x6 x8 x9 x10 x11 x12 x13 x14 mm9 A9 dm9) x0 x1 x2 x4 x6 x8 x9 x10 x11 x12 x14 r90.1 x13 r90.2 A dm)) else bL_isCleared_j212 k16 (fun x0 x1 x2 x4 x6 x8 x9 x10 x11 x12 x13 x14 mm9 A9 dm9 => bL_isCleared_l168 k16 n x0 x1 x2 x4 x6 x8 x9 x10 x11 x12 x13 x14 mm9 A9 dm9) x0 x1 x2 x4 x6 x8 x9 x10 x11 x12 x14 (0 : Int32) x13 mm A dm)))))))) else nm (x8 + (1 : Int32)) (fun v60 => bL_isCleared_l227 k16 FU x0 x1 x2 x4 x6 x8 x9 x10 x11 x12 x13 v60 mm A dm)))))
def tbbL_isCleared_l168 : Tb := [(168, .iload 14, 2, 170), (170, .aload_n 1, 1, 171), (171, .getfield 100, 3, 174), (174, .invokevirtual 106, 3, 177), (177, .if_icmp .ge 44, 3, 180), (221, .iload 8, 2, 223), (223, .iconst 1, 1, 224), (224, .iadd, 1, 225), (225, .istore 14, 2, 227), (180, .iload 13, 2, 182), (182, .aload_n 1, 1, 183), (183, .getfield 100, 3, 186), (186, .iload 14, 2, 188), (188, .invokevirtual 91, 3, 191), (191, .checkcast 169, 3, 194), (194, .iconst 0, 1, 195), (195, .iaload, 1, 196), (196, .iload 8, 2, 198), (198, .if_icmp .ne 13, 3, 201), (211, .iconst 0, 1, 212), (201, .aload_n 0, 1, 202), (202, .iload 14, 2, 204), (204, .iconst (-1), 1, 205), (205, .invokevirtual 187, 3, 208), (208, .goto 4, 3, 211)]
theorem dtbL_isCleared_l168 : ∀ q ∈ tbbL_isCleared_l168, decode cL_isCleared q.1 = .ok (q.2.1, q.2.2.1) ∧ q.1 + q.2.2.1 = q.2.2.2 := by decide +kernel
theorem bL_isCleared_l168_ok {E : Ev2} {l : Launch} {K : KF} {x : Int32 × Mem × AS × DM} {k16 : Nat → Nat → Int64 → Int64 → Int64 → Int32 → Mem → AS → DM → Option (Int32 × Mem × AS × DM)} (X : Ec2 E l K rmFL_isCleared rmLL_isCleared) (B0 : Bx2 E RL [] 16 (some .boolean)) (hcd : Cd2 E cL_isCleared) (hQ : Rt2 E) (hr : Rs2 E (some (.int x.1)) x.2.1 x.2.2.1 x.2.2.2) (hk16 : ∀ (x0 : Nat) (x1 : Nat) (x2 : Int64) (x4 : Int64) (x6 : Int64) (x8 : Int32) (mm : Mem) (A : AS) (dm : DM), k16 x0 x1 x2 x4 x6 x8 mm A dm = some x → G2 E 16 16 [(0, .ref x0), (1, .ref x1), (2, .long x2), (4, .long x4), (6, .long x6), (8, .int x8)] [] mm A dm) (n : Nat) : ∀ (x0 : Nat) (x1 : Nat) (x2 : Int64) (x4 : Int64) (x6 : Int64) (x8 : Int32) (x9 : Nat) (x10 : Int32) (x11 : Int32) (x12 : Int32) (x13 : Int32) (x14 : Int32) (mm : Mem) (A : AS) (dm : DM), bL_isCleared_l168 k16 n x0 x1 x2 x4 x6 x8 x9 x10 x11 x12 x13 x14 mm A dm = some x → G2 E 16 168 [(0, .ref x0), (1, .ref x1), (2, .long x2), (4, .long x4), (6, .long x6), (8, .int x8), (9, .ref x9), (10, .int x10), (11, .int x11), (12, .int x12), (13, .int x13), (14, .int x14)] [] mm A dm := by
  induction n with
  | zero =>
    intro x0 x1 x2 x4 x6 x8 x9 x10 x11 x12 x13 x14 mm A dm hf
    rw [bL_isCleared_l168] at hf
    cases hf
  | succ n ih =>
    intro x0 x1 x2 x4 x6 x8 x9 x10 x11 x12 x13 x14 mm A dm hf
    rw [bL_isCleared_l168] at hf
    have B := B0.tab hcd dtbL_isCleared_l168
    refine w_iload B 0 rfl 11 rfl ?_
    refine w_aload_n B 1 rfl 1 1 rfl rfl ?_
    obtain ⟨hk, hf⟩ := gkd_e hf
    obtain ⟨q58, ex, hf⟩ := gtr_e hf
    refine w_getrN B 2 rfl 8 2 x1 (by decide) hk rfl (List.mem_of_getElem? (i := 3) rfl) (Or.inl rfl) ex ?_
    obtain ⟨hk, hf⟩ := gkd_e hf
    obtain ⟨r59, ec, hf⟩ := bd_e hf
    refine w_callV q58 [] [.int x14] [.int r59, .int x14] X B 3 rfl miAL_size 9 (by decide) hk rfl rfl ⟨(iL_isCleared _ (List.mem_of_getElem? (i := 3) rfl)), (iL_isCleared _ (List.mem_of_getElem? (i := 4) rfl)), (iL_isCleared _ (List.mem_of_getElem? (i := 5) rfl))⟩ (ctAL_size ec) (Or.inl ⟨rfl, rfl⟩) ⟨Nat.le_of_ble_eq_true rfl, Nat.le_of_ble_eq_true rfl⟩ rfl rfl (Nat.le_of_ble_eq_true rfl) rfl ?_
    by_cases hc : x14 < r59
    · replace hf := (if_pos hc).symm.trans hf
      refine w_icmp_ge_f B 4 rfl 221 (by decide) hc ?_
      refine w_iload B 9 rfl 10 rfl ?_
      refine w_aload_n B 10 rfl 1 1 rfl rfl ?_
      obtain ⟨hk, hf⟩ := gkd_e hf
      obtain ⟨q85, ex, hf⟩ := gtr_e hf
      refine w_getrN B 11 rfl 8 2 x1 (by decide) hk rfl (List.mem_of_getElem? (i := 3) rfl) (Or.inl rfl) ex ?_
      refine w_iload B 12 rfl 11 rfl ?_
      obtain ⟨hk, hf⟩ := gkd_e hf
      obtain ⟨r86, ec, hf⟩ := bd_e hf
      refine w_callV q85 [.int x14] [.int x13] [.ref r86, .int x13] X B 13 rfl miAL_get 9 (by decide) hk rfl rfl ⟨(iL_isCleared _ (List.mem_of_getElem? (i := 35) rfl)), (iL_isCleared _ (List.mem_of_getElem? (i := 36) rfl)), (iL_isCleared _ (List.mem_of_getElem? (i := 37) rfl))⟩ (ctAL_get ec) (Or.inl ⟨rfl, rfl⟩) ⟨Nat.le_of_ble_eq_true rfl, Nat.le_of_ble_eq_true rfl⟩ rfl rfl (Nat.le_of_ble_eq_true rfl) rfl ?_
      obtain ⟨hk, hf⟩ := gkd_e hf
      refine w_castI B 14 rfl hk (iL_isCleared _ (List.mem_of_getElem? (i := 38) rfl)) ?_
      refine w_iconst 0 B 15 rfl (by decide) ?_
      obtain ⟨hk, hf⟩ := gkd_e hf
      obtain ⟨hx, hf⟩ := gix_e hf
      obtain ⟨v87, ex, hf⟩ := gti_e hf
      refine w_iald B 16 rfl hk hx ex ?_
      refine w_iload B 17 rfl 5 rfl ?_
      by_cases hc : v87 = x8
      · replace hf := (if_pos hc).symm.trans hf
        refine w_icmp_ne_f B 18 rfl 211 (by decide) hc ?_
        refine w_aload_n B 20 rfl 0 0 rfl rfl ?_
        refine w_iload B 21 rfl 11 rfl ?_
        refine w_iconst (-1) B 22 rfl (by decide) ?_
        obtain ⟨ho, hf⟩ := gob_e hf
        obtain ⟨r90, ec, hf⟩ := bd_e hf
        refine w_callC x0 [.int x14, .int (-1 : Int32)] [.int x13] [.int r90.1, .int x13] X B 23 rfl miX6_taken rfl ho ⟨(iL_isCleared _ (List.mem_of_getElem? (i := 42) rfl)), (iL_isCleared _ (List.mem_of_getElem? (i := 43) rfl)), (iL_isCleared _ (List.mem_of_getElem? (i := 44) rfl))⟩ (fun hj => ctX6_taken hj ec) ⟨Nat.le_of_ble_eq_true rfl, Nat.le_of_ble_eq_true rfl⟩ rfl (fun _ _ => rfl) (fun _ _ => rfl) rfl (Nat.le_of_ble_eq_true rfl) rfl ?_
        refine w_goto B 24 rfl 212 (by decide) ?_
        refine w_sub [(0, .ref x0), (1, .ref x1), (2, .long x2), (4, .long x4), (6, .long x6), (8, .int x8), (9, .ref x9), (10, .int x10), (11, .int x11), (12, .int x12), (14, .int x14)] [0, 1, 2, 3, 4, 5, 6, 7, 8, 9, 11] rfl ?_
        exact bL_isCleared_j212_ok X B0 hcd hQ hr hk16 ih _ _ _ _ _ _ _ _ _ _ _ _ _ _ _ _ hf
      · replace hf := (if_neg hc).symm.trans hf
        refine w_icmp_ne_t B 18 rfl 211 (by decide) hc ?_
        refine w_iconst 0 B 19 rfl (by decide) ?_
        refine w_sub [(0, .ref x0), (1, .ref x1), (2, .long x2), (4, .long x4), (6, .long x6), (8, .int x8), (9, .ref x9), (10, .int x10), (11, .int x11), (12, .int x12), (14, .int x14)] [0, 1, 2, 3, 4, 5, 6, 7, 8, 9, 11] rfl ?_
        exact bL_isCleared_j212_ok X B0 hcd hQ hr hk16 ih _ _ _ _ _ _ _ _ _ _ _ _ _ _ _ _ hf
    · replace hf := (if_neg hc).symm.trans hf
      refine w_icmp_ge_t B 4 rfl 221 (by decide) hc ?_
      refine w_iload B 5 rfl 5 rfl ?_
      refine w_iconst 1 B 6 rfl (by decide) ?_
      refine w_iadd B 7 rfl ?_
      obtain ⟨v60, ex, hf⟩ := nm_x hf
      refine w_top ex ?_
      refine w_istore [(14, .int v60), (0, .ref x0), (1, .ref x1), (2, .long x2), (4, .long x4), (6, .long x6), (8, .int x8), (9, .ref x9), (10, .int x10), (11, .int x11), (12, .int x12), (13, .int x13)] B 8 rfl (by decide) rfl ?_
      refine w_sub [(0, .ref x0), (1, .ref x1), (2, .long x2), (4, .long x4), (6, .long x6), (8, .int x8), (9, .ref x9), (10, .int x10), (11, .int x11), (12, .int x12), (13, .int x13), (14, .int v60)] [1, 2, 3, 4, 5, 6, 7, 8, 9, 10, 11, 0] rfl ?_
      exact bL_isCleared_l227_ok X B0 hcd hQ hr hk16 FU _ _ _ _ _ _ _ _ _ _ _ _ _ _ _ hf
def bL_isCleared_j154 (k16 : Nat → Nat → Int64 → Int64 → Int64 → Int32 → Mem → AS → DM → Option (Int32 × Mem × AS × DM)) (x0 : Nat) (x1 : Nat) (x2 : Int64) (x4 : Int64) (x6 : Int64) (x8 : Int32) (x9 : Nat) (x10 : Int32) (x11 : Int32) (s0 : Int32) (mm : Mem) (A : AS) (dm : DM) : Option (Int32 × Mem × AS × DM) := gob A x0 (bd (f6_served mm x8) (fun r56 => nm (-r56.1) (fun v57 => bL_isCleared_l168 k16 FU x0 x1 x2 x4 x6 x8 x9 x10 x11 s0 v57 (0 : Int32) r56.2 A dm)))
def tbbL_isCleared_j154 : Tb := [(154, .istore 12, 2, 156), (156, .aload_n 0, 1, 157), (157, .iload 8, 2, 159), (159, .invokevirtual 182, 3, 162), (162, .ineg, 1, 163), (163, .istore 13, 2, 165), (165, .iconst 0, 1, 166), (166, .istore 14, 2, 168)]
theorem dtbL_isCleared_j154 : ∀ q ∈ tbbL_isCleared_j154, decode cL_isCleared q.1 = .ok (q.2.1, q.2.2.1) ∧ q.1 + q.2.2.1 = q.2.2.2 := by decide +kernel
theorem bL_isCleared_j154_ok {E : Ev2} {l : Launch} {K : KF} {x : Int32 × Mem × AS × DM} {k16 : Nat → Nat → Int64 → Int64 → Int64 → Int32 → Mem → AS → DM → Option (Int32 × Mem × AS × DM)} (X : Ec2 E l K rmFL_isCleared rmLL_isCleared) (B0 : Bx2 E RL [] 16 (some .boolean)) (hcd : Cd2 E cL_isCleared) (hQ : Rt2 E) (hr : Rs2 E (some (.int x.1)) x.2.1 x.2.2.1 x.2.2.2) (hk16 : ∀ (x0 : Nat) (x1 : Nat) (x2 : Int64) (x4 : Int64) (x6 : Int64) (x8 : Int32) (mm : Mem) (A : AS) (dm : DM), k16 x0 x1 x2 x4 x6 x8 mm A dm = some x → G2 E 16 16 [(0, .ref x0), (1, .ref x1), (2, .long x2), (4, .long x4), (6, .long x6), (8, .int x8)] [] mm A dm) (x0 : Nat) (x1 : Nat) (x2 : Int64) (x4 : Int64) (x6 : Int64) (x8 : Int32) (x9 : Nat) (x10 : Int32) (x11 : Int32) (s0 : Int32) (mm : Mem) (A : AS) (dm : DM) (hf : bL_isCleared_j154 k16 x0 x1 x2 x4 x6 x8 x9 x10 x11 s0 mm A dm = some x) : G2 E 16 154 [(0, .ref x0), (1, .ref x1), (2, .long x2), (4, .long x4), (6, .long x6), (8, .int x8), (9, .ref x9), (10, .int x10), (11, .int x11)] [.int s0] mm A dm := by
  unfold bL_isCleared_j154 at hf
  have B := B0.tab hcd dtbL_isCleared_j154
  refine w_istore [(12, .int s0), (0, .ref x0), (1, .ref x1), (2, .long x2), (4, .long x4), (6, .long x6), (8, .int x8), (9, .ref x9), (10, .int x10), (11, .int x11)] B 0 rfl (by decide) rfl ?_
  refine w_aload_n B 1 rfl 0 1 rfl rfl ?_
  refine w_iload B 2 rfl 6 rfl ?_
  obtain ⟨ho, hf⟩ := gob_e hf
  obtain ⟨r56, ec, hf⟩ := bd_e hf
  refine w_callC x0 [.int x8] [] [.int r56.1] X B 3 rfl miX6_served rfl ho ⟨(iL_isCleared _ (List.mem_of_getElem? (i := 23) rfl)), (iL_isCleared _ (List.mem_of_getElem? (i := 24) rfl)), (iL_isCleared _ (List.mem_of_getElem? (i := 25) rfl))⟩ (fun hj => ctX6_served hj ec) ⟨Nat.le_of_ble_eq_true rfl, Nat.le_of_ble_eq_true rfl⟩ rfl (fun _ _ => rfl) (fun _ _ => rfl) rfl (Nat.le_of_ble_eq_true rfl) rfl ?_
  refine w_ineg B 4 rfl ?_
  obtain ⟨v57, ex, hf⟩ := nm_x hf
  refine w_top ex ?_
  refine w_istore [(13, .int v57), (12, .int s0), (0, .ref x0), (1, .ref x1), (2, .long x2), (4, .long x4), (6, .long x6), (8, .int x8), (9, .ref x9), (10, .int x10), (11, .int x11)] B 5 rfl (by decide) rfl ?_
  refine w_iconst 0 B 6 rfl (by decide) ?_
  refine w_istore [(14, .int (0 : Int32)), (13, .int v57), (12, .int s0), (0, .ref x0), (1, .ref x1), (2, .long x2), (4, .long x4), (6, .long x6), (8, .int x8), (9, .ref x9), (10, .int x10), (11, .int x11)] B 7 rfl (by decide) rfl ?_
  refine w_sub [(0, .ref x0), (1, .ref x1), (2, .long x2), (4, .long x4), (6, .long x6), (8, .int x8), (9, .ref x9), (10, .int x10), (11, .int x11), (12, .int s0), (13, .int v57), (14, .int (0 : Int32))] [3, 4, 5, 6, 7, 8, 9, 10, 11, 2, 1, 0] rfl ?_
  exact bL_isCleared_l168_ok X B0 hcd hQ hr hk16 FU _ _ _ _ _ _ _ _ _ _ _ _ _ _ _ hf
def bL_isCleared_j149 (k16 : Nat → Nat → Int64 → Int64 → Int64 → Int32 → Mem → AS → DM → Option (Int32 × Mem × AS × DM)) (x0 : Nat) (x1 : Nat) (x2 : Int64) (x4 : Int64) (x6 : Int64) (x8 : Int32) (x9 : Nat) (x10 : Int32) (x11 : Int32) (mm : Mem) (A : AS) (dm : DM) : Option (Int32 × Mem × AS × DM) := bL_isCleared_j154 k16 x0 x1 x2 x4 x6 x8 x9 x10 x11 (1 : Int32) mm A dm
def tbbL_isCleared_j149 : Tb := [(149, .iconst 1, 1, 150), (150, .goto 4, 3, 153)]
theorem dtbL_isCleared_j149 : ∀ q ∈ tbbL_isCleared_j149, decode cL_isCleared q.1 = .ok (q.2.1, q.2.2.1) ∧ q.1 + q.2.2.1 = q.2.2.2 := by decide +kernel
theorem bL_isCleared_j149_ok {E : Ev2} {l : Launch} {K : KF} {x : Int32 × Mem × AS × DM} {k16 : Nat → Nat → Int64 → Int64 → Int64 → Int32 → Mem → AS → DM → Option (Int32 × Mem × AS × DM)} (X : Ec2 E l K rmFL_isCleared rmLL_isCleared) (B0 : Bx2 E RL [] 16 (some .boolean)) (hcd : Cd2 E cL_isCleared) (hQ : Rt2 E) (hr : Rs2 E (some (.int x.1)) x.2.1 x.2.2.1 x.2.2.2) (hk16 : ∀ (x0 : Nat) (x1 : Nat) (x2 : Int64) (x4 : Int64) (x6 : Int64) (x8 : Int32) (mm : Mem) (A : AS) (dm : DM), k16 x0 x1 x2 x4 x6 x8 mm A dm = some x → G2 E 16 16 [(0, .ref x0), (1, .ref x1), (2, .long x2), (4, .long x4), (6, .long x6), (8, .int x8)] [] mm A dm) (x0 : Nat) (x1 : Nat) (x2 : Int64) (x4 : Int64) (x6 : Int64) (x8 : Int32) (x9 : Nat) (x10 : Int32) (x11 : Int32) (mm : Mem) (A : AS) (dm : DM) (hf : bL_isCleared_j149 k16 x0 x1 x2 x4 x6 x8 x9 x10 x11 mm A dm = some x) : G2 E 16 149 [(0, .ref x0), (1, .ref x1), (2, .long x2), (4, .long x4), (6, .long x6), (8, .int x8), (9, .ref x9), (10, .int x10), (11, .int x11)] [] mm A dm := by
  unfold bL_isCleared_j149 at hf
  have B := B0.tab hcd dtbL_isCleared_j149
  refine w_iconst 1 B 0 rfl (by decide) ?_
  refine w_goto B 1 rfl 154 (by decide) ?_
  exact bL_isCleared_j154_ok X B0 hcd hQ hr hk16 _ _ _ _ _ _ _ _ _ _ _ _ _ hf
def bL_isCleared_l16 : Nat → Nat → Nat → Int64 → Int64 → Int64 → Int32 → Mem → AS → DM → Option (Int32 × Mem × AS × DM)
  | 0, _, _, _, _, _, _, _, _, _ => none
  | n + 1, x0, x1, x2, x4, x6, x8, mm, A, dm => gkd A x1 8 (gtr (dm x1 0) (fun q2 => gkd A q2 9 (bd (bAL_size A dm q2) (fun r3 => if x8 < r3 then gkd A x1 8 (gtr (dm x1 0) (fun q43 => gkd A q43 9 (bd (bAL_get A dm q43 x8) (fun r44 => gkd A r44 20 (gob A x0 (bd (f6_price mm x8) (fun r45 => gob A x0 (bd (f6_net r45.2 x8) (fun r46 => gkd A x1 8 (gtr (dm x1 6) (fun q47 => gkd A q47 20 (gix A q47 x8 (gti (dm q47 x8.toNatClampNeg) (fun v48 => if r45.1 = v48 then gkd A x1 8 (gtr (dm x1 7) (fun q49 => gkd A q49 20 (gix A q49 x8 (gti (dm q49 x8.toNatClampNeg) (fun v50 => if r46.1 = v50 then gob A x0 (bd (f6_served r46.2 x8) (fun r51 => gkd A x1 8 (gtr (dm x1 8) (fun q52 => gkd A q52 20 (gix A q52 x8 (gti (dm q52 x8.toNatClampNeg) (fun v53 => if r51.1 = v53 then gkd A x1 8 (bdg (fun (x : Int32 × Mem × AS × DM) => x.2.2.1) A (bX8_level 6 A dm x1 x8 r45.1 (0 : Int32)) (fun (x : Int32 × AS × DM) => x.2.1) (fun r54 => if r46.1 < r54.1 then some ((0 : Int32), r51.2, r54.2.1, r54.2.2) else gkd r54.2.1 x1 8 (bdg (fun (x : Int32 × Mem × AS × DM) => x.2.2.1) r54.2.1 (bX8_level 6 r54.2.1 r54.2.2 x1 x8 r45.1 (1 : Int32)) (fun (x : Int32 × AS × DM) => x.2.1) (fun r55 => if r55.1 < r46.1 then some ((0 : Int32), r51.2, r55.2.1, r55.2.2) else if r45.1 = 0 then bL_isCleared_j149 (fun x0 x1 x2 x4 x6 x8 mm9 A9 dm9 => bL_isCleared_l16 n x0 x1 x2 x4 x6 x8 mm9 A9 dm9) x0 x1 x2 x4 x6 x8 r44 r45.1 r46.1 r51.2 r55.2.1 r55.2.2 else gkd r55.2.1 x1 8 (bdg (fun (x : Int32 × Mem × AS × DM) => x.2.2.1) r55.2.1 (bX8_level 6 r55.2.1 r55.2.2 x1 x8 (r45.1 - (1 : Int32)) (1 : Int32)) (fun (x : Int32 × AS × DM) => x.2.1) (fun r91 => if r91.1 < r46.1 then bL_isCleared_j149 (fun x0 x1 x2 x4 x6 x8 mm9 A9 dm9 => bL_isCleared_l16 n x0 x1 x2 x4 x6 x8 mm9 A9 dm9) x0 x1 x2 x4 x6 x8 r44 r45.1 r46.1 r51.2 r91.2.1 r91.2.2 else bL_isCleared_j154 (fun x0 x1 x2 x4 x6 x8 mm9 A9 dm9 => bL_isCleared_l16 n x0 x1 x2 x4 x6 x8 mm9 A9 dm9) x0 x1 x2 x4 x6 x8 r44 r45.1 r46.1 (0 : Int32) r51.2 r91.2.1 r91.2.2)))))) else some ((0 : Int32), r51.2, A, dm)))))))) else some ((0 : Int32), r46.2, A, dm)))))) else some ((0 : Int32), r46.2, A, dm))))))))))))))) else bL_isCleared_l488 FU x0 x1 x2 x4 x6 (0 : Int32) mm A dm))))
def tbbL_isCleared_l16 : Tb := [(16, .iload 8, 2, 18), (18, .aload_n 1, 1, 19), (19, .getfield 55, 3, 22), (22, .invokevirtual 106, 3, 25), (25, .if_icmp .ge 460, 3, 28), (485, .iconst 0, 1, 486), (486, .istore 8, 2, 488), (28, .aload_n 1, 1, 29), (29, .getfield 55, 3, 32), (32, .iload 8, 2, 34), (34, .invokevirtual 91, 3, 37), (37, .checkcast 169, 3, 40), (40, .astore 9, 2, 42), (42, .aload_n 0, 1, 43), (43, .iload 8, 2, 45), (45, .invokevirtual 170, 3, 48), (48, .istore 10, 2, 50), (50, .aload_n 0, 1, 51), (51, .iload 8, 2, 53), (53, .invokevirtual 173, 3, 56), (56, .istore 11, 2, 58), (58, .iload 10, 2, 60), (60, .aload_n 1, 1, 61), (61, .getfield 176, 3, 64), (64, .iload 8, 2, 66), (66, .iaload, 1, 67), (67, .if_icmp .ne 59, 3, 70), (126, .iconst 0, 1, 127), (127, .ireturn, 1, 128), (70, .iload 11, 2, 72), (72, .aload_n 1, 1, 73), (73, .getfield 179, 3, 76), (76, .iload 8, 2, 78), (78, .iaload, 1, 79), (79, .if_icmp .ne 47, 3, 82), (82, .aload_n 0, 1, 83), (83, .iload 8, 2, 85), (85, .invokevirtual 182, 3, 88), (88, .aload_n 1, 1, 89), (89, .getfield 185, 3, 92), (92, .iload 8, 2, 94), (94, .iaload, 1, 95), (95, .if_icmp .ne 31, 3, 98), (98, .aload_n 1, 1, 99), (99, .iload 8, 2, 101), (101, .iload 10, 2, 103), (103, .iconst 0, 1, 104), (104, .invokevirtual 157, 3, 107), (107, .iload 11, 2, 109), (109, .if_icmp .gt 17, 3, 112), (112, .aload_n 1, 1, 113), (113, .iload 8, 2, 115), (115, .iload 10, 2, 117), (117, .iconst 1, 1, 118), (118, .invokevirtual 157, 3, 121), (121, .iload 11, 2, 123), (123, .if_icmp .ge 5, 3, 126), (128, .iload 10, 2, 130), (130, .ifCond .eq 19, 3, 133), (133, .aload_n 1, 1, 134), (134, .iload 8, 2, 136), (136, .iload 10, 2, 138), (138, .iconst 1, 1, 139), (139, .isub, 1, 140), (140, .iconst 1, 1, 141), (141, .invokevirtual 157, 3, 144), (144, .iload 11, 2, 146), (146, .if_icmp .ge 7, 3, 149), (153, .iconst 0, 1, 154)]
theorem dtbL_isCleared_l16 : ∀ q ∈ tbbL_isCleared_l16, decode cL_isCleared q.1 = .ok (q.2.1, q.2.2.1) ∧ q.1 + q.2.2.1 = q.2.2.2 := by decide +kernel
theorem bL_isCleared_l16_ok {E : Ev2} {l : Launch} {K : KF} {x : Int32 × Mem × AS × DM} (X : Ec2 E l K rmFL_isCleared rmLL_isCleared) (B0 : Bx2 E RL [] 16 (some .boolean)) (hcd : Cd2 E cL_isCleared) (hQ : Rt2 E) (hr : Rs2 E (some (.int x.1)) x.2.1 x.2.2.1 x.2.2.2) (n : Nat) : ∀ (x0 : Nat) (x1 : Nat) (x2 : Int64) (x4 : Int64) (x6 : Int64) (x8 : Int32) (mm : Mem) (A : AS) (dm : DM), bL_isCleared_l16 n x0 x1 x2 x4 x6 x8 mm A dm = some x → G2 E 16 16 [(0, .ref x0), (1, .ref x1), (2, .long x2), (4, .long x4), (6, .long x6), (8, .int x8)] [] mm A dm := by
  induction n with
  | zero =>
    intro x0 x1 x2 x4 x6 x8 mm A dm hf
    rw [bL_isCleared_l16] at hf
    cases hf
  | succ n ih =>
    intro x0 x1 x2 x4 x6 x8 mm A dm hf
    rw [bL_isCleared_l16] at hf
    have B := B0.tab hcd dtbL_isCleared_l16
    refine w_iload B 0 rfl 5 rfl ?_
    refine w_aload_n B 1 rfl 1 1 rfl rfl ?_
    obtain ⟨hk, hf⟩ := gkd_e hf
    obtain ⟨q2, ex, hf⟩ := gtr_e hf
    refine w_getrN B 2 rfl 8 0 x1 (by decide) hk rfl (List.mem_of_getElem? (i := 1) rfl) (Or.inl rfl) ex ?_
    obtain ⟨hk, hf⟩ := gkd_e hf
    obtain ⟨r3, ec, hf⟩ := bd_e hf
    refine w_callV q2 [] [.int x8] [.int r3, .int x8] X B 3 rfl miAL_size 9 (by decide) hk rfl rfl ⟨(iL_isCleared _ (List.mem_of_getElem? (i := 3) rfl)), (iL_isCleared _ (List.mem_of_getElem? (i := 4) rfl)), (iL_isCleared _ (List.mem_of_getElem? (i := 5) rfl))⟩ (ctAL_size ec) (Or.inl ⟨rfl, rfl⟩) ⟨Nat.le_of_ble_eq_true rfl, Nat.le_of_ble_eq_true rfl⟩ rfl rfl (Nat.le_of_ble_eq_true rfl) rfl ?_
    by_cases hc : x8 < r3
    · replace hf := (if_pos hc).symm.trans hf
      refine w_icmp_ge_f B 4 rfl 485 (by decide) hc ?_
      refine w_aload_n B 7 rfl 1 1 rfl rfl ?_
      obtain ⟨hk, hf⟩ := gkd_e hf
      obtain ⟨q43, ex, hf⟩ := gtr_e hf
      refine w_getrN B 8 rfl 8 0 x1 (by decide) hk rfl (List.mem_of_getElem? (i := 1) rfl) (Or.inl rfl) ex ?_
      refine w_iload B 9 rfl 5 rfl ?_
      obtain ⟨hk, hf⟩ := gkd_e hf
      obtain ⟨r44, ec, hf⟩ := bd_e hf
      refine w_callV q43 [.int x8] [] [.ref r44] X B 10 rfl miAL_get 9 (by decide) hk rfl rfl ⟨(iL_isCleared _ (List.mem_of_getElem? (i := 35) rfl)), (iL_isCleared _ (List.mem_of_getElem? (i := 36) rfl)), (iL_isCleared _ (List.mem_of_getElem? (i := 37) rfl))⟩ (ctAL_get ec) (Or.inl ⟨rfl, rfl⟩) ⟨Nat.le_of_ble_eq_true rfl, Nat.le_of_ble_eq_true rfl⟩ rfl rfl (Nat.le_of_ble_eq_true rfl) rfl ?_
      obtain ⟨hk, hf⟩ := gkd_e hf
      refine w_castI B 11 rfl hk (iL_isCleared _ (List.mem_of_getElem? (i := 38) rfl)) ?_
      refine w_astore [(9, .ref r44), (0, .ref x0), (1, .ref x1), (2, .long x2), (4, .long x4), (6, .long x6), (8, .int x8)] B 12 rfl (by decide) rfl ?_
      refine w_aload_n B 13 rfl 0 1 rfl rfl ?_
      refine w_iload B 14 rfl 6 rfl ?_
      obtain ⟨ho, hf⟩ := gob_e hf
      obtain ⟨r45, ec, hf⟩ := bd_e hf
      refine w_callC x0 [.int x8] [] [.int r45.1] X B 15 rfl miX6_price rfl ho ⟨(iL_isCleared _ (List.mem_of_getElem? (i := 16) rfl)), (iL_isCleared _ (List.mem_of_getElem? (i := 17) rfl)), (iL_isCleared _ (List.mem_of_getElem? (i := 18) rfl))⟩ (fun hj => ctX6_price hj ec) ⟨Nat.le_of_ble_eq_true rfl, Nat.le_of_ble_eq_true rfl⟩ rfl (fun _ _ => rfl) (fun _ _ => rfl) rfl (Nat.le_of_ble_eq_true rfl) rfl ?_
      refine w_istore [(10, .int r45.1), (9, .ref r44), (0, .ref x0), (1, .ref x1), (2, .long x2), (4, .long x4), (6, .long x6), (8, .int x8)] B 16 rfl (by decide) rfl ?_
      refine w_aload_n B 17 rfl 0 2 rfl rfl ?_
      refine w_iload B 18 rfl 7 rfl ?_
      obtain ⟨ho, hf⟩ := gob_e hf
      obtain ⟨r46, ec, hf⟩ := bd_e hf
      refine w_callC x0 [.int x8] [] [.int r46.1] X B 19 rfl miX6_net rfl ho ⟨(iL_isCleared _ (List.mem_of_getElem? (i := 19) rfl)), (iL_isCleared _ (List.mem_of_getElem? (i := 20) rfl)), (iL_isCleared _ (List.mem_of_getElem? (i := 21) rfl))⟩ (fun hj => ctX6_net hj ec) ⟨Nat.le_of_ble_eq_true rfl, Nat.le_of_ble_eq_true rfl⟩ rfl (fun _ _ => rfl) (fun _ _ => rfl) rfl (Nat.le_of_ble_eq_true rfl) rfl ?_
      refine w_istore [(11, .int r46.1), (10, .int r45.1), (9, .ref r44), (0, .ref x0), (1, .ref x1), (2, .long x2), (4, .long x4), (6, .long x6), (8, .int x8)] B 20 rfl (by decide) rfl ?_
      refine w_iload B 21 rfl 1 rfl ?_
      refine w_aload_n B 22 rfl 1 4 rfl rfl ?_
      obtain ⟨hk, hf⟩ := gkd_e hf
      obtain ⟨q47, ex, hf⟩ := gtr_e hf
      refine w_getrN B 23 rfl 8 6 x1 (by decide) hk rfl (List.mem_of_getElem? (i := 7) rfl) (Or.inl rfl) ex ?_
      refine w_iload B 24 rfl 8 rfl ?_
      obtain ⟨hk, hf⟩ := gkd_e hf
      obtain ⟨hx, hf⟩ := gix_e hf
      obtain ⟨v48, ex, hf⟩ := gti_e hf
      refine w_iald B 25 rfl hk hx ex ?_
      by_cases hc : r45.1 = v48
      · replace hf := (if_pos hc).symm.trans hf
        refine w_icmp_ne_f B 26 rfl 126 (by decide) hc ?_
        refine w_iload B 29 rfl 0 rfl ?_
        refine w_aload_n B 30 rfl 1 4 rfl rfl ?_
        obtain ⟨hk, hf⟩ := gkd_e hf
        obtain ⟨q49, ex, hf⟩ := gtr_e hf
        refine w_getrN B 31 rfl 8 7 x1 (by decide) hk rfl (List.mem_of_getElem? (i := 8) rfl) (Or.inl rfl) ex ?_
        refine w_iload B 32 rfl 8 rfl ?_
        obtain ⟨hk, hf⟩ := gkd_e hf
        obtain ⟨hx, hf⟩ := gix_e hf
        obtain ⟨v50, ex, hf⟩ := gti_e hf
        refine w_iald B 33 rfl hk hx ex ?_
        by_cases hc : r46.1 = v50
        · replace hf := (if_pos hc).symm.trans hf
          refine w_icmp_ne_f B 34 rfl 126 (by decide) hc ?_
          refine w_aload_n B 35 rfl 0 3 rfl rfl ?_
          refine w_iload B 36 rfl 8 rfl ?_
          obtain ⟨ho, hf⟩ := gob_e hf
          obtain ⟨r51, ec, hf⟩ := bd_e hf
          refine w_callC x0 [.int x8] [] [.int r51.1] X B 37 rfl miX6_served rfl ho ⟨(iL_isCleared _ (List.mem_of_getElem? (i := 23) rfl)), (iL_isCleared _ (List.mem_of_getElem? (i := 24) rfl)), (iL_isCleared _ (List.mem_of_getElem? (i := 25) rfl))⟩ (fun hj => ctX6_served hj ec) ⟨Nat.le_of_ble_eq_true rfl, Nat.le_of_ble_eq_true rfl⟩ rfl (fun _ _ => rfl) (fun _ _ => rfl) rfl (Nat.le_of_ble_eq_true rfl) rfl ?_
          refine w_aload_n B 38 rfl 1 4 rfl rfl ?_
          obtain ⟨hk, hf⟩ := gkd_e hf
          obtain ⟨q52, ex, hf⟩ := gtr_e hf
          refine w_getrN B 39 rfl 8 8 x1 (by decide) hk rfl (List.mem_of_getElem? (i := 9) rfl) (Or.inl rfl) ex ?_
          refine w_iload B 40 rfl 8 rfl ?_
          obtain ⟨hk, hf⟩ := gkd_e hf
          obtain ⟨hx, hf⟩ := gix_e hf
          obtain ⟨v53, ex, hf⟩ := gti_e hf
          refine w_iald B 41 rfl hk hx ex ?_
          by_cases hc : r51.1 = v53
          · replace hf := (if_pos hc).symm.trans hf
            refine w_icmp_ne_f B 42 rfl 126 (by decide) hc ?_
            refine w_aload_n B 43 rfl 1 4 rfl rfl ?_
            refine w_iload B 44 rfl 8 rfl ?_
            refine w_iload B 45 rfl 1 rfl ?_
            refine w_iconst 0 B 46 rfl (by decide) ?_
            obtain ⟨hk, hf⟩ := gkd_e hf
            obtain ⟨r54, ec, hgd, hf⟩ := bdg_e hf
            refine w_callV x1 [.int x8, .int r45.1, .int (0 : Int32)] [] [.int r54.1] X B 47 rfl miX8_level 8 (by decide) hk rfl rfl ⟨(iL_isCleared _ (List.mem_of_getElem? (i := 48) rfl)), (iL_isCleared _ (List.mem_of_getElem? (i := 49) rfl)), (iL_isCleared _ (List.mem_of_getElem? (i := 50) rfl))⟩ (ctX8_level ec) (Or.inr ⟨_, _, _, _, hr, hgd⟩) ⟨Nat.le_of_ble_eq_true rfl, Nat.le_of_ble_eq_true rfl⟩ rfl rfl (Nat.le_of_ble_eq_true rfl) rfl ?_
            refine w_iload B 48 rfl 0 rfl ?_
            by_cases hc : r46.1 < r54.1
            · replace hf := (if_pos hc).symm.trans hf
              refine w_icmp_gt_t B 49 rfl 126 (by decide) hc ?_
              refine w_iconst 0 B 27 rfl (by decide) ?_
              cases hf
              exact w_iret B 28 rfl (by decide) hQ hr
            · replace hf := (if_neg hc).symm.trans hf
              refine w_icmp_gt_f B 49 rfl 126 (by decide) hc ?_
              refine w_aload_n B 50 rfl 1 4 rfl rfl ?_
              refine w_iload B 51 rfl 8 rfl ?_
              refine w_iload B 52 rfl 1 rfl ?_
              refine w_iconst 1 B 53 rfl (by decide) ?_
              obtain ⟨hk, hf⟩ := gkd_e hf
              obtain ⟨r55, ec, hgd, hf⟩ := bdg_e hf
              refine w_callV x1 [.int x8, .int r45.1, .int (1 : Int32)] [] [.int r55.1] X B 54 rfl miX8_level 8 (by decide) hk rfl rfl ⟨(iL_isCleared _ (List.mem_of_getElem? (i := 48) rfl)), (iL_isCleared _ (List.mem_of_getElem? (i := 49) rfl)), (iL_isCleared _ (List.mem_of_getElem? (i := 50) rfl))⟩ (ctX8_level ec) (Or.inr ⟨_, _, _, _, hr, hgd⟩) ⟨Nat.le_of_ble_eq_true rfl, Nat.le_of_ble_eq_true rfl⟩ rfl rfl (Nat.le_of_ble_eq_true rfl) rfl ?_
              refine w_iload B 55 rfl 0 rfl ?_
              by_cases hc : r55.1 < r46.1
              · replace hf := (if_pos hc).symm.trans hf
                refine w_icmp_ge_f B 56 rfl 128 (by decide) hc ?_
                refine w_iconst 0 B 27 rfl (by decide) ?_
                cases hf
                exact w_iret B 28 rfl (by decide) hQ hr
              · replace hf := (if_neg hc).symm.trans hf
                refine w_icmp_ge_t B 56 rfl 128 (by decide) hc ?_
                refine w_iload B 57 rfl 1 rfl ?_
                by_cases hc : r45.1 = 0
                · replace hf := (if_pos hc).symm.trans hf
                  refine w_if_eq_t B 58 rfl 149 (by decide) hc ?_
                  refine w_sub [(0, .ref x0), (1, .ref x1), (2, .long x2), (4, .long x4), (6, .long x6), (8, .int x8), (9, .ref r44), (10, .int r45.1), (11, .int r46.1)] [3, 4, 5, 6, 7, 8, 2, 1, 0] rfl ?_
                  exact bL_isCleared_j149_ok X B0 hcd hQ hr ih _ _ _ _ _ _ _ _ _ _ _ _ hf
                · replace hf := (if_neg hc).symm.trans hf
                  refine w_if_eq_f B 58 rfl 149 (by decide) hc ?_
                  refine w_aload_n B 59 rfl 1 4 rfl rfl ?_
                  refine w_iload B 60 rfl 8 rfl ?_
                  refine w_iload B 61 rfl 1 rfl ?_
                  refine w_iconst 1 B 62 rfl (by decide) ?_
                  refine w_isub B 63 rfl ?_
                  refine w_iconst 1 B 64 rfl (by decide) ?_
                  obtain ⟨hk, hf⟩ := gkd_e hf
                  obtain ⟨r91, ec, hgd, hf⟩ := bdg_e hf
                  refine w_callV x1 [.int x8, .int (r45.1 - (1 : Int32)), .int (1 : Int32)] [] [.int r91.1] X B 65 rfl miX8_level 8 (by decide) hk rfl rfl ⟨(iL_isCleared _ (List.mem_of_getElem? (i := 48) rfl)), (iL_isCleared _ (List.mem_of_getElem? (i := 49) rfl)), (iL_isCleared _ (List.mem_of_getElem? (i := 50) rfl))⟩ (ctX8_level ec) (Or.inr ⟨_, _, _, _, hr, hgd⟩) ⟨Nat.le_of_ble_eq_true rfl, Nat.le_of_ble_eq_true rfl⟩ rfl rfl (Nat.le_of_ble_eq_true rfl) rfl ?_
                  refine w_iload B 66 rfl 0 rfl ?_
                  by_cases hc : r91.1 < r46.1
                  · replace hf := (if_pos hc).symm.trans hf
                    refine w_icmp_ge_f B 67 rfl 153 (by decide) hc ?_
                    refine w_sub [(0, .ref x0), (1, .ref x1), (2, .long x2), (4, .long x4), (6, .long x6), (8, .int x8), (9, .ref r44), (10, .int r45.1), (11, .int r46.1)] [3, 4, 5, 6, 7, 8, 2, 1, 0] rfl ?_
                    exact bL_isCleared_j149_ok X B0 hcd hQ hr ih _ _ _ _ _ _ _ _ _ _ _ _ hf
                  · replace hf := (if_neg hc).symm.trans hf
                    refine w_icmp_ge_t B 67 rfl 153 (by decide) hc ?_
                    refine w_iconst 0 B 68 rfl (by decide) ?_
                    refine w_sub [(0, .ref x0), (1, .ref x1), (2, .long x2), (4, .long x4), (6, .long x6), (8, .int x8), (9, .ref r44), (10, .int r45.1), (11, .int r46.1)] [3, 4, 5, 6, 7, 8, 2, 1, 0] rfl ?_
                    exact bL_isCleared_j154_ok X B0 hcd hQ hr ih _ _ _ _ _ _ _ _ _ _ _ _ _ hf
          · replace hf := (if_neg hc).symm.trans hf
            refine w_icmp_ne_t B 42 rfl 126 (by decide) hc ?_
            refine w_iconst 0 B 27 rfl (by decide) ?_
            cases hf
            exact w_iret B 28 rfl (by decide) hQ hr
        · replace hf := (if_neg hc).symm.trans hf
          refine w_icmp_ne_t B 34 rfl 126 (by decide) hc ?_
          refine w_iconst 0 B 27 rfl (by decide) ?_
          cases hf
          exact w_iret B 28 rfl (by decide) hQ hr
      · replace hf := (if_neg hc).symm.trans hf
        refine w_icmp_ne_t B 26 rfl 126 (by decide) hc ?_
        refine w_iconst 0 B 27 rfl (by decide) ?_
        cases hf
        exact w_iret B 28 rfl (by decide) hQ hr
    · replace hf := (if_neg hc).symm.trans hf
      refine w_icmp_ge_t B 4 rfl 485 (by decide) hc ?_
      refine w_iconst 0 B 5 rfl (by decide) ?_
      refine w_istore [(8, .int (0 : Int32)), (0, .ref x0), (1, .ref x1), (2, .long x2), (4, .long x4), (6, .long x6)] B 6 rfl (by decide) rfl ?_
      refine w_sub [(0, .ref x0), (1, .ref x1), (2, .long x2), (4, .long x4), (6, .long x6), (8, .int (0 : Int32))] [1, 2, 3, 4, 5, 0] rfl ?_
      exact bL_isCleared_l488_ok X B0 hcd hQ hr FU _ _ _ _ _ _ _ _ _ hf
def bL_isCleared (mm : Mem) (A : AS) (dm : DM) (a0 : Nat) (a1 : Nat) : Option (Int32 × Mem × AS × DM) := gkd A a1 8 (bdg (fun (x : Int32 × Mem × AS × DM) => x.2.2.1) A (bX8_clear A dm a1) (fun (x : Nat × AS × DM) => x.2.1) (fun r1 => bL_isCleared_l16 FU a0 a1 (0 : Int64) (0 : Int64) (0 : Int64) (0 : Int32) mm r1.2.1 r1.2.2))
def tbbL_isCleared_e : Tb := [(0, .aload_n 1, 1, 1), (1, .invokevirtual 165, 3, 4), (4, .pop, 1, 5), (5, .lconst 0, 1, 6), (6, .lstore_n 2, 1, 7), (7, .lconst 0, 1, 8), (8, .lstore 4, 2, 10), (10, .lconst 0, 1, 11), (11, .lstore 6, 2, 13), (13, .iconst 0, 1, 14), (14, .istore 8, 2, 16)]
theorem dtbL_isCleared_e : ∀ q ∈ tbbL_isCleared_e, decode cL_isCleared q.1 = .ok (q.2.1, q.2.2.1) ∧ q.1 + q.2.2.1 = q.2.2.2 := by decide +kernel
theorem ctL_isCleared {l : Launch} {K : KF} {mm : Mem} {A : AS} {dm : DM} {a0 : Nat} {a1 : Nat} {x : Int32 × Mem × AS × DM} (hf : bL_isCleared mm A dm a0 a1 = some x) : Ct2 l K yL_isCleared cL_isCleared 16 (some .boolean) 14 361 [.ref a0, .ref a1] mm A dm (some (.int x.1)) x.2.1 x.2.2.1 x.2.2.2 := by
  refine Ct2.of (tb := []) miL_isCleared.2.1 miL_isCleared.1 (fun _ h => absurd h List.not_mem_nil) (Nat.le_of_ble_eq_true rfl) ?_
  intro E B hQ hr X hI hcd
  clear hI
  have B0 := B
  have B := B0.tab hcd dtbL_isCleared_e
  unfold bL_isCleared at hf
  show G2 E 16 0 [(0, .ref a0), (1, .ref a1)] [] mm A dm
  refine w_aload_n B 0 rfl 1 1 rfl rfl ?_
  obtain ⟨hk, hf⟩ := gkd_e hf
  obtain ⟨r1, ec, hgd, hf⟩ := bdg_e hf
  refine w_callV a1 [] [] [.ref r1.1] X B 1 rfl miX8_clear 8 (by decide) hk rfl rfl ⟨(iL_isCleared _ (List.mem_of_getElem? (i := 0) rfl)), (iL_isCleared _ (List.mem_of_getElem? (i := 1) rfl)), (iL_isCleared _ (List.mem_of_getElem? (i := 2) rfl))⟩ (ctX8_clear ec) (Or.inr ⟨_, _, _, _, hr, hgd⟩) ⟨Nat.le_of_ble_eq_true rfl, Nat.le_of_ble_eq_true rfl⟩ rfl rfl (Nat.le_of_ble_eq_true rfl) rfl ?_
  refine w_pop B 2 rfl rfl ?_
  refine w_lconst 0 B 3 rfl (by decide) ?_
  refine w_lstore_n [(2, .long (0 : Int64)), (0, .ref a0), (1, .ref a1)] B 4 rfl 2 rfl (by decide) rfl ?_
  refine w_lconst 0 B 5 rfl (by decide) ?_
  refine w_lstore [(4, .long (0 : Int64)), (2, .long (0 : Int64)), (0, .ref a0), (1, .ref a1)] B 6 rfl (by decide) rfl ?_
  refine w_lconst 0 B 7 rfl (by decide) ?_
  refine w_lstore [(6, .long (0 : Int64)), (4, .long (0 : Int64)), (2, .long (0 : Int64)), (0, .ref a0), (1, .ref a1)] B 8 rfl (by decide) rfl ?_
  refine w_iconst 0 B 9 rfl (by decide) ?_
  refine w_istore [(8, .int (0 : Int32)), (6, .long (0 : Int64)), (4, .long (0 : Int64)), (2, .long (0 : Int64)), (0, .ref a0), (1, .ref a1)] B 10 rfl (by decide) rfl ?_
  refine w_sub [(0, .ref a0), (1, .ref a1), (2, .long (0 : Int64)), (4, .long (0 : Int64)), (6, .long (0 : Int64)), (8, .int (0 : Int32))] [4, 5, 3, 2, 1, 0] rfl ?_
  exact bL_isCleared_l16_ok X B0 hcd hQ hr FU _ _ _ _ _ _ _ _ _ hf
