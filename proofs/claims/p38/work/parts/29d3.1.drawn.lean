/-! ZoneCapacityLaw.drawn(LZoneCapacity;LZoneCapacityLaw$Draws;Ljava/lang/StringBuilder;)LZoneCapacityLaw$Market; -/
abbrev rmFL_drawn : Nat := 6
abbrev rmLL_drawn : Nat := 128
def wL_drawn : List Cond := [.classLink "ZoneCapacityLaw" 46 "ZoneCapacityLaw$Market", .instantiable "ZoneCapacityLaw$Market" 10, .initialized "ZoneCapacityLaw$Market", .methodLink "ZoneCapacityLaw" 48 yX8_init, .instanceMethod yX8_init, .methodLink "ZoneCapacityLaw" 49 yX7_next, .instanceMethod yX7_next, .selects "ZoneCapacityLaw$Draws" yX7_next yX7_next, .methodLink "ZoneCapacityLaw" 113 yX6_set, .instanceMethod yX6_set, .selects "ZoneCapacity" yX6_set yX6_set, .arrayClass .int, .methodLink "ZoneCapacityLaw" 59 yJx4a65c_add_9ea2d, .instanceMethod yJx4a65c_add_9ea2d, .selects "java/util/ArrayList" yJx4a65c_add_9ea2d yJx4a65c_add_9ea2d, .classLink "ZoneCapacityLaw" 60 "java/util/ArrayList", .instantiable "java/util/ArrayList" 3, .initialized "java/util/ArrayList", .methodLink "ZoneCapacityLaw" 68 yJx4a65c_init_da8c8, .instanceMethod yJx4a65c_init_da8c8, .methodLink "ZoneCapacityLaw" 106 yJx4a65c_size_8abf5, .instanceMethod yJx4a65c_size_8abf5, .selects "java/util/ArrayList" yJx4a65c_size_8abf5 yJx4a65c_size_8abf5, .methodLink "ZoneCapacityLaw" 109 yX6_resource, .instanceMethod yX6_resource, .selects "ZoneCapacity" yX6_resource yX6_resource, .methodLink "ZoneCapacityLaw" 91 yJx4a65c_get_915e3, .instanceMethod yJx4a65c_get_915e3, .selects "java/util/ArrayList" yJx4a65c_get_915e3 yJx4a65c_get_915e3, .methodLink "ZoneCapacityLaw" 127 yX6_step, .instanceMethod yX6_step, .selects "ZoneCapacity" yX6_step yX6_step, .methodLink "ZoneCapacityLaw" 95 yX6_point, .instanceMethod yX6_point, .selects "ZoneCapacity" yX6_point yX6_point, .methodLink "ZoneCapacityLaw" 69 yX6_zone, .instanceMethod yX6_zone, .selects "ZoneCapacity" yX6_zone yX6_zone]
theorem iL_drawn : ∀ w ∈ wL_drawn, w ∈ TW := tw_of (ids := [452, 453, 21, 454, 455, 447, 448, 449, 311, 312, 313, 98, 586, 488, 489, 587, 459, 24, 588, 461, 774, 775, 776, 778, 779, 780, 761, 762, 763, 791, 792, 793, 263, 264, 265, 589, 590, 591]) (by decide +kernel)
def bL_drawn_l805 : Nat → Nat → Nat → Nat → Int32 → Mem → AS → DM → Option (Nat × Mem × AS × DM)
  | 0, _, _, _, _, _, _, _ => none
  | n + 1, x0, x1, x3, x5, mm, A, dm => if x5 < (2 : Int32) then gkd A x1 7 (bd (bX7_next A dm x1 (4 : Int32)) (fun r14 => gkd A x3 8 (gtr (r14.2 x3 4) (fun q15 => gkd A x1 7 (bd (bX7_next A r14.2 x1 (300 : Int32)) (fun r16 => gkd A q15 20 (gix A q15 r14.1 (nm (up3 r16.2 q15 r14.1.toNatClampNeg (.int r16.1)) (fun m17 => gkd A x3 8 (gtr (m17 x3 4) (fun q18 => gkd A q18 20 (gix A q18 r14.1 (gti (m17 q18 r14.1.toNatClampNeg) (fun v19 => gob A x0 (bd (f6_set mm (0 : Int32) r14.1 v19) (fun r20 => nm (x5 + 1) (fun v21 => bL_drawn_l805 n x0 x1 x3 v21 r20.2 A m17))))))))))))))))) else gkd A x1 7 (bd (bX7_next A dm x1 (2 : Int32)) (fun r9 => if r9.1 = 0 then gkd A x1 7 (bd (bX7_next A r9.2 x1 (500 : Int32)) (fun r10 => gkd A x3 8 (nm (up3 r10.2 x3 5 (.int ((100 : Int32) + r10.1))) (fun m11 => gkd A x3 8 (gti (m11 x3 5) (fun v12 => gob A x0 (bd (f6_set mm (1 : Int32) (0 : Int32) v12) (fun r13 => some (x3, r13.2, A, m11))))))))) else some (x3, mm, A, r9.2)))
def tbbL_drawn_l805 : Tb := [(805, .iload 5, 2, 807), (807, .iconst 2, 1, 808), (808, .if_icmp .ge 85, 3, 811), (893, .aload_n 1, 1, 894), (894, .iconst 2, 1, 895), (895, .invokevirtual 49, 3, 898), (898, .ifCond .ne 55, 3, 901), (953, .aload_n 3, 1, 954), (954, .areturn, 1, 955), (901, .aload_n 3, 1, 902), (902, .bipush 100, 2, 904), (904, .aload_n 1, 1, 905), (905, .sipush 500, 3, 908), (908, .invokevirtual 49, 3, 911), (911, .iadd, 1, 912), (912, .putfield 136, 3, 915), (915, .aload_n 2, 1, 916), (916, .ifnonnull 18, 3, 919), (919, .aload_n 0, 1, 920), (920, .iconst 1, 1, 921), (921, .iconst 0, 1, 922), (922, .aload_n 3, 1, 923), (923, .getfield 136, 3, 926), (926, .invokevirtual 113, 3, 929), (929, .istore 5, 2, 931), (931, .goto 22, 3, 934), (811, .aload_n 1, 1, 812), (812, .iconst 4, 1, 813), (813, .invokevirtual 49, 3, 816), (816, .istore 6, 2, 818), (818, .aload_n 3, 1, 819), (819, .getfield 130, 3, 822), (822, .iload 6, 2, 824), (824, .aload_n 1, 1, 825), (825, .sipush 300, 3, 828), (828, .invokevirtual 49, 3, 831), (831, .iastore, 1, 832), (832, .aload_n 2, 1, 833), (833, .ifnonnull 22, 3, 836), (836, .aload_n 0, 1, 837), (837, .iconst 0, 1, 838), (838, .iload 6, 2, 840), (840, .aload_n 3, 1, 841), (841, .getfield 130, 3, 844), (844, .iload 6, 2, 846), (846, .iaload, 1, 847), (847, .invokevirtual 113, 3, 850), (850, .istore 7, 2, 852), (852, .goto 35, 3, 855), (887, .iinc 5 1, 3, 890), (890, .goto (-85), 3, 893)]
theorem dtbL_drawn_l805 : ∀ q ∈ tbbL_drawn_l805, decode cL_drawn q.1 = .ok (q.2.1, q.2.2.1) ∧ q.1 + q.2.2.1 = q.2.2.2 := by decide +kernel
theorem bL_drawn_l805_ok {E : Ev2} {l : Launch} {K : KF} {x : Nat × Mem × AS × DM} (X : Ec2 E l K rmFL_drawn rmLL_drawn) (B0 : Bx2 E RL [] 13 (some (.object "ZoneCapacityLaw$Market"))) (hcd : Cd2 E cL_drawn) (hQ : Rt2 E) (hr : Rs2 E (some (.ref x.1)) x.2.1 x.2.2.1 x.2.2.2) (n : Nat) : ∀ (x0 : Nat) (x1 : Nat) (x3 : Nat) (x5 : Int32) (mm : Mem) (A : AS) (dm : DM), bL_drawn_l805 n x0 x1 x3 x5 mm A dm = some x → G2 E 13 805 [(0, .ref x0), (1, .ref x1), (2, .null), (3, .ref x3), (5, .int x5)] [] mm A dm := by
  induction n with
  | zero =>
    intro x0 x1 x3 x5 mm A dm hf
    rw [bL_drawn_l805] at hf
    cases hf
  | succ n ih =>
    intro x0 x1 x3 x5 mm A dm hf
    rw [bL_drawn_l805] at hf
    have B := B0.tab hcd dtbL_drawn_l805
    refine w_iload B 0 rfl 4 rfl ?_
    refine w_iconst 2 B 1 rfl (by decide) ?_
    by_cases hc : x5 < (2 : Int32)
    · replace hf := (if_pos hc).symm.trans hf
      refine w_icmp_ge_f B 2 rfl 893 (by decide) hc ?_
      refine w_aload_n B 26 rfl 1 1 rfl rfl ?_
      refine w_iconst 4 B 27 rfl (by decide) ?_
      obtain ⟨hk, hf⟩ := gkd_e hf
      obtain ⟨r14, ec, hf⟩ := bd_e hf
      refine w_callV x1 [.int (4 : Int32)] [] [.int r14.1] X B 28 rfl miX7_next 7 (by decide) hk rfl rfl ⟨(iL_drawn _ (List.mem_of_getElem? (i := 5) rfl)), (iL_drawn _ (List.mem_of_getElem? (i := 6) rfl)), (iL_drawn _ (List.mem_of_getElem? (i := 7) rfl))⟩ (ctX7_next ec) (Or.inl ⟨rfl, rfl⟩) ⟨Nat.le_of_ble_eq_true rfl, Nat.le_of_ble_eq_true rfl⟩ rfl rfl (Nat.le_of_ble_eq_true rfl) rfl ?_
      refine w_istore [(6, .int r14.1), (0, .ref x0), (1, .ref x1), (2, .null), (3, .ref x3), (5, .int x5)] B 29 rfl (by decide) rfl ?_
      refine w_aload_n B 30 rfl 3 4 rfl rfl ?_
      obtain ⟨hk, hf⟩ := gkd_e hf
      obtain ⟨q15, ex, hf⟩ := gtr_e hf
      refine w_getrN B 31 rfl 8 4 x3 (by decide) hk rfl (List.mem_of_getElem? (i := 5) rfl) (Or.inl rfl) ex ?_
      refine w_iload B 32 rfl 0 rfl ?_
      refine w_aload_n B 33 rfl 1 2 rfl rfl ?_
      refine w_sipush 300 B 34 rfl (by decide) ?_
      obtain ⟨hk, hf⟩ := gkd_e hf
      obtain ⟨r16, ec, hf⟩ := bd_e hf
      refine w_callV x1 [.int (300 : Int32)] [.int r14.1, .ref q15] [.int r16.1, .int r14.1, .ref q15] X B 35 rfl miX7_next 7 (by decide) hk rfl rfl ⟨(iL_drawn _ (List.mem_of_getElem? (i := 5) rfl)), (iL_drawn _ (List.mem_of_getElem? (i := 6) rfl)), (iL_drawn _ (List.mem_of_getElem? (i := 7) rfl))⟩ (ctX7_next ec) (Or.inl ⟨rfl, rfl⟩) ⟨Nat.le_of_ble_eq_true rfl, Nat.le_of_ble_eq_true rfl⟩ rfl rfl (Nat.le_of_ble_eq_true rfl) rfl ?_
      obtain ⟨hk, hf⟩ := gkd_e hf
      obtain ⟨hx, hf⟩ := gix_e hf
      refine w_iast B 36 rfl hk hx ?_
      obtain ⟨m17, ex, hf⟩ := nm_x hf
      refine w_dmm ex ?_
      refine w_aloadN_n B 37 rfl 2 3 rfl rfl ?_
      refine w_ifnonnullN B 38 rfl ?_
      refine w_aload_n B 39 rfl 0 1 rfl rfl ?_
      refine w_iconst 0 B 40 rfl (by decide) ?_
      refine w_iload B 41 rfl 0 rfl ?_
      refine w_aload_n B 42 rfl 3 4 rfl rfl ?_
      obtain ⟨hk, hf⟩ := gkd_e hf
      obtain ⟨q18, ex, hf⟩ := gtr_e hf
      refine w_getrN B 43 rfl 8 4 x3 (by decide) hk rfl (List.mem_of_getElem? (i := 5) rfl) (Or.inl rfl) ex ?_
      refine w_iload B 44 rfl 0 rfl ?_
      obtain ⟨hk, hf⟩ := gkd_e hf
      obtain ⟨hx, hf⟩ := gix_e hf
      obtain ⟨v19, ex, hf⟩ := gti_e hf
      refine w_iald B 45 rfl hk hx ex ?_
      obtain ⟨ho, hf⟩ := gob_e hf
      obtain ⟨r20, ec, hf⟩ := bd_e hf
      refine w_callC x0 [.int (0 : Int32), .int r14.1, .int v19] [] [.int r20.1] X B 46 rfl miX6_set rfl ho ⟨(iL_drawn _ (List.mem_of_getElem? (i := 8) rfl)), (iL_drawn _ (List.mem_of_getElem? (i := 9) rfl)), (iL_drawn _ (List.mem_of_getElem? (i := 10) rfl))⟩ (fun hj => ctX6_set hj ec) ⟨Nat.le_of_ble_eq_true rfl, Nat.le_of_ble_eq_true rfl⟩ rfl (fun _ _ => rfl) (fun _ _ => rfl) rfl (Nat.le_of_ble_eq_true rfl) rfl ?_
      refine w_istore [(7, .int r20.1), (6, .int r14.1), (0, .ref x0), (1, .ref x1), (2, .null), (3, .ref x3), (5, .int x5)] B 47 rfl (by decide) rfl ?_
      refine w_goto B 48 rfl 887 (by decide) ?_
      obtain ⟨v21, ex, hf⟩ := nm_x hf
      refine w_iinc v21 [(5, .int v21), (7, .int r20.1), (6, .int r14.1), (0, .ref x0), (1, .ref x1), (2, .null), (3, .ref x3)] B 49 rfl 6 rfl (ex.symm) (by decide) rfl ?_
      refine w_goto B 50 rfl 805 (by decide) ?_
      refine w_sub [(0, .ref x0), (1, .ref x1), (2, .null), (3, .ref x3), (5, .int v21)] [3, 4, 5, 6, 0] rfl ?_
      exact ih _ _ _ _ _ _ _ hf
    · replace hf := (if_neg hc).symm.trans hf
      refine w_icmp_ge_t B 2 rfl 893 (by decide) hc ?_
      refine w_aload_n B 3 rfl 1 1 rfl rfl ?_
      refine w_iconst 2 B 4 rfl (by decide) ?_
      obtain ⟨hk, hf⟩ := gkd_e hf
      obtain ⟨r9, ec, hf⟩ := bd_e hf
      refine w_callV x1 [.int (2 : Int32)] [] [.int r9.1] X B 5 rfl miX7_next 7 (by decide) hk rfl rfl ⟨(iL_drawn _ (List.mem_of_getElem? (i := 5) rfl)), (iL_drawn _ (List.mem_of_getElem? (i := 6) rfl)), (iL_drawn _ (List.mem_of_getElem? (i := 7) rfl))⟩ (ctX7_next ec) (Or.inl ⟨rfl, rfl⟩) ⟨Nat.le_of_ble_eq_true rfl, Nat.le_of_ble_eq_true rfl⟩ rfl rfl (Nat.le_of_ble_eq_true rfl) rfl ?_
      by_cases hc : r9.1 = 0
      · replace hf := (if_pos hc).symm.trans hf
        refine w_if_ne_f B 6 rfl 953 (by decide) hc ?_
        refine w_aload_n B 9 rfl 3 3 rfl rfl ?_
        refine w_bipush 100 B 10 rfl (by decide) ?_
        refine w_aload_n B 11 rfl 1 1 rfl rfl ?_
        refine w_sipush 500 B 12 rfl (by decide) ?_
        obtain ⟨hk, hf⟩ := gkd_e hf
        obtain ⟨r10, ec, hf⟩ := bd_e hf
        refine w_callV x1 [.int (500 : Int32)] [.int (100 : Int32), .ref x3] [.int r10.1, .int (100 : Int32), .ref x3] X B 13 rfl miX7_next 7 (by decide) hk rfl rfl ⟨(iL_drawn _ (List.mem_of_getElem? (i := 5) rfl)), (iL_drawn _ (List.mem_of_getElem? (i := 6) rfl)), (iL_drawn _ (List.mem_of_getElem? (i := 7) rfl))⟩ (ctX7_next ec) (Or.inl ⟨rfl, rfl⟩) ⟨Nat.le_of_ble_eq_true rfl, Nat.le_of_ble_eq_true rfl⟩ rfl rfl (Nat.le_of_ble_eq_true rfl) rfl ?_
        refine w_iadd B 14 rfl ?_
        obtain ⟨hk, hf⟩ := gkd_e hf
        refine w_putiN B 15 rfl 8 5 x3 (by decide) hk rfl (List.mem_of_getElem? (i := 6) rfl) (Or.inl rfl) rfl (ty := .int) (by decide) ⟨rfl, rfl⟩ ?_
        obtain ⟨m11, ex, hf⟩ := nm_x hf
        refine w_dmm ex ?_
        refine w_aloadN_n B 16 rfl 2 2 rfl rfl ?_
        refine w_ifnonnullN B 17 rfl ?_
        refine w_aload_n B 18 rfl 0 0 rfl rfl ?_
        refine w_iconst 1 B 19 rfl (by decide) ?_
        refine w_iconst 0 B 20 rfl (by decide) ?_
        refine w_aload_n B 21 rfl 3 3 rfl rfl ?_
        obtain ⟨hk, hf⟩ := gkd_e hf
        obtain ⟨v12, ex, hf⟩ := gti_e hf
        refine w_getiN B 22 rfl 8 5 x3 (by decide) hk rfl (List.mem_of_getElem? (i := 6) rfl) (Or.inl rfl) ex ?_
        obtain ⟨ho, hf⟩ := gob_e hf
        obtain ⟨r13, ec, hf⟩ := bd_e hf
        refine w_callC x0 [.int (1 : Int32), .int (0 : Int32), .int v12] [] [.int r13.1] X B 23 rfl miX6_set rfl ho ⟨(iL_drawn _ (List.mem_of_getElem? (i := 8) rfl)), (iL_drawn _ (List.mem_of_getElem? (i := 9) rfl)), (iL_drawn _ (List.mem_of_getElem? (i := 10) rfl))⟩ (fun hj => ctX6_set hj ec) ⟨Nat.le_of_ble_eq_true rfl, Nat.le_of_ble_eq_true rfl⟩ rfl (fun _ _ => rfl) (fun _ _ => rfl) rfl (Nat.le_of_ble_eq_true rfl) rfl ?_
        refine w_istore [(5, .int r13.1), (0, .ref x0), (1, .ref x1), (2, .null), (3, .ref x3)] B 24 rfl (by decide) rfl ?_
        refine w_goto B 25 rfl 953 (by decide) ?_
        refine w_aload_n B 7 rfl 3 4 rfl rfl ?_
        cases hf
        exact w_aret B 8 rfl (Or.inl ⟨_, rfl⟩) hQ hr
      · replace hf := (if_neg hc).symm.trans hf
        refine w_if_ne_t B 6 rfl 953 (by decide) hc ?_
        refine w_aload_n B 7 rfl 3 3 rfl rfl ?_
        cases hf
        exact w_aret B 8 rfl (Or.inl ⟨_, rfl⟩) hQ hr
def bL_drawn_j785 (k366 : Nat → Nat → Nat → Int32 → Int32 → Mem → AS → DM → Option (Nat × Mem × AS × DM)) (x0 : Nat) (x1 : Nat) (x3 : Nat) (x4 : Int32) (x5 : Int32) (mm : Mem) (A : AS) (dm : DM) : Option (Nat × Mem × AS × DM) := nm (x5 + (-1)) (fun v56 => k366 x0 x1 x3 x4 v56 mm A dm)
def tbbL_drawn_j785 : Tb := [(785, .aload_n 2, 1, 786), (786, .ifnull 10, 3, 789), (796, .iinc 5 (-1), 3, 799), (799, .goto (-433), 3, 802)]
theorem dtbL_drawn_j785 : ∀ q ∈ tbbL_drawn_j785, decode cL_drawn q.1 = .ok (q.2.1, q.2.2.1) ∧ q.1 + q.2.2.1 = q.2.2.2 := by decide +kernel
theorem bL_drawn_j785_ok {E : Ev2} {l : Launch} {K : KF} {x : Nat × Mem × AS × DM} {k366 : Nat → Nat → Nat → Int32 → Int32 → Mem → AS → DM → Option (Nat × Mem × AS × DM)} (X : Ec2 E l K rmFL_drawn rmLL_drawn) (B0 : Bx2 E RL [] 13 (some (.object "ZoneCapacityLaw$Market"))) (hcd : Cd2 E cL_drawn) (hQ : Rt2 E) (hr : Rs2 E (some (.ref x.1)) x.2.1 x.2.2.1 x.2.2.2) (hk366 : ∀ (x0 : Nat) (x1 : Nat) (x3 : Nat) (x4 : Int32) (x5 : Int32) (mm : Mem) (A : AS) (dm : DM), k366 x0 x1 x3 x4 x5 mm A dm = some x → G2 E 13 366 [(0, .ref x0), (1, .ref x1), (2, .null), (3, .ref x3), (4, .int x4), (5, .int x5)] [] mm A dm) (x0 : Nat) (x1 : Nat) (x3 : Nat) (x4 : Int32) (x5 : Int32) (mm : Mem) (A : AS) (dm : DM) (hf : bL_drawn_j785 k366 x0 x1 x3 x4 x5 mm A dm = some x) : G2 E 13 785 [(0, .ref x0), (1, .ref x1), (2, .null), (3, .ref x3), (4, .int x4), (5, .int x5)] [] mm A dm := by
  unfold bL_drawn_j785 at hf
  have B := B0.tab hcd dtbL_drawn_j785
  refine w_aloadN_n B 0 rfl 2 2 rfl rfl ?_
  refine w_ifnullN B 1 rfl 796 (by decide) ?_
  obtain ⟨v56, ex, hf⟩ := nm_x hf
  refine w_iinc v56 [(5, .int v56), (0, .ref x0), (1, .ref x1), (2, .null), (3, .ref x3), (4, .int x4)] B 2 rfl 5 rfl (ex.symm) (by decide) rfl ?_
  refine w_goto B 3 rfl 366 (by decide) ?_
  refine w_sub [(0, .ref x0), (1, .ref x1), (2, .null), (3, .ref x3), (4, .int x4), (5, .int v56)] [1, 2, 3, 4, 5, 0] rfl ?_
  exact hk366 _ _ _ _ _ _ _ _ hf
def bL_drawn_j699 (k366 : Nat → Nat → Nat → Int32 → Int32 → Mem → AS → DM → Option (Nat × Mem × AS × DM)) (k658 : Nat → Nat → Nat → Int32 → Int32 → Int32 → Int32 → Int32 → Int32 → Mem → AS → DM → Option (Nat × Mem × AS × DM)) (x0 : Nat) (x1 : Nat) (x3 : Nat) (x4 : Int32) (x5 : Int32) (x7 : Int32) (x8 : Int32) (x10 : Int32) (x11 : Int32) (s0 : Int32) (s1 : Int32) (mm : Mem) (A : AS) (dm : DM) : Option (Nat × Mem × AS × DM) := nm (s1 + s0) (fun v61 => nm (x8 - x11) (fun v62 => gkd A x3 8 (gtr (dm x3 3) (fun q63 => gkd A q63 9 (bd (bAL_get A dm q63 x7) (fun r64 => gkd A r64 9 (gnn (2 : Int32) (alc (fun (x : Nat × Mem × AS × DM) => x.2.2.1) A dm 20 (2 : Int32).toNatClampNeg (2 : Int32).toNatClampNeg (fun _ => .int 0) (fun q65 A66 m67 => gkd A66 q65 20 (gix A66 q65 (0 : Int32) (nm (up3 m67 q65 (0 : Int32).toNatClampNeg (.int x11)) (fun m68 => gkd A66 q65 20 (gix A66 q65 (1 : Int32) (nm (up3 m68 q65 (1 : Int32).toNatClampNeg (.int v61)) (fun m69 => gkd A66 r64 9 (bdg (fun (x : Nat × Mem × AS × DM) => x.2.2.1) A66 (bAL_add A66 m69 r64 q65) (fun (x : Int32 × AS × DM) => x.2.1) (fun r70 => gob r70.2.1 x0 (bd (f6_step mm x7 x11 v61) (fun r71 => nm (x10 + (-1)) (fun v72 => k658 x0 x1 x3 x4 x5 x7 v62 v61 v72 r71.2 r70.2.1 r70.2.2))))))))))))))))))))
def tbbL_drawn_j699 : Tb := [(699, .iadd, 1, 700), (700, .istore 9, 2, 702), (702, .iload 8, 2, 704), (704, .iload 11, 2, 706), (706, .isub, 1, 707), (707, .istore 8, 2, 709), (709, .aload_n 3, 1, 710), (710, .getfield 103, 3, 713), (713, .iload 7, 2, 715), (715, .invokevirtual 91, 3, 718), (718, .checkcast 60, 3, 721), (721, .iconst 2, 1, 722), (722, .newarray .int, 2, 724), (724, .dup, 1, 725), (725, .iconst 0, 1, 726), (726, .iload 11, 2, 728), (728, .iastore, 1, 729), (729, .dup, 1, 730), (730, .iconst 1, 1, 731), (731, .iload 9, 2, 733), (733, .iastore, 1, 734), (734, .invokevirtual 59, 3, 737), (737, .pop, 1, 738), (738, .aload_n 2, 1, 739), (739, .ifnonnull 18, 3, 742), (742, .aload_n 0, 1, 743), (743, .iload 7, 2, 745), (745, .iload 11, 2, 747), (747, .iload 9, 2, 749), (749, .invokevirtual 127, 3, 752), (752, .istore 12, 2, 754), (754, .goto 25, 3, 757), (779, .iinc 10 (-1), 3, 782), (782, .goto (-124), 3, 785)]
theorem dtbL_drawn_j699 : ∀ q ∈ tbbL_drawn_j699, decode cL_drawn q.1 = .ok (q.2.1, q.2.2.1) ∧ q.1 + q.2.2.1 = q.2.2.2 := by decide +kernel
theorem bL_drawn_j699_ok {E : Ev2} {l : Launch} {K : KF} {x : Nat × Mem × AS × DM} {k366 : Nat → Nat → Nat → Int32 → Int32 → Mem → AS → DM → Option (Nat × Mem × AS × DM)} {k658 : Nat → Nat → Nat → Int32 → Int32 → Int32 → Int32 → Int32 → Int32 → Mem → AS → DM → Option (Nat × Mem × AS × DM)} (X : Ec2 E l K rmFL_drawn rmLL_drawn) (B0 : Bx2 E RL [] 13 (some (.object "ZoneCapacityLaw$Market"))) (hcd : Cd2 E cL_drawn) (hQ : Rt2 E) (hr : Rs2 E (some (.ref x.1)) x.2.1 x.2.2.1 x.2.2.2) (hk366 : ∀ (x0 : Nat) (x1 : Nat) (x3 : Nat) (x4 : Int32) (x5 : Int32) (mm : Mem) (A : AS) (dm : DM), k366 x0 x1 x3 x4 x5 mm A dm = some x → G2 E 13 366 [(0, .ref x0), (1, .ref x1), (2, .null), (3, .ref x3), (4, .int x4), (5, .int x5)] [] mm A dm) (hk658 : ∀ (x0 : Nat) (x1 : Nat) (x3 : Nat) (x4 : Int32) (x5 : Int32) (x7 : Int32) (x8 : Int32) (x9 : Int32) (x10 : Int32) (mm : Mem) (A : AS) (dm : DM), k658 x0 x1 x3 x4 x5 x7 x8 x9 x10 mm A dm = some x → G2 E 13 658 [(0, .ref x0), (1, .ref x1), (2, .null), (3, .ref x3), (4, .int x4), (5, .int x5), (7, .int x7), (8, .int x8), (9, .int x9), (10, .int x10)] [] mm A dm) (x0 : Nat) (x1 : Nat) (x3 : Nat) (x4 : Int32) (x5 : Int32) (x7 : Int32) (x8 : Int32) (x10 : Int32) (x11 : Int32) (s0 : Int32) (s1 : Int32) (mm : Mem) (A : AS) (dm : DM) (hf : bL_drawn_j699 k366 k658 x0 x1 x3 x4 x5 x7 x8 x10 x11 s0 s1 mm A dm = some x) : G2 E 13 699 [(0, .ref x0), (1, .ref x1), (2, .null), (3, .ref x3), (4, .int x4), (5, .int x5), (7, .int x7), (8, .int x8), (10, .int x10), (11, .int x11)] [.int s0, .int s1] mm A dm := by
  unfold bL_drawn_j699 at hf
  have B := B0.tab hcd dtbL_drawn_j699
  refine w_iadd B 0 rfl ?_
  obtain ⟨v61, ex, hf⟩ := nm_x hf
  refine w_top ex ?_
  refine w_istore [(9, .int v61), (0, .ref x0), (1, .ref x1), (2, .null), (3, .ref x3), (4, .int x4), (5, .int x5), (7, .int x7), (8, .int x8), (10, .int x10), (11, .int x11)] B 1 rfl (by decide) rfl ?_
  refine w_iload B 2 rfl 8 rfl ?_
  refine w_iload B 3 rfl 10 rfl ?_
  refine w_isub B 4 rfl ?_
  obtain ⟨v62, ex, hf⟩ := nm_x hf
  refine w_top ex ?_
  refine w_istore [(8, .int v62), (9, .int v61), (0, .ref x0), (1, .ref x1), (2, .null), (3, .ref x3), (4, .int x4), (5, .int x5), (7, .int x7), (10, .int x10), (11, .int x11)] B 5 rfl (by decide) rfl ?_
  refine w_aload_n B 6 rfl 3 5 rfl rfl ?_
  obtain ⟨hk, hf⟩ := gkd_e hf
  obtain ⟨q63, ex, hf⟩ := gtr_e hf
  refine w_getrN B 7 rfl 8 3 x3 (by decide) hk rfl (List.mem_of_getElem? (i := 4) rfl) (Or.inl rfl) ex ?_
  refine w_iload B 8 rfl 8 rfl ?_
  obtain ⟨hk, hf⟩ := gkd_e hf
  obtain ⟨r64, ec, hf⟩ := bd_e hf
  refine w_callV q63 [.int x7] [] [.ref r64] X B 9 rfl miAL_get 9 (by decide) hk rfl rfl ⟨(iL_drawn _ (List.mem_of_getElem? (i := 26) rfl)), (iL_drawn _ (List.mem_of_getElem? (i := 27) rfl)), (iL_drawn _ (List.mem_of_getElem? (i := 28) rfl))⟩ (ctAL_get ec) (Or.inl ⟨rfl, rfl⟩) ⟨Nat.le_of_ble_eq_true rfl, Nat.le_of_ble_eq_true rfl⟩ rfl rfl (Nat.le_of_ble_eq_true rfl) rfl ?_
  obtain ⟨hk, hf⟩ := gkd_e hf
  refine w_castL B 10 rfl hk (iL_drawn _ (List.mem_of_getElem? (i := 15) rfl)) ?_
  refine w_iconst 2 B 11 rfl (by decide) ?_
  obtain ⟨hv, hf⟩ := gnn_e hf
  obtain ⟨q65, A66, m67, hq, hA, hM, hgd, hf⟩ := alc_e hf
  refine w_newI B 12 rfl hr hgd hq hA hM (iL_drawn _ (List.mem_of_getElem? (i := 11) rfl)) hv ?_
  refine w_dup B 13 rfl rfl ?_
  refine w_iconst 0 B 14 rfl (by decide) ?_
  refine w_iload B 15 rfl 10 rfl ?_
  obtain ⟨hk, hf⟩ := gkd_e hf
  obtain ⟨hx, hf⟩ := gix_e hf
  refine w_iast B 16 rfl hk hx ?_
  obtain ⟨m68, ex, hf⟩ := nm_x hf
  refine w_dmm ex ?_
  refine w_dup B 17 rfl rfl ?_
  refine w_iconst 1 B 18 rfl (by decide) ?_
  refine w_iload B 19 rfl 1 rfl ?_
  obtain ⟨hk, hf⟩ := gkd_e hf
  obtain ⟨hx, hf⟩ := gix_e hf
  refine w_iast B 20 rfl hk hx ?_
  obtain ⟨m69, ex, hf⟩ := nm_x hf
  refine w_dmm ex ?_
  obtain ⟨hk, hf⟩ := gkd_e hf
  obtain ⟨r70, ec, hgd, hf⟩ := bdg_e hf
  refine w_callV r64 [.ref q65] [] [.int r70.1] X B 21 rfl miAL_add 9 (by decide) hk rfl rfl ⟨(iL_drawn _ (List.mem_of_getElem? (i := 12) rfl)), (iL_drawn _ (List.mem_of_getElem? (i := 13) rfl)), (iL_drawn _ (List.mem_of_getElem? (i := 14) rfl))⟩ (ctAL_add ec) (Or.inr ⟨_, _, _, _, hr, hgd⟩) ⟨Nat.le_of_ble_eq_true rfl, Nat.le_of_ble_eq_true rfl⟩ rfl rfl (Nat.le_of_ble_eq_true rfl) rfl ?_
  refine w_pop B 22 rfl rfl ?_
  refine w_aloadN_n B 23 rfl 2 4 rfl rfl ?_
  refine w_ifnonnullN B 24 rfl ?_
  refine w_aload_n B 25 rfl 0 2 rfl rfl ?_
  refine w_iload B 26 rfl 8 rfl ?_
  refine w_iload B 27 rfl 10 rfl ?_
  refine w_iload B 28 rfl 1 rfl ?_
  obtain ⟨ho, hf⟩ := gob_e hf
  obtain ⟨r71, ec, hf⟩ := bd_e hf
  refine w_callC x0 [.int x7, .int x11, .int v61] [] [.int r71.1] X B 29 rfl miX6_step rfl ho ⟨(iL_drawn _ (List.mem_of_getElem? (i := 29) rfl)), (iL_drawn _ (List.mem_of_getElem? (i := 30) rfl)), (iL_drawn _ (List.mem_of_getElem? (i := 31) rfl))⟩ (fun hj => ctX6_step hj ec) ⟨Nat.le_of_ble_eq_true rfl, Nat.le_of_ble_eq_true rfl⟩ rfl (fun _ _ => rfl) (fun _ _ => rfl) rfl (Nat.le_of_ble_eq_true rfl) rfl ?_
  refine w_istore [(12, .int r71.1), (8, .int v62), (9, .int v61), (0, .ref x0), (1, .ref x1), (2, .null), (3, .ref x3), (4, .int x4), (5, .int x5), (7, .int x7), (10, .int x10), (11, .int x11)] B 30 rfl (by decide) rfl ?_
  refine w_goto B 31 rfl 779 (by decide) ?_
  obtain ⟨v72, ex, hf⟩ := nm_x hf
  refine w_iinc v72 [(10, .int v72), (12, .int r71.1), (8, .int v62), (9, .int v61), (0, .ref x0), (1, .ref x1), (2, .null), (3, .ref x3), (4, .int x4), (5, .int x5), (7, .int x7), (11, .int x11)] B 32 rfl 10 rfl (ex.symm) (by decide) rfl ?_
  refine w_goto B 33 rfl 658 (by decide) ?_
  refine w_sub [(0, .ref x0), (1, .ref x1), (2, .null), (3, .ref x3), (4, .int x4), (5, .int x5), (7, .int x7), (8, .int v62), (9, .int v61), (10, .int v72)] [4, 5, 6, 7, 8, 9, 10, 2, 3, 0] rfl ?_
  exact hk658 _ _ _ _ _ _ _ _ _ _ _ _ hf
def bL_drawn_l658 (k366 : Nat → Nat → Nat → Int32 → Int32 → Mem → AS → DM → Option (Nat × Mem × AS × DM)) : Nat → Nat → Nat → Nat → Int32 → Int32 → Int32 → Int32 → Int32 → Int32 → Mem → AS → DM → Option (Nat × Mem × AS × DM)
  | 0, _, _, _, _, _, _, _, _, _, _, _, _ => none
  | n + 1, x0, x1, x3, x4, x5, x7, x8, x9, x10, mm, A, dm => if 0 < x10 then if 0 < x8 then gkd A x1 7 (bd (bX7_next A dm x1 x8) (fun r57 => nm ((1 : Int32) + r57.1) (fun v58 => gkd A x1 7 (bd (bX7_next A r57.2 x1 (5 : Int32)) (fun r59 => if r59.1 = 0 then bL_drawn_j699 k366 (fun x0 x1 x3 x4 x5 x7 x8 x9 x10 mm9 A9 dm9 => bL_drawn_l658 k366 n x0 x1 x3 x4 x5 x7 x8 x9 x10 mm9 A9 dm9) x0 x1 x3 x4 x5 x7 x8 x10 v58 (0 : Int32) x9 mm A r59.2 else gkd A x1 7 (bd (bX7_next A r59.2 x1 (300 : Int32)) (fun r60 => bL_drawn_j699 k366 (fun x0 x1 x3 x4 x5 x7 x8 x9 x10 mm9 A9 dm9 => bL_drawn_l658 k366 n x0 x1 x3 x4 x5 x7 x8 x9 x10 mm9 A9 dm9) x0 x1 x3 x4 x5 x7 x8 x10 v58 r60.1 x9 mm A r60.2))))))) else bL_drawn_j785 k366 x0 x1 x3 x4 x5 mm A dm else bL_drawn_j785 k366 x0 x1 x3 x4 x5 mm A dm
def tbbL_drawn_l658 : Tb := [(658, .iload 10, 2, 660), (660, .ifCond .le 125, 3, 663), (663, .iload 8, 2, 665), (665, .ifCond .le 120, 3, 668), (668, .iconst 1, 1, 669), (669, .aload_n 1, 1, 670), (670, .iload 8, 2, 672), (672, .invokevirtual 49, 3, 675), (675, .iadd, 1, 676), (676, .istore 11, 2, 678), (678, .iload 9, 2, 680), (680, .aload_n 1, 1, 681), (681, .iconst 5, 1, 682), (682, .invokevirtual 49, 3, 685), (685, .ifCond .ne 7, 3, 688), (692, .aload_n 1, 1, 693), (693, .sipush 300, 3, 696), (696, .invokevirtual 49, 3, 699), (688, .iconst 0, 1, 689), (689, .goto 10, 3, 692)]
theorem dtbL_drawn_l658 : ∀ q ∈ tbbL_drawn_l658, decode cL_drawn q.1 = .ok (q.2.1, q.2.2.1) ∧ q.1 + q.2.2.1 = q.2.2.2 := by decide +kernel
theorem bL_drawn_l658_ok {E : Ev2} {l : Launch} {K : KF} {x : Nat × Mem × AS × DM} {k366 : Nat → Nat → Nat → Int32 → Int32 → Mem → AS → DM → Option (Nat × Mem × AS × DM)} (X : Ec2 E l K rmFL_drawn rmLL_drawn) (B0 : Bx2 E RL [] 13 (some (.object "ZoneCapacityLaw$Market"))) (hcd : Cd2 E cL_drawn) (hQ : Rt2 E) (hr : Rs2 E (some (.ref x.1)) x.2.1 x.2.2.1 x.2.2.2) (hk366 : ∀ (x0 : Nat) (x1 : Nat) (x3 : Nat) (x4 : Int32) (x5 : Int32) (mm : Mem) (A : AS) (dm : DM), k366 x0 x1 x3 x4 x5 mm A dm = some x → G2 E 13 366 [(0, .ref x0), (1, .ref x1), (2, .null), (3, .ref x3), (4, .int x4), (5, .int x5)] [] mm A dm) (n : Nat) : ∀ (x0 : Nat) (x1 : Nat) (x3 : Nat) (x4 : Int32) (x5 : Int32) (x7 : Int32) (x8 : Int32) (x9 : Int32) (x10 : Int32) (mm : Mem) (A : AS) (dm : DM), bL_drawn_l658 k366 n x0 x1 x3 x4 x5 x7 x8 x9 x10 mm A dm = some x → G2 E 13 658 [(0, .ref x0), (1, .ref x1), (2, .null), (3, .ref x3), (4, .int x4), (5, .int x5), (7, .int x7), (8, .int x8), (9, .int x9), (10, .int x10)] [] mm A dm := by
  induction n with
  | zero =>
    intro x0 x1 x3 x4 x5 x7 x8 x9 x10 mm A dm hf
    rw [bL_drawn_l658] at hf
    cases hf
  | succ n ih =>
    intro x0 x1 x3 x4 x5 x7 x8 x9 x10 mm A dm hf
    rw [bL_drawn_l658] at hf
    have B := B0.tab hcd dtbL_drawn_l658
    refine w_iload B 0 rfl 9 rfl ?_
    by_cases hc : 0 < x10
    · replace hf := (if_pos hc).symm.trans hf
      refine w_if_le_f B 1 rfl 785 (by decide) hc ?_
      refine w_iload B 2 rfl 7 rfl ?_
      by_cases hc : 0 < x8
      · replace hf := (if_pos hc).symm.trans hf
        refine w_if_le_f B 3 rfl 785 (by decide) hc ?_
        refine w_iconst 1 B 4 rfl (by decide) ?_
        refine w_aload_n B 5 rfl 1 1 rfl rfl ?_
        refine w_iload B 6 rfl 7 rfl ?_
        obtain ⟨hk, hf⟩ := gkd_e hf
        obtain ⟨r57, ec, hf⟩ := bd_e hf
        refine w_callV x1 [.int x8] [.int (1 : Int32)] [.int r57.1, .int (1 : Int32)] X B 7 rfl miX7_next 7 (by decide) hk rfl rfl ⟨(iL_drawn _ (List.mem_of_getElem? (i := 5) rfl)), (iL_drawn _ (List.mem_of_getElem? (i := 6) rfl)), (iL_drawn _ (List.mem_of_getElem? (i := 7) rfl))⟩ (ctX7_next ec) (Or.inl ⟨rfl, rfl⟩) ⟨Nat.le_of_ble_eq_true rfl, Nat.le_of_ble_eq_true rfl⟩ rfl rfl (Nat.le_of_ble_eq_true rfl) rfl ?_
        refine w_iadd B 8 rfl ?_
        obtain ⟨v58, ex, hf⟩ := nm_x hf
        refine w_top ex ?_
        refine w_istore [(11, .int v58), (0, .ref x0), (1, .ref x1), (2, .null), (3, .ref x3), (4, .int x4), (5, .int x5), (7, .int x7), (8, .int x8), (9, .int x9), (10, .int x10)] B 9 rfl (by decide) rfl ?_
        refine w_iload B 10 rfl 9 rfl ?_
        refine w_aload_n B 11 rfl 1 2 rfl rfl ?_
        refine w_iconst 5 B 12 rfl (by decide) ?_
        obtain ⟨hk, hf⟩ := gkd_e hf
        obtain ⟨r59, ec, hf⟩ := bd_e hf
        refine w_callV x1 [.int (5 : Int32)] [.int x9] [.int r59.1, .int x9] X B 13 rfl miX7_next 7 (by decide) hk rfl rfl ⟨(iL_drawn _ (List.mem_of_getElem? (i := 5) rfl)), (iL_drawn _ (List.mem_of_getElem? (i := 6) rfl)), (iL_drawn _ (List.mem_of_getElem? (i := 7) rfl))⟩ (ctX7_next ec) (Or.inl ⟨rfl, rfl⟩) ⟨Nat.le_of_ble_eq_true rfl, Nat.le_of_ble_eq_true rfl⟩ rfl rfl (Nat.le_of_ble_eq_true rfl) rfl ?_
        by_cases hc : r59.1 = 0
        · replace hf := (if_pos hc).symm.trans hf
          refine w_if_ne_f B 14 rfl 692 (by decide) hc ?_
          refine w_iconst 0 B 18 rfl (by decide) ?_
          refine w_goto B 19 rfl 699 (by decide) ?_
          refine w_sub [(0, .ref x0), (1, .ref x1), (2, .null), (3, .ref x3), (4, .int x4), (5, .int x5), (7, .int x7), (8, .int x8), (10, .int x10), (11, .int v58)] [1, 2, 3, 4, 5, 6, 7, 8, 10, 0] rfl ?_
          exact bL_drawn_j699_ok X B0 hcd hQ hr hk366 ih _ _ _ _ _ _ _ _ _ _ _ _ _ _ hf
        · replace hf := (if_neg hc).symm.trans hf
          refine w_if_ne_t B 14 rfl 692 (by decide) hc ?_
          refine w_aload_n B 15 rfl 1 2 rfl rfl ?_
          refine w_sipush 300 B 16 rfl (by decide) ?_
          obtain ⟨hk, hf⟩ := gkd_e hf
          obtain ⟨r60, ec, hf⟩ := bd_e hf
          refine w_callV x1 [.int (300 : Int32)] [.int x9] [.int r60.1, .int x9] X B 17 rfl miX7_next 7 (by decide) hk rfl rfl ⟨(iL_drawn _ (List.mem_of_getElem? (i := 5) rfl)), (iL_drawn _ (List.mem_of_getElem? (i := 6) rfl)), (iL_drawn _ (List.mem_of_getElem? (i := 7) rfl))⟩ (ctX7_next ec) (Or.inl ⟨rfl, rfl⟩) ⟨Nat.le_of_ble_eq_true rfl, Nat.le_of_ble_eq_true rfl⟩ rfl rfl (Nat.le_of_ble_eq_true rfl) rfl ?_
          refine w_sub [(0, .ref x0), (1, .ref x1), (2, .null), (3, .ref x3), (4, .int x4), (5, .int x5), (7, .int x7), (8, .int x8), (10, .int x10), (11, .int v58)] [1, 2, 3, 4, 5, 6, 7, 8, 10, 0] rfl ?_
          exact bL_drawn_j699_ok X B0 hcd hQ hr hk366 ih _ _ _ _ _ _ _ _ _ _ _ _ _ _ hf
      · replace hf := (if_neg hc).symm.trans hf
        refine w_if_le_t B 3 rfl 785 (by decide) hc ?_
        refine w_sub [(0, .ref x0), (1, .ref x1), (2, .null), (3, .ref x3), (4, .int x4), (5, .int x5)] [0, 1, 2, 3, 4, 5] rfl ?_
        exact bL_drawn_j785_ok X B0 hcd hQ hr hk366 _ _ _ _ _ _ _ _ hf
    · replace hf := (if_neg hc).symm.trans hf
      refine w_if_le_t B 1 rfl 785 (by decide) hc ?_
      refine w_sub [(0, .ref x0), (1, .ref x1), (2, .null), (3, .ref x3), (4, .int x4), (5, .int x5)] [0, 1, 2, 3, 4, 5] rfl ?_
      exact bL_drawn_j785_ok X B0 hcd hQ hr hk366 _ _ _ _ _ _ _ _ hf
def bL_drawn_j642 (k366 : Nat → Nat → Nat → Int32 → Int32 → Mem → AS → DM → Option (Nat × Mem × AS × DM)) (x0 : Nat) (x1 : Nat) (x3 : Nat) (x4 : Int32) (x5 : Int32) (x6 : Nat) (x7 : Int32) (mm : Mem) (A : AS) (dm : DM) : Option (Nat × Mem × AS × DM) := gkd A x6 20 (gix A x6 (1 : Int32) (gti (dm x6 (1 : Int32).toNatClampNeg) (fun v54 => gkd A x1 7 (bd (bX7_next A dm x1 (4 : Int32)) (fun r55 => bL_drawn_l658 k366 FU x0 x1 x3 x4 x5 x7 v54 (0 : Int32) r55.1 mm A r55.2)))))
def tbbL_drawn_j642 : Tb := [(642, .aload 6, 2, 644), (644, .iconst 1, 1, 645), (645, .iaload, 1, 646), (646, .istore 8, 2, 648), (648, .iconst 0, 1, 649), (649, .istore 9, 2, 651), (651, .aload_n 1, 1, 652), (652, .iconst 4, 1, 653), (653, .invokevirtual 49, 3, 656), (656, .istore 10, 2, 658)]
theorem dtbL_drawn_j642 : ∀ q ∈ tbbL_drawn_j642, decode cL_drawn q.1 = .ok (q.2.1, q.2.2.1) ∧ q.1 + q.2.2.1 = q.2.2.2 := by decide +kernel
theorem bL_drawn_j642_ok {E : Ev2} {l : Launch} {K : KF} {x : Nat × Mem × AS × DM} {k366 : Nat → Nat → Nat → Int32 → Int32 → Mem → AS → DM → Option (Nat × Mem × AS × DM)} (X : Ec2 E l K rmFL_drawn rmLL_drawn) (B0 : Bx2 E RL [] 13 (some (.object "ZoneCapacityLaw$Market"))) (hcd : Cd2 E cL_drawn) (hQ : Rt2 E) (hr : Rs2 E (some (.ref x.1)) x.2.1 x.2.2.1 x.2.2.2) (hk366 : ∀ (x0 : Nat) (x1 : Nat) (x3 : Nat) (x4 : Int32) (x5 : Int32) (mm : Mem) (A : AS) (dm : DM), k366 x0 x1 x3 x4 x5 mm A dm = some x → G2 E 13 366 [(0, .ref x0), (1, .ref x1), (2, .null), (3, .ref x3), (4, .int x4), (5, .int x5)] [] mm A dm) (x0 : Nat) (x1 : Nat) (x3 : Nat) (x4 : Int32) (x5 : Int32) (x6 : Nat) (x7 : Int32) (mm : Mem) (A : AS) (dm : DM) (hf : bL_drawn_j642 k366 x0 x1 x3 x4 x5 x6 x7 mm A dm = some x) : G2 E 13 642 [(0, .ref x0), (1, .ref x1), (2, .null), (3, .ref x3), (4, .int x4), (5, .int x5), (6, .ref x6), (7, .int x7)] [] mm A dm := by
  unfold bL_drawn_j642 at hf
  have B := B0.tab hcd dtbL_drawn_j642
  refine w_aload B 0 rfl 6 rfl ?_
  refine w_iconst 1 B 1 rfl (by decide) ?_
  obtain ⟨hk, hf⟩ := gkd_e hf
  obtain ⟨hx, hf⟩ := gix_e hf
  obtain ⟨v54, ex, hf⟩ := gti_e hf
  refine w_iald B 2 rfl hk hx ex ?_
  refine w_istore [(8, .int v54), (0, .ref x0), (1, .ref x1), (2, .null), (3, .ref x3), (4, .int x4), (5, .int x5), (6, .ref x6), (7, .int x7)] B 3 rfl (by decide) rfl ?_
  refine w_iconst 0 B 4 rfl (by decide) ?_
  refine w_istore [(9, .int (0 : Int32)), (8, .int v54), (0, .ref x0), (1, .ref x1), (2, .null), (3, .ref x3), (4, .int x4), (5, .int x5), (6, .ref x6), (7, .int x7)] B 5 rfl (by decide) rfl ?_
  refine w_aload_n B 6 rfl 1 3 rfl rfl ?_
  refine w_iconst 4 B 7 rfl (by decide) ?_
  obtain ⟨hk, hf⟩ := gkd_e hf
  obtain ⟨r55, ec, hf⟩ := bd_e hf
  refine w_callV x1 [.int (4 : Int32)] [] [.int r55.1] X B 8 rfl miX7_next 7 (by decide) hk rfl rfl ⟨(iL_drawn _ (List.mem_of_getElem? (i := 5) rfl)), (iL_drawn _ (List.mem_of_getElem? (i := 6) rfl)), (iL_drawn _ (List.mem_of_getElem? (i := 7) rfl))⟩ (ctX7_next ec) (Or.inl ⟨rfl, rfl⟩) ⟨Nat.le_of_ble_eq_true rfl, Nat.le_of_ble_eq_true rfl⟩ rfl rfl (Nat.le_of_ble_eq_true rfl) rfl ?_
  refine w_istore [(10, .int r55.1), (9, .int (0 : Int32)), (8, .int v54), (0, .ref x0), (1, .ref x1), (2, .null), (3, .ref x3), (4, .int x4), (5, .int x5), (6, .ref x6), (7, .int x7)] B 9 rfl (by decide) rfl ?_
  refine w_sub [(0, .ref x0), (1, .ref x1), (2, .null), (3, .ref x3), (4, .int x4), (5, .int x5), (7, .int x7), (8, .int v54), (9, .int (0 : Int32)), (10, .int r55.1)] [3, 4, 5, 6, 7, 8, 10, 2, 1, 0] rfl ?_
  exact bL_drawn_l658_ok X B0 hcd hQ hr hk366 FU _ _ _ _ _ _ _ _ _ _ _ _ hf
def bL_drawn_j496 (k366 : Nat → Nat → Nat → Int32 → Int32 → Mem → AS → DM → Option (Nat × Mem × AS × DM)) (x0 : Nat) (x1 : Nat) (x3 : Nat) (x4 : Int32) (x5 : Int32) (x6 : Nat) (s0 : Int32) (s1 : Int32) (s2 : Int32) (s3 : Int32) (s4 : Int32) (s5 : Nat) (mm : Mem) (A : AS) (dm : DM) : Option (Nat × Mem × AS × DM) := gob A s5 (bd (f6_resource mm s4 s3 s2 s1 s0) (fun r52 => gkd A x1 7 (bd (bX7_next A dm x1 (3 : Int32)) (fun r53 => if r53.1 = 0 then gkd A x6 20 (gix A x6 (5 : Int32) (nm (up3 r53.2 x6 (5 : Int32).toNatClampNeg (.int (1 : Int32))) (fun m73 => gob A x0 (bd (f6_set r52.2 (4 : Int32) r52.1 (1 : Int32)) (fun r74 => bL_drawn_j642 k366 x0 x1 x3 x4 x5 x6 r52.1 r74.2 A m73))))) else bL_drawn_j642 k366 x0 x1 x3 x4 x5 x6 r52.1 r52.2 A r53.2))))
def tbbL_drawn_j496 : Tb := [(496, .invokevirtual 109, 3, 499), (499, .istore 7, 2, 501), (501, .aload_n 1, 1, 502), (502, .iconst 3, 1, 503), (503, .invokevirtual 49, 3, 506), (506, .ifCond .ne 136, 3, 509), (509, .aload 6, 2, 511), (511, .iconst 5, 1, 512), (512, .iconst 1, 1, 513), (513, .iastore, 1, 514), (514, .aload_n 0, 1, 515), (515, .iconst 4, 1, 516), (516, .iload 7, 2, 518), (518, .iconst 1, 1, 519), (519, .invokevirtual 113, 3, 522), (522, .istore 8, 2, 524), (524, .goto 118, 3, 527)]
theorem dtbL_drawn_j496 : ∀ q ∈ tbbL_drawn_j496, decode cL_drawn q.1 = .ok (q.2.1, q.2.2.1) ∧ q.1 + q.2.2.1 = q.2.2.2 := by decide +kernel
theorem bL_drawn_j496_ok {E : Ev2} {l : Launch} {K : KF} {x : Nat × Mem × AS × DM} {k366 : Nat → Nat → Nat → Int32 → Int32 → Mem → AS → DM → Option (Nat × Mem × AS × DM)} (X : Ec2 E l K rmFL_drawn rmLL_drawn) (B0 : Bx2 E RL [] 13 (some (.object "ZoneCapacityLaw$Market"))) (hcd : Cd2 E cL_drawn) (hQ : Rt2 E) (hr : Rs2 E (some (.ref x.1)) x.2.1 x.2.2.1 x.2.2.2) (hk366 : ∀ (x0 : Nat) (x1 : Nat) (x3 : Nat) (x4 : Int32) (x5 : Int32) (mm : Mem) (A : AS) (dm : DM), k366 x0 x1 x3 x4 x5 mm A dm = some x → G2 E 13 366 [(0, .ref x0), (1, .ref x1), (2, .null), (3, .ref x3), (4, .int x4), (5, .int x5)] [] mm A dm) (x0 : Nat) (x1 : Nat) (x3 : Nat) (x4 : Int32) (x5 : Int32) (x6 : Nat) (s0 : Int32) (s1 : Int32) (s2 : Int32) (s3 : Int32) (s4 : Int32) (s5 : Nat) (mm : Mem) (A : AS) (dm : DM) (hf : bL_drawn_j496 k366 x0 x1 x3 x4 x5 x6 s0 s1 s2 s3 s4 s5 mm A dm = some x) : G2 E 13 496 [(0, .ref x0), (1, .ref x1), (2, .null), (3, .ref x3), (4, .int x4), (5, .int x5), (6, .ref x6)] [.int s0, .int s1, .int s2, .int s3, .int s4, .ref s5] mm A dm := by
  unfold bL_drawn_j496 at hf
  have B := B0.tab hcd dtbL_drawn_j496
  obtain ⟨ho, hf⟩ := gob_e hf
  obtain ⟨r52, ec, hf⟩ := bd_e hf
  refine w_callC s5 [.int s4, .int s3, .int s2, .int s1, .int s0] [] [.int r52.1] X B 0 rfl miX6_resource rfl ho ⟨(iL_drawn _ (List.mem_of_getElem? (i := 23) rfl)), (iL_drawn _ (List.mem_of_getElem? (i := 24) rfl)), (iL_drawn _ (List.mem_of_getElem? (i := 25) rfl))⟩ (fun hj => ctX6_resource hj ec) ⟨Nat.le_of_ble_eq_true rfl, Nat.le_of_ble_eq_true rfl⟩ rfl (fun _ _ => rfl) (fun _ _ => rfl) rfl (Nat.le_of_ble_eq_true rfl) rfl ?_
  refine w_istore [(7, .int r52.1), (0, .ref x0), (1, .ref x1), (2, .null), (3, .ref x3), (4, .int x4), (5, .int x5), (6, .ref x6)] B 1 rfl (by decide) rfl ?_
  refine w_aload_n B 2 rfl 1 2 rfl rfl ?_
  refine w_iconst 3 B 3 rfl (by decide) ?_
  obtain ⟨hk, hf⟩ := gkd_e hf
  obtain ⟨r53, ec, hf⟩ := bd_e hf
  refine w_callV x1 [.int (3 : Int32)] [] [.int r53.1] X B 4 rfl miX7_next 7 (by decide) hk rfl rfl ⟨(iL_drawn _ (List.mem_of_getElem? (i := 5) rfl)), (iL_drawn _ (List.mem_of_getElem? (i := 6) rfl)), (iL_drawn _ (List.mem_of_getElem? (i := 7) rfl))⟩ (ctX7_next ec) (Or.inl ⟨rfl, rfl⟩) ⟨Nat.le_of_ble_eq_true rfl, Nat.le_of_ble_eq_true rfl⟩ rfl rfl (Nat.le_of_ble_eq_true rfl) rfl ?_
  by_cases hc : r53.1 = 0
  · replace hf := (if_pos hc).symm.trans hf
    refine w_if_ne_f B 5 rfl 642 (by decide) hc ?_
    refine w_aload B 6 rfl 7 rfl ?_
    refine w_iconst 5 B 7 rfl (by decide) ?_
    refine w_iconst 1 B 8 rfl (by decide) ?_
    obtain ⟨hk, hf⟩ := gkd_e hf
    obtain ⟨hx, hf⟩ := gix_e hf
    refine w_iast B 9 rfl hk hx ?_
    obtain ⟨m73, ex, hf⟩ := nm_x hf
    refine w_dmm ex ?_
    refine w_aload_n B 10 rfl 0 1 rfl rfl ?_
    refine w_iconst 4 B 11 rfl (by decide) ?_
    refine w_iload B 12 rfl 0 rfl ?_
    refine w_iconst 1 B 13 rfl (by decide) ?_
    obtain ⟨ho, hf⟩ := gob_e hf
    obtain ⟨r74, ec, hf⟩ := bd_e hf
    refine w_callC x0 [.int (4 : Int32), .int r52.1, .int (1 : Int32)] [] [.int r74.1] X B 14 rfl miX6_set rfl ho ⟨(iL_drawn _ (List.mem_of_getElem? (i := 8) rfl)), (iL_drawn _ (List.mem_of_getElem? (i := 9) rfl)), (iL_drawn _ (List.mem_of_getElem? (i := 10) rfl))⟩ (fun hj => ctX6_set hj ec) ⟨Nat.le_of_ble_eq_true rfl, Nat.le_of_ble_eq_true rfl⟩ rfl (fun _ _ => rfl) (fun _ _ => rfl) rfl (Nat.le_of_ble_eq_true rfl) rfl ?_
    refine w_istore [(8, .int r74.1), (7, .int r52.1), (0, .ref x0), (1, .ref x1), (2, .null), (3, .ref x3), (4, .int x4), (5, .int x5), (6, .ref x6)] B 15 rfl (by decide) rfl ?_
    refine w_goto B 16 rfl 642 (by decide) ?_
    refine w_sub [(0, .ref x0), (1, .ref x1), (2, .null), (3, .ref x3), (4, .int x4), (5, .int x5), (6, .ref x6), (7, .int r52.1)] [2, 3, 4, 5, 6, 7, 8, 1] rfl ?_
    exact bL_drawn_j642_ok X B0 hcd hQ hr hk366 _ _ _ _ _ _ _ _ _ _ hf
  · replace hf := (if_neg hc).symm.trans hf
    refine w_if_ne_t B 5 rfl 642 (by decide) hc ?_
    refine w_sub [(0, .ref x0), (1, .ref x1), (2, .null), (3, .ref x3), (4, .int x4), (5, .int x5), (6, .ref x6), (7, .int r52.1)] [1, 2, 3, 4, 5, 6, 7, 0] rfl ?_
    exact bL_drawn_j642_ok X B0 hcd hQ hr hk366 _ _ _ _ _ _ _ _ _ _ hf
def bL_drawn_l366 : Nat → Nat → Nat → Nat → Int32 → Int32 → Mem → AS → DM → Option (Nat × Mem × AS × DM)
  | 0, _, _, _, _, _, _, _, _ => none
  | n + 1, x0, x1, x3, x4, x5, mm, A, dm => if 0 < x5 then gnn (6 : Int32) (alc (fun (x : Nat × Mem × AS × DM) => x.2.2.1) A dm 20 (6 : Int32).toNatClampNeg (6 : Int32).toNatClampNeg (fun _ => .int 0) (fun q22 A23 m24 => gkd A23 x1 7 (bd (bX7_next A23 m24 x1 x4) (fun r25 => gkd A23 q22 20 (gix A23 q22 (0 : Int32) (nm (up3 r25.2 q22 (0 : Int32).toNatClampNeg (.int r25.1)) (fun m26 => gkd A23 x1 7 (bd (bX7_next A23 m26 x1 (120 : Int32)) (fun r27 => gkd A23 q22 20 (gix A23 q22 (1 : Int32) (nm (up3 r27.2 q22 (1 : Int32).toNatClampNeg (.int ((1 : Int32) + r27.1))) (fun m28 => gkd A23 x1 7 (bd (bX7_next A23 m28 x1 (4 : Int32)) (fun r29 => gkd A23 q22 20 (gix A23 q22 (2 : Int32) (nm (up3 r29.2 q22 (2 : Int32).toNatClampNeg (.int r29.1)) (fun m30 => gkd A23 x1 7 (bd (bX7_next A23 m30 x1 (6 : Int32)) (fun r31 => gkd A23 q22 20 (gix A23 q22 (3 : Int32) (nm (up3 r31.2 q22 (3 : Int32).toNatClampNeg (.int r31.1)) (fun m32 => gkd A23 x1 7 (bd (bX7_next A23 m32 x1 (2 : Int32)) (fun r33 => gkd A23 q22 20 (gix A23 q22 (4 : Int32) (nm (up3 r33.2 q22 (4 : Int32).toNatClampNeg (.int r33.1)) (fun m34 => gkd A23 q22 20 (gix A23 q22 (5 : Int32) (nm (up3 m34 q22 (5 : Int32).toNatClampNeg (.int (0 : Int32))) (fun m35 => gkd A23 x3 8 (gtr (m35 x3 2) (fun q36 => gkd A23 q36 9 (bdg (fun (x : Nat × Mem × AS × DM) => x.2.2.1) A23 (bAL_add A23 m35 q36 q22) (fun (x : Int32 × AS × DM) => x.2.1) (fun r37 => gkd r37.2.1 x3 8 (gtr (r37.2.2 x3 3) (fun q38 => alc (fun (x : Nat × Mem × AS × DM) => x.2.2.1) r37.2.1 r37.2.2 9 0 3 dfl9 (fun q39 A40 m41 => bd (bAL_init A40 m41 q39) (fun r42 => gkd A40 q38 9 (bdg (fun (x : Nat × Mem × AS × DM) => x.2.2.1) A40 (bAL_add A40 r42 q38 q39) (fun (x : Int32 × AS × DM) => x.2.1) (fun r43 => gkd r43.2.1 x3 8 (gtr (r43.2.2 x3 2) (fun q44 => gkd r43.2.1 q44 9 (bd (bAL_size r43.2.1 r43.2.2 q44) (fun r45 => nm (r45 - (1 : Int32)) (fun v46 => gkd r43.2.1 q22 20 (gix r43.2.1 q22 (0 : Int32) (gti (r43.2.2 q22 (0 : Int32).toNatClampNeg) (fun v47 => gkd r43.2.1 q22 20 (gix r43.2.1 q22 (1 : Int32) (gti (r43.2.2 q22 (1 : Int32).toNatClampNeg) (fun v48 => gkd r43.2.1 q22 20 (gix r43.2.1 q22 (2 : Int32) (gti (r43.2.2 q22 (2 : Int32).toNatClampNeg) (fun v49 => gkd r43.2.1 q22 20 (gix r43.2.1 q22 (3 : Int32) (gti (r43.2.2 q22 (3 : Int32).toNatClampNeg) (fun v50 => gkd r43.2.1 q22 20 (gix r43.2.1 q22 (4 : Int32) (gti (r43.2.2 q22 (4 : Int32).toNatClampNeg) (fun v51 => if v51 = (1 : Int32) then bL_drawn_j496 (fun x0 x1 x3 x4 x5 mm9 A9 dm9 => bL_drawn_l366 n x0 x1 x3 x4 x5 mm9 A9 dm9) x0 x1 x3 x4 x5 q22 (1 : Int32) v50 v49 v48 v47 x0 mm r43.2.1 r43.2.2 else bL_drawn_j496 (fun x0 x1 x3 x4 x5 mm9 A9 dm9 => bL_drawn_l366 n x0 x1 x3 x4 x5 mm9 A9 dm9) x0 x1 x3 x4 x5 q22 (0 : Int32) v50 v49 v48 v47 x0 mm r43.2.1 r43.2.2)))))))))))))))))))))))))))))))))))))))))))))))))))))))))))) else bL_drawn_l805 FU x0 x1 x3 (0 : Int32) mm A dm
def tbbL_drawn_l366 : Tb := [(366, .iload 5, 2, 368), (368, .ifCond .le 434, 3, 371), (802, .iconst 0, 1, 803), (803, .istore 5, 2, 805), (371, .bipush 6, 2, 373), (373, .newarray .int, 2, 375), (375, .dup, 1, 376), (376, .iconst 0, 1, 377), (377, .aload_n 1, 1, 378), (378, .iload 4, 2, 380), (380, .invokevirtual 49, 3, 383), (383, .iastore, 1, 384), (384, .dup, 1, 385), (385, .iconst 1, 1, 386), (386, .iconst 1, 1, 387), (387, .aload_n 1, 1, 388), (388, .bipush 120, 2, 390), (390, .invokevirtual 49, 3, 393), (393, .iadd, 1, 394), (394, .iastore, 1, 395), (395, .dup, 1, 396), (396, .iconst 2, 1, 397), (397, .aload_n 1, 1, 398), (398, .iconst 4, 1, 399), (399, .invokevirtual 49, 3, 402), (402, .iastore, 1, 403), (403, .dup, 1, 404), (404, .iconst 3, 1, 405), (405, .aload_n 1, 1, 406), (406, .bipush 6, 2, 408), (408, .invokevirtual 49, 3, 411), (411, .iastore, 1, 412), (412, .dup, 1, 413), (413, .iconst 4, 1, 414), (414, .aload_n 1, 1, 415), (415, .iconst 2, 1, 416), (416, .invokevirtual 49, 3, 419), (419, .iastore, 1, 420), (420, .dup, 1, 421), (421, .iconst 5, 1, 422), (422, .iconst 0, 1, 423), (423, .iastore, 1, 424), (424, .astore 6, 2, 426), (426, .aload_n 3, 1, 427), (427, .getfield 100, 3, 430), (430, .aload 6, 2, 432), (432, .invokevirtual 59, 3, 435), (435, .pop, 1, 436), (436, .aload_n 3, 1, 437), (437, .getfield 103, 3, 440), (440, .new 60, 3, 443), (443, .dup, 1, 444), (444, .invokespecial 68, 3, 447), (447, .invokevirtual 59, 3, 450), (450, .pop, 1, 451), (451, .aload_n 3, 1, 452), (452, .getfield 100, 3, 455), (455, .invokevirtual 106, 3, 458), (458, .iconst 1, 1, 459), (459, .isub, 1, 460), (460, .istore 7, 2, 462), (462, .aload_n 2, 1, 463), (463, .ifnonnull 64, 3, 466), (466, .aload_n 0, 1, 467), (467, .aload 6, 2, 469), (469, .iconst 0, 1, 470), (470, .iaload, 1, 471), (471, .aload 6, 2, 473), (473, .iconst 1, 1, 474), (474, .iaload, 1, 475), (475, .aload 6, 2, 477), (477, .iconst 2, 1, 478), (478, .iaload, 1, 479), (479, .aload 6, 2, 481), (481, .iconst 3, 1, 482), (482, .iaload, 1, 483), (483, .aload 6, 2, 485), (485, .iconst 4, 1, 486), (486, .iaload, 1, 487), (487, .iconst 1, 1, 488), (488, .if_icmp .ne 7, 3, 491), (495, .iconst 0, 1, 496), (491, .iconst 1, 1, 492), (492, .goto 4, 3, 495)]
theorem dtbL_drawn_l366 : ∀ q ∈ tbbL_drawn_l366, decode cL_drawn q.1 = .ok (q.2.1, q.2.2.1) ∧ q.1 + q.2.2.1 = q.2.2.2 := by decide +kernel
theorem bL_drawn_l366_ok {E : Ev2} {l : Launch} {K : KF} {x : Nat × Mem × AS × DM} (X : Ec2 E l K rmFL_drawn rmLL_drawn) (B0 : Bx2 E RL [] 13 (some (.object "ZoneCapacityLaw$Market"))) (hcd : Cd2 E cL_drawn) (hQ : Rt2 E) (hr : Rs2 E (some (.ref x.1)) x.2.1 x.2.2.1 x.2.2.2) (n : Nat) : ∀ (x0 : Nat) (x1 : Nat) (x3 : Nat) (x4 : Int32) (x5 : Int32) (mm : Mem) (A : AS) (dm : DM), bL_drawn_l366 n x0 x1 x3 x4 x5 mm A dm = some x → G2 E 13 366 [(0, .ref x0), (1, .ref x1), (2, .null), (3, .ref x3), (4, .int x4), (5, .int x5)] [] mm A dm := by
  induction n with
  | zero =>
    intro x0 x1 x3 x4 x5 mm A dm hf
    rw [bL_drawn_l366] at hf
    cases hf
  | succ n ih =>
    intro x0 x1 x3 x4 x5 mm A dm hf
    rw [bL_drawn_l366] at hf
    have B := B0.tab hcd dtbL_drawn_l366
    refine w_iload B 0 rfl 5 rfl ?_
    by_cases hc : 0 < x5
    · replace hf := (if_pos hc).symm.trans hf
      refine w_if_le_f B 1 rfl 802 (by decide) hc ?_
      refine w_bipush 6 B 4 rfl (by decide) ?_
      obtain ⟨hv, hf⟩ := gnn_e hf
      obtain ⟨q22, A23, m24, hq, hA, hM, hgd, hf⟩ := alc_e hf
      refine w_newI B 5 rfl hr hgd hq hA hM (iL_drawn _ (List.mem_of_getElem? (i := 11) rfl)) hv ?_
      refine w_dup B 6 rfl rfl ?_
      refine w_iconst 0 B 7 rfl (by decide) ?_
      refine w_aload_n B 8 rfl 1 1 rfl rfl ?_
      refine w_iload B 9 rfl 4 rfl ?_
      obtain ⟨hk, hf⟩ := gkd_e hf
      obtain ⟨r25, ec, hf⟩ := bd_e hf
      refine w_callV x1 [.int x4] [.int (0 : Int32), .ref q22, .ref q22] [.int r25.1, .int (0 : Int32), .ref q22, .ref q22] X B 10 rfl miX7_next 7 (by decide) hk rfl rfl ⟨(iL_drawn _ (List.mem_of_getElem? (i := 5) rfl)), (iL_drawn _ (List.mem_of_getElem? (i := 6) rfl)), (iL_drawn _ (List.mem_of_getElem? (i := 7) rfl))⟩ (ctX7_next ec) (Or.inl ⟨rfl, rfl⟩) ⟨Nat.le_of_ble_eq_true rfl, Nat.le_of_ble_eq_true rfl⟩ rfl rfl (Nat.le_of_ble_eq_true rfl) rfl ?_
      obtain ⟨hk, hf⟩ := gkd_e hf
      obtain ⟨hx, hf⟩ := gix_e hf
      refine w_iast B 11 rfl hk hx ?_
      obtain ⟨m26, ex, hf⟩ := nm_x hf
      refine w_dmm ex ?_
      refine w_dup B 12 rfl rfl ?_
      refine w_iconst 1 B 13 rfl (by decide) ?_
      refine w_iconst 1 B 14 rfl (by decide) ?_
      refine w_aload_n B 15 rfl 1 1 rfl rfl ?_
      refine w_bipush 120 B 16 rfl (by decide) ?_
      obtain ⟨hk, hf⟩ := gkd_e hf
      obtain ⟨r27, ec, hf⟩ := bd_e hf
      refine w_callV x1 [.int (120 : Int32)] [.int (1 : Int32), .int (1 : Int32), .ref q22, .ref q22] [.int r27.1, .int (1 : Int32), .int (1 : Int32), .ref q22, .ref q22] X B 17 rfl miX7_next 7 (by decide) hk rfl rfl ⟨(iL_drawn _ (List.mem_of_getElem? (i := 5) rfl)), (iL_drawn _ (List.mem_of_getElem? (i := 6) rfl)), (iL_drawn _ (List.mem_of_getElem? (i := 7) rfl))⟩ (ctX7_next ec) (Or.inl ⟨rfl, rfl⟩) ⟨Nat.le_of_ble_eq_true rfl, Nat.le_of_ble_eq_true rfl⟩ rfl rfl (Nat.le_of_ble_eq_true rfl) rfl ?_
      refine w_iadd B 18 rfl ?_
      obtain ⟨hk, hf⟩ := gkd_e hf
      obtain ⟨hx, hf⟩ := gix_e hf
      refine w_iast B 19 rfl hk hx ?_
      obtain ⟨m28, ex, hf⟩ := nm_x hf
      refine w_dmm ex ?_
      refine w_dup B 20 rfl rfl ?_
      refine w_iconst 2 B 21 rfl (by decide) ?_
      refine w_aload_n B 22 rfl 1 1 rfl rfl ?_
      refine w_iconst 4 B 23 rfl (by decide) ?_
      obtain ⟨hk, hf⟩ := gkd_e hf
      obtain ⟨r29, ec, hf⟩ := bd_e hf
      refine w_callV x1 [.int (4 : Int32)] [.int (2 : Int32), .ref q22, .ref q22] [.int r29.1, .int (2 : Int32), .ref q22, .ref q22] X B 24 rfl miX7_next 7 (by decide) hk rfl rfl ⟨(iL_drawn _ (List.mem_of_getElem? (i := 5) rfl)), (iL_drawn _ (List.mem_of_getElem? (i := 6) rfl)), (iL_drawn _ (List.mem_of_getElem? (i := 7) rfl))⟩ (ctX7_next ec) (Or.inl ⟨rfl, rfl⟩) ⟨Nat.le_of_ble_eq_true rfl, Nat.le_of_ble_eq_true rfl⟩ rfl rfl (Nat.le_of_ble_eq_true rfl) rfl ?_
      obtain ⟨hk, hf⟩ := gkd_e hf
      obtain ⟨hx, hf⟩ := gix_e hf
      refine w_iast B 25 rfl hk hx ?_
      obtain ⟨m30, ex, hf⟩ := nm_x hf
      refine w_dmm ex ?_
      refine w_dup B 26 rfl rfl ?_
      refine w_iconst 3 B 27 rfl (by decide) ?_
      refine w_aload_n B 28 rfl 1 1 rfl rfl ?_
      refine w_bipush 6 B 29 rfl (by decide) ?_
      obtain ⟨hk, hf⟩ := gkd_e hf
      obtain ⟨r31, ec, hf⟩ := bd_e hf
      refine w_callV x1 [.int (6 : Int32)] [.int (3 : Int32), .ref q22, .ref q22] [.int r31.1, .int (3 : Int32), .ref q22, .ref q22] X B 30 rfl miX7_next 7 (by decide) hk rfl rfl ⟨(iL_drawn _ (List.mem_of_getElem? (i := 5) rfl)), (iL_drawn _ (List.mem_of_getElem? (i := 6) rfl)), (iL_drawn _ (List.mem_of_getElem? (i := 7) rfl))⟩ (ctX7_next ec) (Or.inl ⟨rfl, rfl⟩) ⟨Nat.le_of_ble_eq_true rfl, Nat.le_of_ble_eq_true rfl⟩ rfl rfl (Nat.le_of_ble_eq_true rfl) rfl ?_
      obtain ⟨hk, hf⟩ := gkd_e hf
      obtain ⟨hx, hf⟩ := gix_e hf
      refine w_iast B 31 rfl hk hx ?_
      obtain ⟨m32, ex, hf⟩ := nm_x hf
      refine w_dmm ex ?_
      refine w_dup B 32 rfl rfl ?_
      refine w_iconst 4 B 33 rfl (by decide) ?_
      refine w_aload_n B 34 rfl 1 1 rfl rfl ?_
      refine w_iconst 2 B 35 rfl (by decide) ?_
      obtain ⟨hk, hf⟩ := gkd_e hf
      obtain ⟨r33, ec, hf⟩ := bd_e hf
      refine w_callV x1 [.int (2 : Int32)] [.int (4 : Int32), .ref q22, .ref q22] [.int r33.1, .int (4 : Int32), .ref q22, .ref q22] X B 36 rfl miX7_next 7 (by decide) hk rfl rfl ⟨(iL_drawn _ (List.mem_of_getElem? (i := 5) rfl)), (iL_drawn _ (List.mem_of_getElem? (i := 6) rfl)), (iL_drawn _ (List.mem_of_getElem? (i := 7) rfl))⟩ (ctX7_next ec) (Or.inl ⟨rfl, rfl⟩) ⟨Nat.le_of_ble_eq_true rfl, Nat.le_of_ble_eq_true rfl⟩ rfl rfl (Nat.le_of_ble_eq_true rfl) rfl ?_
      obtain ⟨hk, hf⟩ := gkd_e hf
      obtain ⟨hx, hf⟩ := gix_e hf
      refine w_iast B 37 rfl hk hx ?_
      obtain ⟨m34, ex, hf⟩ := nm_x hf
      refine w_dmm ex ?_
      refine w_dup B 38 rfl rfl ?_
      refine w_iconst 5 B 39 rfl (by decide) ?_
      refine w_iconst 0 B 40 rfl (by decide) ?_
      obtain ⟨hk, hf⟩ := gkd_e hf
      obtain ⟨hx, hf⟩ := gix_e hf
      refine w_iast B 41 rfl hk hx ?_
      obtain ⟨m35, ex, hf⟩ := nm_x hf
      refine w_dmm ex ?_
      refine w_astore [(6, .ref q22), (0, .ref x0), (1, .ref x1), (2, .null), (3, .ref x3), (4, .int x4), (5, .int x5)] B 42 rfl (by decide) rfl ?_
      refine w_aload_n B 43 rfl 3 4 rfl rfl ?_
      obtain ⟨hk, hf⟩ := gkd_e hf
      obtain ⟨q36, ex, hf⟩ := gtr_e hf
      refine w_getrN B 44 rfl 8 2 x3 (by decide) hk rfl (List.mem_of_getElem? (i := 3) rfl) (Or.inl rfl) ex ?_
      refine w_aload B 45 rfl 0 rfl ?_
      obtain ⟨hk, hf⟩ := gkd_e hf
      obtain ⟨r37, ec, hgd, hf⟩ := bdg_e hf
      refine w_callV q36 [.ref q22] [] [.int r37.1] X B 46 rfl miAL_add 9 (by decide) hk rfl rfl ⟨(iL_drawn _ (List.mem_of_getElem? (i := 12) rfl)), (iL_drawn _ (List.mem_of_getElem? (i := 13) rfl)), (iL_drawn _ (List.mem_of_getElem? (i := 14) rfl))⟩ (ctAL_add ec) (Or.inr ⟨_, _, _, _, hr, hgd⟩) ⟨Nat.le_of_ble_eq_true rfl, Nat.le_of_ble_eq_true rfl⟩ rfl rfl (Nat.le_of_ble_eq_true rfl) rfl ?_
      refine w_pop B 47 rfl rfl ?_
      refine w_aload_n B 48 rfl 3 4 rfl rfl ?_
      obtain ⟨hk, hf⟩ := gkd_e hf
      obtain ⟨q38, ex, hf⟩ := gtr_e hf
      refine w_getrN B 49 rfl 8 3 x3 (by decide) hk rfl (List.mem_of_getElem? (i := 4) rfl) (Or.inl rfl) ex ?_
      obtain ⟨q39, A40, m41, hq, hA, hM, hgd, hf⟩ := alc_e hf
      refine w_new B 50 rfl 9 dfl9 hr hgd hq hA hM (by decide) rfl ⟨(iL_drawn _ (List.mem_of_getElem? (i := 15) rfl)), (iL_drawn _ (List.mem_of_getElem? (i := 16) rfl)), (iL_drawn _ (List.mem_of_getElem? (i := 17) rfl))⟩ dfl9_ok dfl9_cv ?_
      refine w_dup B 51 rfl rfl ?_
      obtain ⟨r42, ec, hf⟩ := bd_e hf
      refine w_callI q39 [] [.ref q39, .ref q38] [.ref q39, .ref q38] X B 52 rfl miAL_init ⟨(iL_drawn _ (List.mem_of_getElem? (i := 18) rfl)), (iL_drawn _ (List.mem_of_getElem? (i := 19) rfl)), rfl⟩ (ctAL_init ec) (Or.inl ⟨rfl, rfl⟩) ⟨Nat.le_of_ble_eq_true rfl, Nat.le_of_ble_eq_true rfl⟩ rfl rfl (Nat.le_of_ble_eq_true rfl) rfl ?_
      obtain ⟨hk, hf⟩ := gkd_e hf
      obtain ⟨r43, ec, hgd, hf⟩ := bdg_e hf
      refine w_callV q38 [.ref q39] [] [.int r43.1] X B 53 rfl miAL_add 9 (by decide) hk rfl rfl ⟨(iL_drawn _ (List.mem_of_getElem? (i := 12) rfl)), (iL_drawn _ (List.mem_of_getElem? (i := 13) rfl)), (iL_drawn _ (List.mem_of_getElem? (i := 14) rfl))⟩ (ctAL_add ec) (Or.inr ⟨_, _, _, _, hr, hgd⟩) ⟨Nat.le_of_ble_eq_true rfl, Nat.le_of_ble_eq_true rfl⟩ rfl rfl (Nat.le_of_ble_eq_true rfl) rfl ?_
      refine w_pop B 54 rfl rfl ?_
      refine w_aload_n B 55 rfl 3 4 rfl rfl ?_
      obtain ⟨hk, hf⟩ := gkd_e hf
      obtain ⟨q44, ex, hf⟩ := gtr_e hf
      refine w_getrN B 56 rfl 8 2 x3 (by decide) hk rfl (List.mem_of_getElem? (i := 3) rfl) (Or.inl rfl) ex ?_
      obtain ⟨hk, hf⟩ := gkd_e hf
      obtain ⟨r45, ec, hf⟩ := bd_e hf
      refine w_callV q44 [] [] [.int r45] X B 57 rfl miAL_size 9 (by decide) hk rfl rfl ⟨(iL_drawn _ (List.mem_of_getElem? (i := 20) rfl)), (iL_drawn _ (List.mem_of_getElem? (i := 21) rfl)), (iL_drawn _ (List.mem_of_getElem? (i := 22) rfl))⟩ (ctAL_size ec) (Or.inl ⟨rfl, rfl⟩) ⟨Nat.le_of_ble_eq_true rfl, Nat.le_of_ble_eq_true rfl⟩ rfl rfl (Nat.le_of_ble_eq_true rfl) rfl ?_
      refine w_iconst 1 B 58 rfl (by decide) ?_
      refine w_isub B 59 rfl ?_
      obtain ⟨v46, ex, hf⟩ := nm_x hf
      refine w_top ex ?_
      refine w_istore [(7, .int v46), (6, .ref q22), (0, .ref x0), (1, .ref x1), (2, .null), (3, .ref x3), (4, .int x4), (5, .int x5)] B 60 rfl (by decide) rfl ?_
      refine w_aloadN_n B 61 rfl 2 4 rfl rfl ?_
      refine w_ifnonnullN B 62 rfl ?_
      refine w_aload_n B 63 rfl 0 2 rfl rfl ?_
      refine w_aload B 64 rfl 1 rfl ?_
      refine w_iconst 0 B 65 rfl (by decide) ?_
      obtain ⟨hk, hf⟩ := gkd_e hf
      obtain ⟨hx, hf⟩ := gix_e hf
      obtain ⟨v47, ex, hf⟩ := gti_e hf
      refine w_iald B 66 rfl hk hx ex ?_
      refine w_aload B 67 rfl 1 rfl ?_
      refine w_iconst 1 B 68 rfl (by decide) ?_
      obtain ⟨hk, hf⟩ := gkd_e hf
      obtain ⟨hx, hf⟩ := gix_e hf
      obtain ⟨v48, ex, hf⟩ := gti_e hf
      refine w_iald B 69 rfl hk hx ex ?_
      refine w_aload B 70 rfl 1 rfl ?_
      refine w_iconst 2 B 71 rfl (by decide) ?_
      obtain ⟨hk, hf⟩ := gkd_e hf
      obtain ⟨hx, hf⟩ := gix_e hf
      obtain ⟨v49, ex, hf⟩ := gti_e hf
      refine w_iald B 72 rfl hk hx ex ?_
      refine w_aload B 73 rfl 1 rfl ?_
      refine w_iconst 3 B 74 rfl (by decide) ?_
      obtain ⟨hk, hf⟩ := gkd_e hf
      obtain ⟨hx, hf⟩ := gix_e hf
      obtain ⟨v50, ex, hf⟩ := gti_e hf
      refine w_iald B 75 rfl hk hx ex ?_
      refine w_aload B 76 rfl 1 rfl ?_
      refine w_iconst 4 B 77 rfl (by decide) ?_
      obtain ⟨hk, hf⟩ := gkd_e hf
      obtain ⟨hx, hf⟩ := gix_e hf
      obtain ⟨v51, ex, hf⟩ := gti_e hf
      refine w_iald B 78 rfl hk hx ex ?_
      refine w_iconst 1 B 79 rfl (by decide) ?_
      by_cases hc : v51 = (1 : Int32)
      · replace hf := (if_pos hc).symm.trans hf
        refine w_icmp_ne_f B 80 rfl 495 (by decide) hc ?_
        refine w_iconst 1 B 82 rfl (by decide) ?_
        refine w_goto B 83 rfl 496 (by decide) ?_
        refine w_sub [(0, .ref x0), (1, .ref x1), (2, .null), (3, .ref x3), (4, .int x4), (5, .int x5), (6, .ref q22)] [2, 3, 4, 5, 6, 7, 1] rfl ?_
        exact bL_drawn_j496_ok X B0 hcd hQ hr ih _ _ _ _ _ _ _ _ _ _ _ _ _ _ _ hf
      · replace hf := (if_neg hc).symm.trans hf
        refine w_icmp_ne_t B 80 rfl 495 (by decide) hc ?_
        refine w_iconst 0 B 81 rfl (by decide) ?_
        refine w_sub [(0, .ref x0), (1, .ref x1), (2, .null), (3, .ref x3), (4, .int x4), (5, .int x5), (6, .ref q22)] [2, 3, 4, 5, 6, 7, 1] rfl ?_
        exact bL_drawn_j496_ok X B0 hcd hQ hr ih _ _ _ _ _ _ _ _ _ _ _ _ _ _ _ hf
    · replace hf := (if_neg hc).symm.trans hf
      refine w_if_le_t B 1 rfl 802 (by decide) hc ?_
      refine w_iconst 0 B 2 rfl (by decide) ?_
      refine w_istore [(5, .int (0 : Int32)), (0, .ref x0), (1, .ref x1), (2, .null), (3, .ref x3), (4, .int x4)] B 3 rfl (by decide) rfl ?_
      refine w_sub [(0, .ref x0), (1, .ref x1), (2, .null), (3, .ref x3), (5, .int (0 : Int32))] [1, 2, 3, 4, 0] rfl ?_
      exact bL_drawn_l805_ok X B0 hcd hQ hr FU _ _ _ _ _ _ _ hf
def bL_drawn_j248 (k161 : Nat → Nat → Nat → Int32 → Int32 → Mem → AS → DM → Option (Nat × Mem × AS × DM)) (k206 : Nat → Nat → Nat → Int32 → Int32 → Int32 → Int32 → Int32 → Mem → AS → DM → Option (Nat × Mem × AS × DM)) (x0 : Nat) (x1 : Nat) (x3 : Nat) (x4 : Int32) (x5 : Int32) (x6 : Int32) (x8 : Int32) (s0 : Int32) (mm : Mem) (A : AS) (dm : DM) : Option (Nat × Mem × AS × DM) := gkd A x3 8 (gtr (dm x3 1) (fun q83 => gkd A q83 9 (bd (bAL_get A dm q83 x5) (fun r84 => gkd A r84 9 (gnn (2 : Int32) (alc (fun (x : Nat × Mem × AS × DM) => x.2.2.1) A dm 20 (2 : Int32).toNatClampNeg (2 : Int32).toNatClampNeg (fun _ => .int 0) (fun q85 A86 m87 => gkd A86 q85 20 (gix A86 q85 (0 : Int32) (nm (up3 m87 q85 (0 : Int32).toNatClampNeg (.int x6)) (fun m88 => gkd A86 q85 20 (gix A86 q85 (1 : Int32) (nm (up3 m88 q85 (1 : Int32).toNatClampNeg (.int s0)) (fun m89 => gkd A86 r84 9 (bdg (fun (x : Nat × Mem × AS × DM) => x.2.2.1) A86 (bAL_add A86 m89 r84 q85) (fun (x : Int32 × AS × DM) => x.2.1) (fun r90 => gob r90.2.1 x0 (bd (f6_point mm x5 x6 s0) (fun r91 => nm (x8 + (-1)) (fun v92 => k206 x0 x1 x3 x4 x5 x6 s0 v92 r91.2 r90.2.1 r90.2.2))))))))))))))))))
def tbbL_drawn_j248 : Tb := [(248, .istore 7, 2, 250), (250, .aload_n 3, 1, 251), (251, .getfield 65, 3, 254), (254, .iload 5, 2, 256), (256, .invokevirtual 91, 3, 259), (259, .checkcast 60, 3, 262), (262, .iconst 2, 1, 263), (263, .newarray .int, 2, 265), (265, .dup, 1, 266), (266, .iconst 0, 1, 267), (267, .iload 6, 2, 269), (269, .iastore, 1, 270), (270, .dup, 1, 271), (271, .iconst 1, 1, 272), (272, .iload 7, 2, 274), (274, .iastore, 1, 275), (275, .invokevirtual 59, 3, 278), (278, .pop, 1, 279), (279, .aload_n 2, 1, 280), (280, .ifnonnull 18, 3, 283), (283, .aload_n 0, 1, 284), (284, .iload 5, 2, 286), (286, .iload 6, 2, 288), (288, .iload 7, 2, 290), (290, .invokevirtual 95, 3, 293), (293, .istore 9, 2, 295), (295, .goto 25, 3, 298), (320, .iinc 8 (-1), 3, 323), (323, .goto (-117), 3, 326)]
theorem dtbL_drawn_j248 : ∀ q ∈ tbbL_drawn_j248, decode cL_drawn q.1 = .ok (q.2.1, q.2.2.1) ∧ q.1 + q.2.2.1 = q.2.2.2 := by decide +kernel
theorem bL_drawn_j248_ok {E : Ev2} {l : Launch} {K : KF} {x : Nat × Mem × AS × DM} {k161 : Nat → Nat → Nat → Int32 → Int32 → Mem → AS → DM → Option (Nat × Mem × AS × DM)} {k206 : Nat → Nat → Nat → Int32 → Int32 → Int32 → Int32 → Int32 → Mem → AS → DM → Option (Nat × Mem × AS × DM)} (X : Ec2 E l K rmFL_drawn rmLL_drawn) (B0 : Bx2 E RL [] 13 (some (.object "ZoneCapacityLaw$Market"))) (hcd : Cd2 E cL_drawn) (hQ : Rt2 E) (hr : Rs2 E (some (.ref x.1)) x.2.1 x.2.2.1 x.2.2.2) (hk161 : ∀ (x0 : Nat) (x1 : Nat) (x3 : Nat) (x4 : Int32) (x5 : Int32) (mm : Mem) (A : AS) (dm : DM), k161 x0 x1 x3 x4 x5 mm A dm = some x → G2 E 13 161 [(0, .ref x0), (1, .ref x1), (2, .null), (3, .ref x3), (4, .int x4), (5, .int x5)] [] mm A dm) (hk206 : ∀ (x0 : Nat) (x1 : Nat) (x3 : Nat) (x4 : Int32) (x5 : Int32) (x6 : Int32) (x7 : Int32) (x8 : Int32) (mm : Mem) (A : AS) (dm : DM), k206 x0 x1 x3 x4 x5 x6 x7 x8 mm A dm = some x → G2 E 13 206 [(0, .ref x0), (1, .ref x1), (2, .null), (3, .ref x3), (4, .int x4), (5, .int x5), (6, .int x6), (7, .int x7), (8, .int x8)] [] mm A dm) (x0 : Nat) (x1 : Nat) (x3 : Nat) (x4 : Int32) (x5 : Int32) (x6 : Int32) (x8 : Int32) (s0 : Int32) (mm : Mem) (A : AS) (dm : DM) (hf : bL_drawn_j248 k161 k206 x0 x1 x3 x4 x5 x6 x8 s0 mm A dm = some x) : G2 E 13 248 [(0, .ref x0), (1, .ref x1), (2, .null), (3, .ref x3), (4, .int x4), (5, .int x5), (6, .int x6), (8, .int x8)] [.int s0] mm A dm := by
  unfold bL_drawn_j248 at hf
  have B := B0.tab hcd dtbL_drawn_j248
  refine w_istore [(7, .int s0), (0, .ref x0), (1, .ref x1), (2, .null), (3, .ref x3), (4, .int x4), (5, .int x5), (6, .int x6), (8, .int x8)] B 0 rfl (by decide) rfl ?_
  refine w_aload_n B 1 rfl 3 4 rfl rfl ?_
  obtain ⟨hk, hf⟩ := gkd_e hf
  obtain ⟨q83, ex, hf⟩ := gtr_e hf
  refine w_getrN B 2 rfl 8 1 x3 (by decide) hk rfl (List.mem_of_getElem? (i := 2) rfl) (Or.inl rfl) ex ?_
  refine w_iload B 3 rfl 6 rfl ?_
  obtain ⟨hk, hf⟩ := gkd_e hf
  obtain ⟨r84, ec, hf⟩ := bd_e hf
  refine w_callV q83 [.int x5] [] [.ref r84] X B 4 rfl miAL_get 9 (by decide) hk rfl rfl ⟨(iL_drawn _ (List.mem_of_getElem? (i := 26) rfl)), (iL_drawn _ (List.mem_of_getElem? (i := 27) rfl)), (iL_drawn _ (List.mem_of_getElem? (i := 28) rfl))⟩ (ctAL_get ec) (Or.inl ⟨rfl, rfl⟩) ⟨Nat.le_of_ble_eq_true rfl, Nat.le_of_ble_eq_true rfl⟩ rfl rfl (Nat.le_of_ble_eq_true rfl) rfl ?_
  obtain ⟨hk, hf⟩ := gkd_e hf
  refine w_castL B 5 rfl hk (iL_drawn _ (List.mem_of_getElem? (i := 15) rfl)) ?_
  refine w_iconst 2 B 6 rfl (by decide) ?_
  obtain ⟨hv, hf⟩ := gnn_e hf
  obtain ⟨q85, A86, m87, hq, hA, hM, hgd, hf⟩ := alc_e hf
  refine w_newI B 7 rfl hr hgd hq hA hM (iL_drawn _ (List.mem_of_getElem? (i := 11) rfl)) hv ?_
  refine w_dup B 8 rfl rfl ?_
  refine w_iconst 0 B 9 rfl (by decide) ?_
  refine w_iload B 10 rfl 7 rfl ?_
  obtain ⟨hk, hf⟩ := gkd_e hf
  obtain ⟨hx, hf⟩ := gix_e hf
  refine w_iast B 11 rfl hk hx ?_
  obtain ⟨m88, ex, hf⟩ := nm_x hf
  refine w_dmm ex ?_
  refine w_dup B 12 rfl rfl ?_
  refine w_iconst 1 B 13 rfl (by decide) ?_
  refine w_iload B 14 rfl 0 rfl ?_
  obtain ⟨hk, hf⟩ := gkd_e hf
  obtain ⟨hx, hf⟩ := gix_e hf
  refine w_iast B 15 rfl hk hx ?_
  obtain ⟨m89, ex, hf⟩ := nm_x hf
  refine w_dmm ex ?_
  obtain ⟨hk, hf⟩ := gkd_e hf
  obtain ⟨r90, ec, hgd, hf⟩ := bdg_e hf
  refine w_callV r84 [.ref q85] [] [.int r90.1] X B 16 rfl miAL_add 9 (by decide) hk rfl rfl ⟨(iL_drawn _ (List.mem_of_getElem? (i := 12) rfl)), (iL_drawn _ (List.mem_of_getElem? (i := 13) rfl)), (iL_drawn _ (List.mem_of_getElem? (i := 14) rfl))⟩ (ctAL_add ec) (Or.inr ⟨_, _, _, _, hr, hgd⟩) ⟨Nat.le_of_ble_eq_true rfl, Nat.le_of_ble_eq_true rfl⟩ rfl rfl (Nat.le_of_ble_eq_true rfl) rfl ?_
  refine w_pop B 17 rfl rfl ?_
  refine w_aloadN_n B 18 rfl 2 3 rfl rfl ?_
  refine w_ifnonnullN B 19 rfl ?_
  refine w_aload_n B 20 rfl 0 1 rfl rfl ?_
  refine w_iload B 21 rfl 6 rfl ?_
  refine w_iload B 22 rfl 7 rfl ?_
  refine w_iload B 23 rfl 0 rfl ?_
  obtain ⟨ho, hf⟩ := gob_e hf
  obtain ⟨r91, ec, hf⟩ := bd_e hf
  refine w_callC x0 [.int x5, .int x6, .int s0] [] [.int r91.1] X B 24 rfl miX6_point rfl ho ⟨(iL_drawn _ (List.mem_of_getElem? (i := 32) rfl)), (iL_drawn _ (List.mem_of_getElem? (i := 33) rfl)), (iL_drawn _ (List.mem_of_getElem? (i := 34) rfl))⟩ (fun hj => ctX6_point hj ec) ⟨Nat.le_of_ble_eq_true rfl, Nat.le_of_ble_eq_true rfl⟩ rfl (fun _ _ => rfl) (fun _ _ => rfl) rfl (Nat.le_of_ble_eq_true rfl) rfl ?_
  refine w_istore [(9, .int r91.1), (7, .int s0), (0, .ref x0), (1, .ref x1), (2, .null), (3, .ref x3), (4, .int x4), (5, .int x5), (6, .int x6), (8, .int x8)] B 25 rfl (by decide) rfl ?_
  refine w_goto B 26 rfl 320 (by decide) ?_
  obtain ⟨v92, ex, hf⟩ := nm_x hf
  refine w_iinc v92 [(8, .int v92), (9, .int r91.1), (7, .int s0), (0, .ref x0), (1, .ref x1), (2, .null), (3, .ref x3), (4, .int x4), (5, .int x5), (6, .int x6)] B 27 rfl 9 rfl (ex.symm) (by decide) rfl ?_
  refine w_goto B 28 rfl 206 (by decide) ?_
  refine w_sub [(0, .ref x0), (1, .ref x1), (2, .null), (3, .ref x3), (4, .int x4), (5, .int x5), (6, .int x6), (7, .int s0), (8, .int v92)] [3, 4, 5, 6, 7, 8, 9, 2, 0] rfl ?_
  exact hk206 _ _ _ _ _ _ _ _ _ _ _ hf
def bL_drawn_l206 (k161 : Nat → Nat → Nat → Int32 → Int32 → Mem → AS → DM → Option (Nat × Mem × AS × DM)) : Nat → Nat → Nat → Nat → Int32 → Int32 → Int32 → Int32 → Int32 → Mem → AS → DM → Option (Nat × Mem × AS × DM)
  | 0, _, _, _, _, _, _, _, _, _, _, _ => none
  | n + 1, x0, x1, x3, x4, x5, x6, x7, x8, mm, A, dm => if 0 < x8 then gkd A x1 7 (bd (bX7_next A dm x1 (90 : Int32)) (fun r79 => nm (x6 + ((1 : Int32) + r79.1)) (fun v80 => gkd A x1 7 (bd (bX7_next A r79.2 x1 (4 : Int32)) (fun r81 => if r81.1 = 0 then bL_drawn_j248 k161 (fun x0 x1 x3 x4 x5 x6 x7 x8 mm9 A9 dm9 => bL_drawn_l206 k161 n x0 x1 x3 x4 x5 x6 x7 x8 mm9 A9 dm9) x0 x1 x3 x4 x5 v80 x8 x7 mm A r81.2 else gkd A x1 7 (bd (bX7_next A r81.2 x1 (x7 + (1 : Int32))) (fun r82 => bL_drawn_j248 k161 (fun x0 x1 x3 x4 x5 x6 x7 x8 mm9 A9 dm9 => bL_drawn_l206 k161 n x0 x1 x3 x4 x5 x6 x7 x8 mm9 A9 dm9) x0 x1 x3 x4 x5 v80 x8 (x7 - r82.1) mm A r82.2))))))) else nm (x5 + 1) (fun v78 => k161 x0 x1 x3 x4 v78 mm A dm)
def tbbL_drawn_l206 : Tb := [(206, .iload 8, 2, 208), (208, .ifCond .le 118, 3, 211), (326, .aload_n 2, 1, 327), (327, .ifnull 23, 3, 330), (350, .iinc 5 1, 3, 353), (353, .goto (-192), 3, 356), (211, .iload 6, 2, 213), (213, .iconst 1, 1, 214), (214, .aload_n 1, 1, 215), (215, .bipush 90, 2, 217), (217, .invokevirtual 49, 3, 220), (220, .iadd, 1, 221), (221, .iadd, 1, 222), (222, .istore 6, 2, 224), (224, .aload_n 1, 1, 225), (225, .iconst 4, 1, 226), (226, .invokevirtual 49, 3, 229), (229, .ifCond .ne 8, 3, 232), (237, .iload 7, 2, 239), (239, .aload_n 1, 1, 240), (240, .iload 7, 2, 242), (242, .iconst 1, 1, 243), (243, .iadd, 1, 244), (244, .invokevirtual 49, 3, 247), (247, .isub, 1, 248), (232, .iload 7, 2, 234), (234, .goto 14, 3, 237)]
theorem dtbL_drawn_l206 : ∀ q ∈ tbbL_drawn_l206, decode cL_drawn q.1 = .ok (q.2.1, q.2.2.1) ∧ q.1 + q.2.2.1 = q.2.2.2 := by decide +kernel
theorem bL_drawn_l206_ok {E : Ev2} {l : Launch} {K : KF} {x : Nat × Mem × AS × DM} {k161 : Nat → Nat → Nat → Int32 → Int32 → Mem → AS → DM → Option (Nat × Mem × AS × DM)} (X : Ec2 E l K rmFL_drawn rmLL_drawn) (B0 : Bx2 E RL [] 13 (some (.object "ZoneCapacityLaw$Market"))) (hcd : Cd2 E cL_drawn) (hQ : Rt2 E) (hr : Rs2 E (some (.ref x.1)) x.2.1 x.2.2.1 x.2.2.2) (hk161 : ∀ (x0 : Nat) (x1 : Nat) (x3 : Nat) (x4 : Int32) (x5 : Int32) (mm : Mem) (A : AS) (dm : DM), k161 x0 x1 x3 x4 x5 mm A dm = some x → G2 E 13 161 [(0, .ref x0), (1, .ref x1), (2, .null), (3, .ref x3), (4, .int x4), (5, .int x5)] [] mm A dm) (n : Nat) : ∀ (x0 : Nat) (x1 : Nat) (x3 : Nat) (x4 : Int32) (x5 : Int32) (x6 : Int32) (x7 : Int32) (x8 : Int32) (mm : Mem) (A : AS) (dm : DM), bL_drawn_l206 k161 n x0 x1 x3 x4 x5 x6 x7 x8 mm A dm = some x → G2 E 13 206 [(0, .ref x0), (1, .ref x1), (2, .null), (3, .ref x3), (4, .int x4), (5, .int x5), (6, .int x6), (7, .int x7), (8, .int x8)] [] mm A dm := by
  induction n with
  | zero =>
    intro x0 x1 x3 x4 x5 x6 x7 x8 mm A dm hf
    rw [bL_drawn_l206] at hf
    cases hf
  | succ n ih =>
    intro x0 x1 x3 x4 x5 x6 x7 x8 mm A dm hf
    rw [bL_drawn_l206] at hf
    have B := B0.tab hcd dtbL_drawn_l206
    refine w_iload B 0 rfl 8 rfl ?_
    by_cases hc : 0 < x8
    · replace hf := (if_pos hc).symm.trans hf
      refine w_if_le_f B 1 rfl 326 (by decide) hc ?_
      refine w_iload B 6 rfl 6 rfl ?_
      refine w_iconst 1 B 7 rfl (by decide) ?_
      refine w_aload_n B 8 rfl 1 1 rfl rfl ?_
      refine w_bipush 90 B 9 rfl (by decide) ?_
      obtain ⟨hk, hf⟩ := gkd_e hf
      obtain ⟨r79, ec, hf⟩ := bd_e hf
      refine w_callV x1 [.int (90 : Int32)] [.int (1 : Int32), .int x6] [.int r79.1, .int (1 : Int32), .int x6] X B 10 rfl miX7_next 7 (by decide) hk rfl rfl ⟨(iL_drawn _ (List.mem_of_getElem? (i := 5) rfl)), (iL_drawn _ (List.mem_of_getElem? (i := 6) rfl)), (iL_drawn _ (List.mem_of_getElem? (i := 7) rfl))⟩ (ctX7_next ec) (Or.inl ⟨rfl, rfl⟩) ⟨Nat.le_of_ble_eq_true rfl, Nat.le_of_ble_eq_true rfl⟩ rfl rfl (Nat.le_of_ble_eq_true rfl) rfl ?_
      refine w_iadd B 11 rfl ?_
      refine w_iadd B 12 rfl ?_
      obtain ⟨v80, ex, hf⟩ := nm_x hf
      refine w_top ex ?_
      refine w_istore [(6, .int v80), (0, .ref x0), (1, .ref x1), (2, .null), (3, .ref x3), (4, .int x4), (5, .int x5), (7, .int x7), (8, .int x8)] B 13 rfl (by decide) rfl ?_
      refine w_aload_n B 14 rfl 1 2 rfl rfl ?_
      refine w_iconst 4 B 15 rfl (by decide) ?_
      obtain ⟨hk, hf⟩ := gkd_e hf
      obtain ⟨r81, ec, hf⟩ := bd_e hf
      refine w_callV x1 [.int (4 : Int32)] [] [.int r81.1] X B 16 rfl miX7_next 7 (by decide) hk rfl rfl ⟨(iL_drawn _ (List.mem_of_getElem? (i := 5) rfl)), (iL_drawn _ (List.mem_of_getElem? (i := 6) rfl)), (iL_drawn _ (List.mem_of_getElem? (i := 7) rfl))⟩ (ctX7_next ec) (Or.inl ⟨rfl, rfl⟩) ⟨Nat.le_of_ble_eq_true rfl, Nat.le_of_ble_eq_true rfl⟩ rfl rfl (Nat.le_of_ble_eq_true rfl) rfl ?_
      by_cases hc : r81.1 = 0
      · replace hf := (if_pos hc).symm.trans hf
        refine w_if_ne_f B 17 rfl 237 (by decide) hc ?_
        refine w_iload B 25 rfl 7 rfl ?_
        refine w_goto B 26 rfl 248 (by decide) ?_
        refine w_sub [(0, .ref x0), (1, .ref x1), (2, .null), (3, .ref x3), (4, .int x4), (5, .int x5), (6, .int v80), (8, .int x8)] [1, 2, 3, 4, 5, 6, 0, 8] rfl ?_
        exact bL_drawn_j248_ok X B0 hcd hQ hr hk161 ih _ _ _ _ _ _ _ _ _ _ _ hf
      · replace hf := (if_neg hc).symm.trans hf
        refine w_if_ne_t B 17 rfl 237 (by decide) hc ?_
        refine w_iload B 18 rfl 7 rfl ?_
        refine w_aload_n B 19 rfl 1 2 rfl rfl ?_
        refine w_iload B 20 rfl 7 rfl ?_
        refine w_iconst 1 B 21 rfl (by decide) ?_
        refine w_iadd B 22 rfl ?_
        obtain ⟨hk, hf⟩ := gkd_e hf
        obtain ⟨r82, ec, hf⟩ := bd_e hf
        refine w_callV x1 [.int (x7 + (1 : Int32))] [.int x7] [.int r82.1, .int x7] X B 23 rfl miX7_next 7 (by decide) hk rfl rfl ⟨(iL_drawn _ (List.mem_of_getElem? (i := 5) rfl)), (iL_drawn _ (List.mem_of_getElem? (i := 6) rfl)), (iL_drawn _ (List.mem_of_getElem? (i := 7) rfl))⟩ (ctX7_next ec) (Or.inl ⟨rfl, rfl⟩) ⟨Nat.le_of_ble_eq_true rfl, Nat.le_of_ble_eq_true rfl⟩ rfl rfl (Nat.le_of_ble_eq_true rfl) rfl ?_
        refine w_isub B 24 rfl ?_
        refine w_sub [(0, .ref x0), (1, .ref x1), (2, .null), (3, .ref x3), (4, .int x4), (5, .int x5), (6, .int v80), (8, .int x8)] [1, 2, 3, 4, 5, 6, 0, 8] rfl ?_
        exact bL_drawn_j248_ok X B0 hcd hQ hr hk161 ih _ _ _ _ _ _ _ _ _ _ _ hf
    · replace hf := (if_neg hc).symm.trans hf
      refine w_if_le_t B 1 rfl 326 (by decide) hc ?_
      refine w_aloadN_n B 2 rfl 2 2 rfl rfl ?_
      refine w_ifnullN B 3 rfl 350 (by decide) ?_
      obtain ⟨v78, ex, hf⟩ := nm_x hf
      refine w_iinc v78 [(5, .int v78), (0, .ref x0), (1, .ref x1), (2, .null), (3, .ref x3), (4, .int x4), (6, .int x6), (7, .int x7), (8, .int x8)] B 4 rfl 5 rfl (ex.symm) (by decide) rfl ?_
      refine w_goto B 5 rfl 161 (by decide) ?_
      refine w_sub [(0, .ref x0), (1, .ref x1), (2, .null), (3, .ref x3), (4, .int x4), (5, .int v78)] [1, 2, 3, 4, 5, 0] rfl ?_
      exact hk161 _ _ _ _ _ _ _ _ hf
def bL_drawn_l161 : Nat → Nat → Nat → Nat → Int32 → Int32 → Mem → AS → DM → Option (Nat × Mem × AS × DM)
  | 0, _, _, _, _, _, _, _, _ => none
  | n + 1, x0, x1, x3, x4, x5, mm, A, dm => if x5 < x4 then gkd A x1 7 (bd (bX7_next A dm x1 (900 : Int32)) (fun r75 => nm ((100 : Int32) + r75.1) (fun v76 => gkd A x1 7 (bd (bX7_next A r75.2 x1 (4 : Int32)) (fun r77 => bL_drawn_l206 (fun x0 x1 x3 x4 x5 mm9 A9 dm9 => bL_drawn_l161 n x0 x1 x3 x4 x5 mm9 A9 dm9) FU x0 x1 x3 x4 x5 (0 : Int32) v76 r77.1 mm A r77.2))))) else gkd A x1 7 (bd (bX7_next A dm x1 (6 : Int32)) (fun r7 => nm ((1 : Int32) + r7.1) (fun v8 => bL_drawn_l366 FU x0 x1 x3 x4 v8 mm A r7.2)))
def tbbL_drawn_l161 : Tb := [(161, .iload 5, 2, 163), (163, .iload 4, 2, 165), (165, .if_icmp .ge 191, 3, 168), (356, .iconst 1, 1, 357), (357, .aload_n 1, 1, 358), (358, .bipush 6, 2, 360), (360, .invokevirtual 49, 3, 363), (363, .iadd, 1, 364), (364, .istore 5, 2, 366), (168, .iconst 0, 1, 169), (169, .istore 6, 2, 171), (171, .bipush 100, 2, 173), (173, .aload_n 1, 1, 174), (174, .sipush 900, 3, 177), (177, .invokevirtual 49, 3, 180), (180, .iadd, 1, 181), (181, .istore 7, 2, 183), (183, .aload_n 2, 1, 184), (184, .ifnull 15, 3, 187), (199, .aload_n 1, 1, 200), (200, .iconst 4, 1, 201), (201, .invokevirtual 49, 3, 204), (204, .istore 8, 2, 206)]
theorem dtbL_drawn_l161 : ∀ q ∈ tbbL_drawn_l161, decode cL_drawn q.1 = .ok (q.2.1, q.2.2.1) ∧ q.1 + q.2.2.1 = q.2.2.2 := by decide +kernel
theorem bL_drawn_l161_ok {E : Ev2} {l : Launch} {K : KF} {x : Nat × Mem × AS × DM} (X : Ec2 E l K rmFL_drawn rmLL_drawn) (B0 : Bx2 E RL [] 13 (some (.object "ZoneCapacityLaw$Market"))) (hcd : Cd2 E cL_drawn) (hQ : Rt2 E) (hr : Rs2 E (some (.ref x.1)) x.2.1 x.2.2.1 x.2.2.2) (n : Nat) : ∀ (x0 : Nat) (x1 : Nat) (x3 : Nat) (x4 : Int32) (x5 : Int32) (mm : Mem) (A : AS) (dm : DM), bL_drawn_l161 n x0 x1 x3 x4 x5 mm A dm = some x → G2 E 13 161 [(0, .ref x0), (1, .ref x1), (2, .null), (3, .ref x3), (4, .int x4), (5, .int x5)] [] mm A dm := by
  induction n with
  | zero =>
    intro x0 x1 x3 x4 x5 mm A dm hf
    rw [bL_drawn_l161] at hf
    cases hf
  | succ n ih =>
    intro x0 x1 x3 x4 x5 mm A dm hf
    rw [bL_drawn_l161] at hf
    have B := B0.tab hcd dtbL_drawn_l161
    refine w_iload B 0 rfl 5 rfl ?_
    refine w_iload B 1 rfl 4 rfl ?_
    by_cases hc : x5 < x4
    · replace hf := (if_pos hc).symm.trans hf
      refine w_icmp_ge_f B 2 rfl 356 (by decide) hc ?_
      refine w_iconst 0 B 9 rfl (by decide) ?_
      refine w_istore [(6, .int (0 : Int32)), (0, .ref x0), (1, .ref x1), (2, .null), (3, .ref x3), (4, .int x4), (5, .int x5)] B 10 rfl (by decide) rfl ?_
      refine w_bipush 100 B 11 rfl (by decide) ?_
      refine w_aload_n B 12 rfl 1 2 rfl rfl ?_
      refine w_sipush 900 B 13 rfl (by decide) ?_
      obtain ⟨hk, hf⟩ := gkd_e hf
      obtain ⟨r75, ec, hf⟩ := bd_e hf
      refine w_callV x1 [.int (900 : Int32)] [.int (100 : Int32)] [.int r75.1, .int (100 : Int32)] X B 14 rfl miX7_next 7 (by decide) hk rfl rfl ⟨(iL_drawn _ (List.mem_of_getElem? (i := 5) rfl)), (iL_drawn _ (List.mem_of_getElem? (i := 6) rfl)), (iL_drawn _ (List.mem_of_getElem? (i := 7) rfl))⟩ (ctX7_next ec) (Or.inl ⟨rfl, rfl⟩) ⟨Nat.le_of_ble_eq_true rfl, Nat.le_of_ble_eq_true rfl⟩ rfl rfl (Nat.le_of_ble_eq_true rfl) rfl ?_
      refine w_iadd B 15 rfl ?_
      obtain ⟨v76, ex, hf⟩ := nm_x hf
      refine w_top ex ?_
      refine w_istore [(7, .int v76), (6, .int (0 : Int32)), (0, .ref x0), (1, .ref x1), (2, .null), (3, .ref x3), (4, .int x4), (5, .int x5)] B 16 rfl (by decide) rfl ?_
      refine w_aloadN_n B 17 rfl 2 4 rfl rfl ?_
      refine w_ifnullN B 18 rfl 199 (by decide) ?_
      refine w_aload_n B 19 rfl 1 3 rfl rfl ?_
      refine w_iconst 4 B 20 rfl (by decide) ?_
      obtain ⟨hk, hf⟩ := gkd_e hf
      obtain ⟨r77, ec, hf⟩ := bd_e hf
      refine w_callV x1 [.int (4 : Int32)] [] [.int r77.1] X B 21 rfl miX7_next 7 (by decide) hk rfl rfl ⟨(iL_drawn _ (List.mem_of_getElem? (i := 5) rfl)), (iL_drawn _ (List.mem_of_getElem? (i := 6) rfl)), (iL_drawn _ (List.mem_of_getElem? (i := 7) rfl))⟩ (ctX7_next ec) (Or.inl ⟨rfl, rfl⟩) ⟨Nat.le_of_ble_eq_true rfl, Nat.le_of_ble_eq_true rfl⟩ rfl rfl (Nat.le_of_ble_eq_true rfl) rfl ?_
      refine w_istore [(8, .int r77.1), (7, .int v76), (6, .int (0 : Int32)), (0, .ref x0), (1, .ref x1), (2, .null), (3, .ref x3), (4, .int x4), (5, .int x5)] B 22 rfl (by decide) rfl ?_
      refine w_sub [(0, .ref x0), (1, .ref x1), (2, .null), (3, .ref x3), (4, .int x4), (5, .int x5), (6, .int (0 : Int32)), (7, .int v76), (8, .int r77.1)] [3, 4, 5, 6, 7, 8, 2, 1, 0] rfl ?_
      exact bL_drawn_l206_ok X B0 hcd hQ hr ih FU _ _ _ _ _ _ _ _ _ _ _ hf
    · replace hf := (if_neg hc).symm.trans hf
      refine w_icmp_ge_t B 2 rfl 356 (by decide) hc ?_
      refine w_iconst 1 B 3 rfl (by decide) ?_
      refine w_aload_n B 4 rfl 1 1 rfl rfl ?_
      refine w_bipush 6 B 5 rfl (by decide) ?_
      obtain ⟨hk, hf⟩ := gkd_e hf
      obtain ⟨r7, ec, hf⟩ := bd_e hf
      refine w_callV x1 [.int (6 : Int32)] [.int (1 : Int32)] [.int r7.1, .int (1 : Int32)] X B 6 rfl miX7_next 7 (by decide) hk rfl rfl ⟨(iL_drawn _ (List.mem_of_getElem? (i := 5) rfl)), (iL_drawn _ (List.mem_of_getElem? (i := 6) rfl)), (iL_drawn _ (List.mem_of_getElem? (i := 7) rfl))⟩ (ctX7_next ec) (Or.inl ⟨rfl, rfl⟩) ⟨Nat.le_of_ble_eq_true rfl, Nat.le_of_ble_eq_true rfl⟩ rfl rfl (Nat.le_of_ble_eq_true rfl) rfl ?_
      refine w_iadd B 7 rfl ?_
      obtain ⟨v8, ex, hf⟩ := nm_x hf
      refine w_top ex ?_
      refine w_istore [(5, .int v8), (0, .ref x0), (1, .ref x1), (2, .null), (3, .ref x3), (4, .int x4)] B 8 rfl (by decide) rfl ?_
      refine w_sub [(0, .ref x0), (1, .ref x1), (2, .null), (3, .ref x3), (4, .int x4), (5, .int v8)] [1, 2, 3, 4, 5, 0] rfl ?_
      exact bL_drawn_l366_ok X B0 hcd hQ hr FU _ _ _ _ _ _ _ _ hf
def bL_drawn_l20 : Nat → Nat → Nat → Nat → Int32 → Int32 → Mem → AS → DM → Option (Nat × Mem × AS × DM)
  | 0, _, _, _, _, _, _, _, _ => none
  | n + 1, x0, x1, x3, x4, x5, mm, A, dm => if x5 < x4 then gnn (3 : Int32) (alc (fun (x : Nat × Mem × AS × DM) => x.2.2.1) A dm 20 (3 : Int32).toNatClampNeg (3 : Int32).toNatClampNeg (fun _ => .int 0) (fun q93 A94 m95 => gkd A94 x1 7 (bd (bX7_next A94 m95 x1 x5) (fun r96 => gkd A94 q93 20 (gix A94 q93 (0 : Int32) (nm (up3 r96.2 q93 (0 : Int32).toNatClampNeg (.int r96.1)) (fun m97 => gkd A94 x1 7 (bd (bX7_next A94 m97 x1 (120 : Int32)) (fun r98 => gkd A94 q93 20 (gix A94 q93 (1 : Int32) (nm (up3 r98.2 q93 (1 : Int32).toNatClampNeg (.int r98.1)) (fun m99 => gkd A94 x1 7 (bd (bX7_next A94 m99 x1 (120 : Int32)) (fun r100 => gkd A94 q93 20 (gix A94 q93 (2 : Int32) (nm (up3 r100.2 q93 (2 : Int32).toNatClampNeg (.int r100.1)) (fun m101 => gkd A94 x3 8 (gtr (m101 x3 0) (fun q102 => gkd A94 q102 9 (bdg (fun (x : Nat × Mem × AS × DM) => x.2.2.1) A94 (bAL_add A94 m101 q102 q93) (fun (x : Int32 × AS × DM) => x.2.1) (fun r103 => gkd r103.2.1 x3 8 (gtr (r103.2.2 x3 1) (fun q104 => alc (fun (x : Nat × Mem × AS × DM) => x.2.2.1) r103.2.1 r103.2.2 9 0 3 dfl9 (fun q105 A106 m107 => bd (bAL_init A106 m107 q105) (fun r108 => gkd A106 q104 9 (bdg (fun (x : Nat × Mem × AS × DM) => x.2.2.1) A106 (bAL_add A106 r108 q104 q105) (fun (x : Int32 × AS × DM) => x.2.1) (fun r109 => gkd r109.2.1 q93 20 (gix r109.2.1 q93 (0 : Int32) (gti (r109.2.2 q93 (0 : Int32).toNatClampNeg) (fun v110 => gkd r109.2.1 q93 20 (gix r109.2.1 q93 (1 : Int32) (gti (r109.2.2 q93 (1 : Int32).toNatClampNeg) (fun v111 => gkd r109.2.1 q93 20 (gix r109.2.1 q93 (2 : Int32) (gti (r109.2.2 q93 (2 : Int32).toNatClampNeg) (fun v112 => gob r109.2.1 x0 (bd (f6_zone mm v110 v111 v112) (fun r113 => nm (x5 + 1) (fun v114 => bL_drawn_l20 n x0 x1 x3 x4 v114 r113.2 r109.2.1 r109.2.2))))))))))))))))))))))))))))))))))))))) else bL_drawn_l161 FU x0 x1 x3 x4 (0 : Int32) mm A dm
def tbbL_drawn_l20 : Tb := [(20, .iload 5, 2, 22), (22, .iload 4, 2, 24), (24, .if_icmp .ge 134, 3, 27), (158, .iconst 0, 1, 159), (159, .istore 5, 2, 161), (27, .iconst 3, 1, 28), (28, .newarray .int, 2, 30), (30, .dup, 1, 31), (31, .iconst 0, 1, 32), (32, .aload_n 1, 1, 33), (33, .iload 5, 2, 35), (35, .invokevirtual 49, 3, 38), (38, .iastore, 1, 39), (39, .dup, 1, 40), (40, .iconst 1, 1, 41), (41, .aload_n 1, 1, 42), (42, .bipush 120, 2, 44), (44, .invokevirtual 49, 3, 47), (47, .iastore, 1, 48), (48, .dup, 1, 49), (49, .iconst 2, 1, 50), (50, .aload_n 1, 1, 51), (51, .bipush 120, 2, 53), (53, .invokevirtual 49, 3, 56), (56, .iastore, 1, 57), (57, .astore 6, 2, 59), (59, .aload_n 3, 1, 60), (60, .getfield 55, 3, 63), (63, .aload 6, 2, 65), (65, .invokevirtual 59, 3, 68), (68, .pop, 1, 69), (69, .aload_n 3, 1, 70), (70, .getfield 65, 3, 73), (73, .new 60, 3, 76), (76, .dup, 1, 77), (77, .invokespecial 68, 3, 80), (80, .invokevirtual 59, 3, 83), (83, .pop, 1, 84), (84, .aload_n 2, 1, 85), (85, .ifnonnull 24, 3, 88), (88, .aload_n 0, 1, 89), (89, .aload 6, 2, 91), (91, .iconst 0, 1, 92), (92, .iaload, 1, 93), (93, .aload 6, 2, 95), (95, .iconst 1, 1, 96), (96, .iaload, 1, 97), (97, .aload 6, 2, 99), (99, .iconst 2, 1, 100), (100, .iaload, 1, 101), (101, .invokevirtual 69, 3, 104), (104, .istore 7, 2, 106), (106, .goto 46, 3, 109), (152, .iinc 5 1, 3, 155), (155, .goto (-135), 3, 158)]
theorem dtbL_drawn_l20 : ∀ q ∈ tbbL_drawn_l20, decode cL_drawn q.1 = .ok (q.2.1, q.2.2.1) ∧ q.1 + q.2.2.1 = q.2.2.2 := by decide +kernel
theorem bL_drawn_l20_ok {E : Ev2} {l : Launch} {K : KF} {x : Nat × Mem × AS × DM} (X : Ec2 E l K rmFL_drawn rmLL_drawn) (B0 : Bx2 E RL [] 13 (some (.object "ZoneCapacityLaw$Market"))) (hcd : Cd2 E cL_drawn) (hQ : Rt2 E) (hr : Rs2 E (some (.ref x.1)) x.2.1 x.2.2.1 x.2.2.2) (n : Nat) : ∀ (x0 : Nat) (x1 : Nat) (x3 : Nat) (x4 : Int32) (x5 : Int32) (mm : Mem) (A : AS) (dm : DM), bL_drawn_l20 n x0 x1 x3 x4 x5 mm A dm = some x → G2 E 13 20 [(0, .ref x0), (1, .ref x1), (2, .null), (3, .ref x3), (4, .int x4), (5, .int x5)] [] mm A dm := by
  induction n with
  | zero =>
    intro x0 x1 x3 x4 x5 mm A dm hf
    rw [bL_drawn_l20] at hf
    cases hf
  | succ n ih =>
    intro x0 x1 x3 x4 x5 mm A dm hf
    rw [bL_drawn_l20] at hf
    have B := B0.tab hcd dtbL_drawn_l20
    refine w_iload B 0 rfl 5 rfl ?_
    refine w_iload B 1 rfl 4 rfl ?_
    by_cases hc : x5 < x4
    · replace hf := (if_pos hc).symm.trans hf
      refine w_icmp_ge_f B 2 rfl 158 (by decide) hc ?_
      refine w_iconst 3 B 5 rfl (by decide) ?_
      obtain ⟨hv, hf⟩ := gnn_e hf
      obtain ⟨q93, A94, m95, hq, hA, hM, hgd, hf⟩ := alc_e hf
      refine w_newI B 6 rfl hr hgd hq hA hM (iL_drawn _ (List.mem_of_getElem? (i := 11) rfl)) hv ?_
      refine w_dup B 7 rfl rfl ?_
      refine w_iconst 0 B 8 rfl (by decide) ?_
      refine w_aload_n B 9 rfl 1 1 rfl rfl ?_
      refine w_iload B 10 rfl 5 rfl ?_
      obtain ⟨hk, hf⟩ := gkd_e hf
      obtain ⟨r96, ec, hf⟩ := bd_e hf
      refine w_callV x1 [.int x5] [.int (0 : Int32), .ref q93, .ref q93] [.int r96.1, .int (0 : Int32), .ref q93, .ref q93] X B 11 rfl miX7_next 7 (by decide) hk rfl rfl ⟨(iL_drawn _ (List.mem_of_getElem? (i := 5) rfl)), (iL_drawn _ (List.mem_of_getElem? (i := 6) rfl)), (iL_drawn _ (List.mem_of_getElem? (i := 7) rfl))⟩ (ctX7_next ec) (Or.inl ⟨rfl, rfl⟩) ⟨Nat.le_of_ble_eq_true rfl, Nat.le_of_ble_eq_true rfl⟩ rfl rfl (Nat.le_of_ble_eq_true rfl) rfl ?_
      obtain ⟨hk, hf⟩ := gkd_e hf
      obtain ⟨hx, hf⟩ := gix_e hf
      refine w_iast B 12 rfl hk hx ?_
      obtain ⟨m97, ex, hf⟩ := nm_x hf
      refine w_dmm ex ?_
      refine w_dup B 13 rfl rfl ?_
      refine w_iconst 1 B 14 rfl (by decide) ?_
      refine w_aload_n B 15 rfl 1 1 rfl rfl ?_
      refine w_bipush 120 B 16 rfl (by decide) ?_
      obtain ⟨hk, hf⟩ := gkd_e hf
      obtain ⟨r98, ec, hf⟩ := bd_e hf
      refine w_callV x1 [.int (120 : Int32)] [.int (1 : Int32), .ref q93, .ref q93] [.int r98.1, .int (1 : Int32), .ref q93, .ref q93] X B 17 rfl miX7_next 7 (by decide) hk rfl rfl ⟨(iL_drawn _ (List.mem_of_getElem? (i := 5) rfl)), (iL_drawn _ (List.mem_of_getElem? (i := 6) rfl)), (iL_drawn _ (List.mem_of_getElem? (i := 7) rfl))⟩ (ctX7_next ec) (Or.inl ⟨rfl, rfl⟩) ⟨Nat.le_of_ble_eq_true rfl, Nat.le_of_ble_eq_true rfl⟩ rfl rfl (Nat.le_of_ble_eq_true rfl) rfl ?_
      obtain ⟨hk, hf⟩ := gkd_e hf
      obtain ⟨hx, hf⟩ := gix_e hf
      refine w_iast B 18 rfl hk hx ?_
      obtain ⟨m99, ex, hf⟩ := nm_x hf
      refine w_dmm ex ?_
      refine w_dup B 19 rfl rfl ?_
      refine w_iconst 2 B 20 rfl (by decide) ?_
      refine w_aload_n B 21 rfl 1 1 rfl rfl ?_
      refine w_bipush 120 B 22 rfl (by decide) ?_
      obtain ⟨hk, hf⟩ := gkd_e hf
      obtain ⟨r100, ec, hf⟩ := bd_e hf
      refine w_callV x1 [.int (120 : Int32)] [.int (2 : Int32), .ref q93, .ref q93] [.int r100.1, .int (2 : Int32), .ref q93, .ref q93] X B 23 rfl miX7_next 7 (by decide) hk rfl rfl ⟨(iL_drawn _ (List.mem_of_getElem? (i := 5) rfl)), (iL_drawn _ (List.mem_of_getElem? (i := 6) rfl)), (iL_drawn _ (List.mem_of_getElem? (i := 7) rfl))⟩ (ctX7_next ec) (Or.inl ⟨rfl, rfl⟩) ⟨Nat.le_of_ble_eq_true rfl, Nat.le_of_ble_eq_true rfl⟩ rfl rfl (Nat.le_of_ble_eq_true rfl) rfl ?_
      obtain ⟨hk, hf⟩ := gkd_e hf
      obtain ⟨hx, hf⟩ := gix_e hf
      refine w_iast B 24 rfl hk hx ?_
      obtain ⟨m101, ex, hf⟩ := nm_x hf
      refine w_dmm ex ?_
      refine w_astore [(6, .ref q93), (0, .ref x0), (1, .ref x1), (2, .null), (3, .ref x3), (4, .int x4), (5, .int x5)] B 25 rfl (by decide) rfl ?_
      refine w_aload_n B 26 rfl 3 4 rfl rfl ?_
      obtain ⟨hk, hf⟩ := gkd_e hf
      obtain ⟨q102, ex, hf⟩ := gtr_e hf
      refine w_getrN B 27 rfl 8 0 x3 (by decide) hk rfl (List.mem_of_getElem? (i := 1) rfl) (Or.inl rfl) ex ?_
      refine w_aload B 28 rfl 0 rfl ?_
      obtain ⟨hk, hf⟩ := gkd_e hf
      obtain ⟨r103, ec, hgd, hf⟩ := bdg_e hf
      refine w_callV q102 [.ref q93] [] [.int r103.1] X B 29 rfl miAL_add 9 (by decide) hk rfl rfl ⟨(iL_drawn _ (List.mem_of_getElem? (i := 12) rfl)), (iL_drawn _ (List.mem_of_getElem? (i := 13) rfl)), (iL_drawn _ (List.mem_of_getElem? (i := 14) rfl))⟩ (ctAL_add ec) (Or.inr ⟨_, _, _, _, hr, hgd⟩) ⟨Nat.le_of_ble_eq_true rfl, Nat.le_of_ble_eq_true rfl⟩ rfl rfl (Nat.le_of_ble_eq_true rfl) rfl ?_
      refine w_pop B 30 rfl rfl ?_
      refine w_aload_n B 31 rfl 3 4 rfl rfl ?_
      obtain ⟨hk, hf⟩ := gkd_e hf
      obtain ⟨q104, ex, hf⟩ := gtr_e hf
      refine w_getrN B 32 rfl 8 1 x3 (by decide) hk rfl (List.mem_of_getElem? (i := 2) rfl) (Or.inl rfl) ex ?_
      obtain ⟨q105, A106, m107, hq, hA, hM, hgd, hf⟩ := alc_e hf
      refine w_new B 33 rfl 9 dfl9 hr hgd hq hA hM (by decide) rfl ⟨(iL_drawn _ (List.mem_of_getElem? (i := 15) rfl)), (iL_drawn _ (List.mem_of_getElem? (i := 16) rfl)), (iL_drawn _ (List.mem_of_getElem? (i := 17) rfl))⟩ dfl9_ok dfl9_cv ?_
      refine w_dup B 34 rfl rfl ?_
      obtain ⟨r108, ec, hf⟩ := bd_e hf
      refine w_callI q105 [] [.ref q105, .ref q104] [.ref q105, .ref q104] X B 35 rfl miAL_init ⟨(iL_drawn _ (List.mem_of_getElem? (i := 18) rfl)), (iL_drawn _ (List.mem_of_getElem? (i := 19) rfl)), rfl⟩ (ctAL_init ec) (Or.inl ⟨rfl, rfl⟩) ⟨Nat.le_of_ble_eq_true rfl, Nat.le_of_ble_eq_true rfl⟩ rfl rfl (Nat.le_of_ble_eq_true rfl) rfl ?_
      obtain ⟨hk, hf⟩ := gkd_e hf
      obtain ⟨r109, ec, hgd, hf⟩ := bdg_e hf
      refine w_callV q104 [.ref q105] [] [.int r109.1] X B 36 rfl miAL_add 9 (by decide) hk rfl rfl ⟨(iL_drawn _ (List.mem_of_getElem? (i := 12) rfl)), (iL_drawn _ (List.mem_of_getElem? (i := 13) rfl)), (iL_drawn _ (List.mem_of_getElem? (i := 14) rfl))⟩ (ctAL_add ec) (Or.inr ⟨_, _, _, _, hr, hgd⟩) ⟨Nat.le_of_ble_eq_true rfl, Nat.le_of_ble_eq_true rfl⟩ rfl rfl (Nat.le_of_ble_eq_true rfl) rfl ?_
      refine w_pop B 37 rfl rfl ?_
      refine w_aloadN_n B 38 rfl 2 3 rfl rfl ?_
      refine w_ifnonnullN B 39 rfl ?_
      refine w_aload_n B 40 rfl 0 1 rfl rfl ?_
      refine w_aload B 41 rfl 0 rfl ?_
      refine w_iconst 0 B 42 rfl (by decide) ?_
      obtain ⟨hk, hf⟩ := gkd_e hf
      obtain ⟨hx, hf⟩ := gix_e hf
      obtain ⟨v110, ex, hf⟩ := gti_e hf
      refine w_iald B 43 rfl hk hx ex ?_
      refine w_aload B 44 rfl 0 rfl ?_
      refine w_iconst 1 B 45 rfl (by decide) ?_
      obtain ⟨hk, hf⟩ := gkd_e hf
      obtain ⟨hx, hf⟩ := gix_e hf
      obtain ⟨v111, ex, hf⟩ := gti_e hf
      refine w_iald B 46 rfl hk hx ex ?_
      refine w_aload B 47 rfl 0 rfl ?_
      refine w_iconst 2 B 48 rfl (by decide) ?_
      obtain ⟨hk, hf⟩ := gkd_e hf
      obtain ⟨hx, hf⟩ := gix_e hf
      obtain ⟨v112, ex, hf⟩ := gti_e hf
      refine w_iald B 49 rfl hk hx ex ?_
      obtain ⟨ho, hf⟩ := gob_e hf
      obtain ⟨r113, ec, hf⟩ := bd_e hf
      refine w_callC x0 [.int v110, .int v111, .int v112] [] [.int r113.1] X B 50 rfl miX6_zone rfl ho ⟨(iL_drawn _ (List.mem_of_getElem? (i := 35) rfl)), (iL_drawn _ (List.mem_of_getElem? (i := 36) rfl)), (iL_drawn _ (List.mem_of_getElem? (i := 37) rfl))⟩ (fun hj => ctX6_zone hj ec) ⟨Nat.le_of_ble_eq_true rfl, Nat.le_of_ble_eq_true rfl⟩ rfl (fun _ _ => rfl) (fun _ _ => rfl) rfl (Nat.le_of_ble_eq_true rfl) rfl ?_
      refine w_istore [(7, .int r113.1), (6, .ref q93), (0, .ref x0), (1, .ref x1), (2, .null), (3, .ref x3), (4, .int x4), (5, .int x5)] B 51 rfl (by decide) rfl ?_
      refine w_goto B 52 rfl 152 (by decide) ?_
      obtain ⟨v114, ex, hf⟩ := nm_x hf
      refine w_iinc v114 [(5, .int v114), (7, .int r113.1), (6, .ref q93), (0, .ref x0), (1, .ref x1), (2, .null), (3, .ref x3), (4, .int x4)] B 53 rfl 7 rfl (ex.symm) (by decide) rfl ?_
      refine w_goto B 54 rfl 20 (by decide) ?_
      refine w_sub [(0, .ref x0), (1, .ref x1), (2, .null), (3, .ref x3), (4, .int x4), (5, .int v114)] [3, 4, 5, 6, 7, 0] rfl ?_
      exact ih _ _ _ _ _ _ _ _ hf
    · replace hf := (if_neg hc).symm.trans hf
      refine w_icmp_ge_t B 2 rfl 158 (by decide) hc ?_
      refine w_iconst 0 B 3 rfl (by decide) ?_
      refine w_istore [(5, .int (0 : Int32)), (0, .ref x0), (1, .ref x1), (2, .null), (3, .ref x3), (4, .int x4)] B 4 rfl (by decide) rfl ?_
      refine w_sub [(0, .ref x0), (1, .ref x1), (2, .null), (3, .ref x3), (4, .int x4), (5, .int (0 : Int32))] [1, 2, 3, 4, 5, 0] rfl ?_
      exact bL_drawn_l161_ok X B0 hcd hQ hr FU _ _ _ _ _ _ _ _ hf
def bL_drawn (mm : Mem) (A : AS) (dm : DM) (a0 : Nat) (a1 : Nat) : Option (Nat × Mem × AS × DM) := alc (fun (x : Nat × Mem × AS × DM) => x.2.2.1) A dm 8 0 10 dfl8 (fun q1 A2 m3 => bdg (fun (x : Nat × Mem × AS × DM) => x.2.2.1) A2 (bX8_init A2 m3 q1) (fun (x : AS × DM) => x.1) (fun r4 => gkd r4.1 a1 7 (bd (bX7_next r4.1 r4.2 a1 (5 : Int32)) (fun r5 => nm ((1 : Int32) + r5.1) (fun v6 => bL_drawn_l20 FU a0 a1 q1 v6 (1 : Int32) mm r4.1 r5.2)))))
def tbbL_drawn_e : Tb := [(0, .new 46, 3, 3), (3, .dup, 1, 4), (4, .invokespecial 48, 3, 7), (7, .astore_n 3, 1, 8), (8, .iconst 1, 1, 9), (9, .aload_n 1, 1, 10), (10, .iconst 5, 1, 11), (11, .invokevirtual 49, 3, 14), (14, .iadd, 1, 15), (15, .istore 4, 2, 17), (17, .iconst 1, 1, 18), (18, .istore 5, 2, 20)]
theorem dtbL_drawn_e : ∀ q ∈ tbbL_drawn_e, decode cL_drawn q.1 = .ok (q.2.1, q.2.2.1) ∧ q.1 + q.2.2.1 = q.2.2.2 := by decide +kernel
theorem ctL_drawn {l : Launch} {K : KF} {mm : Mem} {A : AS} {dm : DM} {a0 : Nat} {a1 : Nat} {x : Nat × Mem × AS × DM} (hf : bL_drawn mm A dm a0 a1 = some x) : Ct2 l K yL_drawn cL_drawn 13 (some (.object "ZoneCapacityLaw$Market")) 6 128 [.ref a0, .ref a1, .null] mm A dm (some (.ref x.1)) x.2.1 x.2.2.1 x.2.2.2 := by
  refine Ct2.of (tb := []) miL_drawn.2.1 miL_drawn.1 (fun _ h => absurd h List.not_mem_nil) (Nat.le_of_ble_eq_true rfl) ?_
  intro E B hQ hr X hI hcd
  clear hI
  have B0 := B
  have B := B0.tab hcd dtbL_drawn_e
  unfold bL_drawn at hf
  show G2 E 13 0 [(0, .ref a0), (1, .ref a1), (2, .null)] [] mm A dm
  obtain ⟨q1, A2, m3, hq, hA, hM, hgd, hf⟩ := alc_e hf
  refine w_new B 0 rfl 8 dfl8 hr hgd hq hA hM (by decide) rfl ⟨(iL_drawn _ (List.mem_of_getElem? (i := 0) rfl)), (iL_drawn _ (List.mem_of_getElem? (i := 1) rfl)), (iL_drawn _ (List.mem_of_getElem? (i := 2) rfl))⟩ dfl8_ok dfl8_cv ?_
  refine w_dup B 1 rfl rfl ?_
  obtain ⟨r4, ec, hgd, hf⟩ := bdg_e hf
  refine w_callI q1 [] [.ref q1] [.ref q1] X B 2 rfl miX8_init ⟨(iL_drawn _ (List.mem_of_getElem? (i := 3) rfl)), (iL_drawn _ (List.mem_of_getElem? (i := 4) rfl)), rfl⟩ (ctX8_init ec) (Or.inr ⟨_, _, _, _, hr, hgd⟩) ⟨Nat.le_of_ble_eq_true rfl, Nat.le_of_ble_eq_true rfl⟩ rfl rfl (Nat.le_of_ble_eq_true rfl) rfl ?_
  refine w_astore_n [(3, .ref q1), (0, .ref a0), (1, .ref a1), (2, .null)] B 3 rfl 3 rfl (by decide) rfl ?_
  refine w_iconst 1 B 4 rfl (by decide) ?_
  refine w_aload_n B 5 rfl 1 2 rfl rfl ?_
  refine w_iconst 5 B 6 rfl (by decide) ?_
  obtain ⟨hk, hf⟩ := gkd_e hf
  obtain ⟨r5, ec, hf⟩ := bd_e hf
  refine w_callV a1 [.int (5 : Int32)] [.int (1 : Int32)] [.int r5.1, .int (1 : Int32)] X B 7 rfl miX7_next 7 (by decide) hk rfl rfl ⟨(iL_drawn _ (List.mem_of_getElem? (i := 5) rfl)), (iL_drawn _ (List.mem_of_getElem? (i := 6) rfl)), (iL_drawn _ (List.mem_of_getElem? (i := 7) rfl))⟩ (ctX7_next ec) (Or.inl ⟨rfl, rfl⟩) ⟨Nat.le_of_ble_eq_true rfl, Nat.le_of_ble_eq_true rfl⟩ rfl rfl (Nat.le_of_ble_eq_true rfl) rfl ?_
  refine w_iadd B 8 rfl ?_
  obtain ⟨v6, ex, hf⟩ := nm_x hf
  refine w_top ex ?_
  refine w_istore [(4, .int v6), (3, .ref q1), (0, .ref a0), (1, .ref a1), (2, .null)] B 9 rfl (by decide) rfl ?_
  refine w_iconst 1 B 10 rfl (by decide) ?_
  refine w_istore [(5, .int (1 : Int32)), (4, .int v6), (3, .ref q1), (0, .ref a0), (1, .ref a1), (2, .null)] B 11 rfl (by decide) rfl ?_
  refine w_sub [(0, .ref a0), (1, .ref a1), (2, .null), (3, .ref q1), (4, .int v6), (5, .int (1 : Int32))] [3, 4, 5, 2, 1, 0] rfl ?_
  exact bL_drawn_l20_ok X B0 hcd hQ hr FU _ _ _ _ _ _ _ _ hf
