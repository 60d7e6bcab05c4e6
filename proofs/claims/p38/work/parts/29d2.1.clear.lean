/-! ZoneCapacityLaw$Market.clear()LZoneCapacityLaw$Market; -/
def tbX8_clear : Tb := [(0, .aload_n 0, 1, 1), (1, .getfield 10, 3, 4), (4, .invokevirtual 41, 3, 7), (7, .istore_n 1, 1, 8), (8, .aload_n 0, 1, 9), (9, .iload_n 1, 1, 10), (10, .newarray .int, 2, 12), (12, .putfield 103, 3, 15), (15, .aload_n 0, 1, 16), (16, .iload_n 1, 1, 17), (17, .newarray .int, 2, 19), (19, .putfield 106, 3, 22), (22, .aload_n 0, 1, 23), (23, .iload_n 1, 1, 24), (24, .newarray .int, 2, 26), (26, .putfield 109, 3, 29), (29, .aload_n 0, 1, 30), (30, .aload_n 0, 1, 31), (31, .getfield 19, 3, 34), (34, .invokevirtual 41, 3, 37), (37, .iconst 4, 1, 38), (38, .multianewarray 112 2, 4, 42), (42, .putfield 114, 3, 45), (45, .iconst 0, 1, 46), (46, .istore_n 2, 1, 47), (47, .iload_n 2, 1, 48), (48, .iload_n 1, 1, 49), (49, .if_icmp .ge 349, 3, 52), (52, .aload_n 0, 1, 53), (53, .getfield 106, 3, 56), (56, .iload_n 2, 1, 57), (57, .iaload, 1, 58), (58, .istore_n 3, 1, 59), (59, .iload_n 2, 1, 60), (60, .ifCond .ne 7, 3, 63), (63, .iconst (-1), 1, 64), (64, .goto 21, 3, 67), (67, .aload_n 0, 1, 68), (68, .getfield 103, 3, 71), (71, .aload_n 0, 1, 72), (72, .getfield 10, 3, 75), (75, .iload_n 2, 1, 76), (76, .invokevirtual 45, 3, 79), (79, .checkcast 49, 3, 82), (82, .iconst 0, 1, 83), (83, .iaload, 1, 84), (84, .iaload, 1, 85), (85, .istore 4, 2, 87), (87, .iload 4, 2, 89), (89, .ifCond .lt 27, 3, 92), (92, .aload_n 0, 1, 93), (93, .iload_n 2, 1, 94), (94, .iload 4, 2, 96), (96, .iconst 0, 1, 97), (97, .invokevirtual 96, 3, 100), (100, .iload_n 3, 1, 101), (101, .if_icmp .gt 15, 3, 104), (104, .aload_n 0, 1, 105), (105, .iload_n 2, 1, 106), (106, .iload 4, 2, 108), (108, .iconst 1, 1, 109), (109, .invokevirtual 96, 3, 112), (112, .iload_n 3, 1, 113), (113, .if_icmp .ge 11, 3, 116), (116, .aload_n 0, 1, 117), (117, .iload_n 2, 1, 118), (118, .iload_n 3, 1, 119), (119, .invokevirtual 117, 3, 122), (122, .istore 4, 2, 124), (124, .aload_n 0, 1, 125), (125, .getfield 103, 3, 128), (128, .iload_n 2, 1, 129), (129, .iload 4, 2, 131), (131, .iastore, 1, 132), (132, .iload_n 3, 1, 133), (133, .aload_n 0, 1, 134), (134, .iload_n 2, 1, 135), (135, .iload 4, 2, 137), (137, .iconst 0, 1, 138), (138, .invokevirtual 96, 3, 141), (141, .isub, 1, 142), (142, .istore 5, 2, 144), (144, .iconst 0, 1, 145), (145, .istore 6, 2, 147), (147, .iload 6, 2, 149), (149, .aload_n 0, 1, 150), (150, .getfield 19, 3, 153), (153, .invokevirtual 41, 3, 156), (156, .if_icmp .ge 124, 3, 159), (159, .iconst 0, 1, 160), (160, .istore 7, 2, 162), (162, .iload 7, 2, 164), (164, .iconst 4, 1, 165), (165, .if_icmp .ge 109, 3, 168), (168, .aload_n 0, 1, 169), (169, .getfield 19, 3, 172), (172, .iload 6, 2, 174), (174, .invokevirtual 45, 3, 177), (177, .checkcast 49, 3, 180), (180, .iconst 0, 1, 181), (181, .iaload, 1, 182), (182, .iload_n 2, 1, 183), (183, .if_icmp .ne 91, 3, 186), (186, .aload_n 0, 1, 187), (187, .iload 6, 2, 189), (189, .iload 7, 2, 191), (191, .invokevirtual 92, 3, 194), (194, .astore 8, 2, 196), (196, .aload 8, 2, 198), (198, .iconst 1, 1, 199), (199, .iaload, 1, 200), (200, .iload 4, 2, 202), (202, .if_icmp .ge 10, 3, 205), (205, .aload 8, 2, 207), (207, .iconst 0, 1, 208), (208, .iaload, 1, 209), (209, .goto 25, 3, 212), (212, .aload 8, 2, 214), (214, .iconst 1, 1, 215), (215, .iaload, 1, 216), (216, .iload 4, 2, 218), (218, .if_icmp .le 7, 3, 221), (221, .iconst 0, 1, 222), (222, .goto 12, 3, 225), (225, .aload 8, 2, 227), (227, .iconst 0, 1, 228), (228, .iaload, 1, 229), (229, .iload 5, 2, 231), (231, .invokestatic 86, 3, 234), (234, .istore 9, 2, 236), (236, .iload 5, 2, 238), (238, .aload 8, 2, 240), (240, .iconst 1, 1, 241), (241, .iaload, 1, 242), (242, .iload 4, 2, 244), (244, .if_icmp .ne 8, 3, 247), (247, .iload 9, 2, 249), (249, .goto 4, 3, 252), (252, .iconst 0, 1, 253), (253, .isub, 1, 254), (254, .istore 5, 2, 256), (256, .aload_n 0, 1, 257), (257, .getfield 114, 3, 260), (260, .iload 6, 2, 262), (262, .aaload, 1, 263), (263, .iload 7, 2, 265), (265, .iload 9, 2, 267), (267, .iastore, 1, 268), (268, .iinc 7 1, 3, 271), (271, .goto (-109), 3, 274), (274, .iinc 6 1, 3, 277), (277, .goto (-130), 3, 280), (280, .iload_n 2, 1, 281), (281, .iconst 1, 1, 282), (282, .iadd, 1, 283), (283, .istore 6, 2, 285), (285, .iload 6, 2, 287), (287, .iload_n 1, 1, 288), (288, .if_icmp .ge 88, 3, 291), (291, .aload_n 0, 1, 292), (292, .getfield 10, 3, 295), (295, .iload 6, 2, 297), (297, .invokevirtual 45, 3, 300), (300, .checkcast 49, 3, 303), (303, .iconst 0, 1, 304), (304, .iaload, 1, 305), (305, .iload_n 2, 1, 306), (306, .if_icmp .ne 64, 3, 309), (309, .aload_n 0, 1, 310), (310, .iload 6, 2, 312), (312, .aload_n 0, 1, 313), (313, .iload 6, 2, 315), (315, .iload 4, 2, 317), (317, .iconst 0, 1, 318), (318, .invokevirtual 96, 3, 321), (321, .invokevirtual 100, 3, 324), (324, .istore 7, 2, 326), (326, .iload 5, 2, 328), (328, .aload_n 0, 1, 329), (329, .iload 6, 2, 331), (331, .aload_n 0, 1, 332), (332, .iload 6, 2, 334), (334, .iload 4, 2, 336), (336, .iconst 1, 1, 337), (337, .invokevirtual 96, 3, 340), (340, .invokevirtual 100, 3, 343), (343, .iload 7, 2, 345), (345, .isub, 1, 346), (346, .invokestatic 86, 3, 349), (349, .istore 8, 2, 351), (351, .aload_n 0, 1, 352), (352, .getfield 106, 3, 355), (355, .iload 6, 2, 357), (357, .iload 7, 2, 359), (359, .iload 8, 2, 361), (361, .iadd, 1, 362), (362, .iastore, 1, 363), (363, .iload 5, 2, 365), (365, .iload 8, 2, 367), (367, .isub, 1, 368), (368, .istore 5, 2, 370), (370, .iinc 6 1, 3, 373), (373, .goto (-88), 3, 376), (376, .aload_n 0, 1, 377), (377, .getfield 109, 3, 380), (380, .iload_n 2, 1, 381), (381, .aload_n 0, 1, 382), (382, .iload_n 2, 1, 383), (383, .iload 4, 2, 385), (385, .invokevirtual 89, 3, 388), (388, .iload 5, 2, 390), (390, .isub, 1, 391), (391, .iastore, 1, 392), (392, .iinc 2 1, 3, 395), (395, .goto (-348), 3, 398), (398, .aload_n 0, 1, 399), (399, .areturn, 1, 400)]
theorem dtX8_clear : ∀ q ∈ tbX8_clear, decode cX8_clear q.1 = .ok (q.2.1, q.2.2.1) ∧ q.1 + q.2.2.1 = q.2.2.2 := by decide +kernel
theorem miX8_clear : MI yX8_clear cX8_clear 10 (some (.object "ZoneCapacityLaw$Market")) 0 := ⟨tw_mem (List.mem_of_getElem? (i := 985) (by decide +kernel)) rfl, by decide, by decide +kernel, tw_mem (List.mem_of_getElem? (i := 21) (by decide +kernel)) rfl⟩
abbrev rmFX8_clear : Nat := 13
abbrev rmLX8_clear : Nat := 332
def wX8_clear : List Cond := [.fieldLink "ZoneCapacityLaw$Market" 10 "ZoneCapacityLaw$Market" "zones" "Ljava/util/ArrayList;", .methodLink "ZoneCapacityLaw$Market" 41 yJx4a65c_size_8abf5, .instanceMethod yJx4a65c_size_8abf5, .selects "java/util/ArrayList" yJx4a65c_size_8abf5 yJx4a65c_size_8abf5, .arrayClass .int, .fieldLink "ZoneCapacityLaw$Market" 103 "ZoneCapacityLaw$Market" "prices" "[I", .fieldLink "ZoneCapacityLaw$Market" 106 "ZoneCapacityLaw$Market" "nets" "[I", .fieldLink "ZoneCapacityLaw$Market" 109 "ZoneCapacityLaw$Market" "served" "[I", .fieldLink "ZoneCapacityLaw$Market" 19 "ZoneCapacityLaw$Market" "resources" "Ljava/util/ArrayList;", .classLink "ZoneCapacityLaw$Market" 112 "[[I", .fieldLink "ZoneCapacityLaw$Market" 114 "ZoneCapacityLaw$Market" "taken" "[[I", .methodLink "ZoneCapacityLaw$Market" 45 yJx4a65c_get_915e3, .instanceMethod yJx4a65c_get_915e3, .selects "java/util/ArrayList" yJx4a65c_get_915e3 yJx4a65c_get_915e3, .classLink "ZoneCapacityLaw$Market" 49 "[I", .methodLink "ZoneCapacityLaw$Market" 117 yX8_leastPrice, .instanceMethod yX8_leastPrice, .selects "ZoneCapacityLaw$Market" yX8_leastPrice yX8_leastPrice, .methodLink "ZoneCapacityLaw$Market" 96 yX8_level, .instanceMethod yX8_level, .selects "ZoneCapacityLaw$Market" yX8_level yX8_level, .methodLink "ZoneCapacityLaw$Market" 89 yX8_wants, .instanceMethod yX8_wants, .selects "ZoneCapacityLaw$Market" yX8_wants yX8_wants, .methodLink "ZoneCapacityLaw$Market" 100 yX8_cut, .instanceMethod yX8_cut, .selects "ZoneCapacityLaw$Market" yX8_cut yX8_cut, .methodLink "ZoneCapacityLaw$Market" 86 Lib.Math.min.name, .static Lib.Math.min.name, .initialized "java/lang/Math", .code Lib.Math.min.name Lib.Math.min.code 2 (some .int), .methodLink "ZoneCapacityLaw$Market" 92 yX8_line, .instanceMethod yX8_line, .selects "ZoneCapacityLaw$Market" yX8_line yX8_line]
theorem iX8_clear : ∀ w ∈ wX8_clear, w ∈ TW := tw_of (ids := [542, 819, 775, 776, 98, 555, 557, 559, 546, 986, 561, 814, 762, 763, 820, 988, 990, 12, 966, 849, 850, 852, 835, 836, 967, 968, 969, 858, 357, 26, 358, 853, 854, 855]) (by decide +kernel)
def bX8_clear_j370 (k47 : Nat → Int32 → Int32 → AS → DM → Option (Nat × AS × DM)) (k285 : Nat → Int32 → Int32 → Int32 → Int32 → Int32 → AS → DM → Option (Nat × AS × DM)) (x0 : Nat) (x1 : Int32) (x2 : Int32) (x4 : Int32) (x5 : Int32) (x6 : Int32) (A : AS) (dm : DM) : Option (Nat × AS × DM) := nm (x6 + 1) (fun v43 => k285 x0 x1 x2 x4 x5 v43 A dm)
theorem bX8_clear_j370_ok {E : Ev2} {l : Launch} {K : KF} {mm : Mem} {x : Nat × AS × DM} {k47 : Nat → Int32 → Int32 → AS → DM → Option (Nat × AS × DM)} {k285 : Nat → Int32 → Int32 → Int32 → Int32 → Int32 → AS → DM → Option (Nat × AS × DM)} (X : Ec2 E l K rmFX8_clear rmLX8_clear) (B : Bx2 E RX8 tbX8_clear 10 (some (.object "ZoneCapacityLaw$Market"))) (hQ : Rt2 E) (hr : Rs2 E (some (.ref x.1)) mm x.2.1 x.2.2) (hk47 : ∀ (x0 : Nat) (x1 : Int32) (x2 : Int32) (A : AS) (dm : DM), k47 x0 x1 x2 A dm = some x → G2 E 10 47 [(0, .ref x0), (1, .int x1), (2, .int x2)] [] mm A dm) (hk285 : ∀ (x0 : Nat) (x1 : Int32) (x2 : Int32) (x4 : Int32) (x5 : Int32) (x6 : Int32) (A : AS) (dm : DM), k285 x0 x1 x2 x4 x5 x6 A dm = some x → G2 E 10 285 [(0, .ref x0), (1, .int x1), (2, .int x2), (4, .int x4), (5, .int x5), (6, .int x6)] [] mm A dm) (x0 : Nat) (x1 : Int32) (x2 : Int32) (x4 : Int32) (x5 : Int32) (x6 : Int32) (A : AS) (dm : DM) (hf : bX8_clear_j370 k47 k285 x0 x1 x2 x4 x5 x6 A dm = some x) : G2 E 10 370 [(0, .ref x0), (1, .int x1), (2, .int x2), (4, .int x4), (5, .int x5), (6, .int x6)] [] mm A dm := by
  unfold bX8_clear_j370 at hf
  obtain ⟨v43, ex, hf⟩ := nm_x hf
  refine w_iinc v43 [(6, .int v43), (0, .ref x0), (1, .int x1), (2, .int x2), (4, .int x4), (5, .int x5)] B 201 rfl 5 rfl (ex.symm) (by decide) rfl ?_
  refine w_goto B 202 rfl 285 (by decide) ?_
  refine w_sub [(0, .ref x0), (1, .int x1), (2, .int x2), (4, .int x4), (5, .int x5), (6, .int v43)] [1, 2, 3, 4, 5, 0] rfl ?_
  exact hk285 _ _ _ _ _ _ _ _ hf
def bX8_clear_l285 (k47 : Nat → Int32 → Int32 → AS → DM → Option (Nat × AS × DM)) : Nat → Nat → Int32 → Int32 → Int32 → Int32 → Int32 → AS → DM → Option (Nat × AS × DM)
  | 0, _, _, _, _, _, _, _, _ => none
  | n + 1, x0, x1, x2, x4, x5, x6, A, dm => if x6 < x1 then gkd A x0 8 (gtr (dm x0 0) (fun q40 => gkd A q40 9 (bd (bAL_get A dm q40 x6) (fun r41 => gkd A r41 20 (gkd A r41 20 (gix A r41 (0 : Int32) (gti (dm r41 (0 : Int32).toNatClampNeg) (fun v42 => if v42 = x2 then gkd A x0 8 (bdg (fun (x : Nat × AS × DM) => x.2.1) A (bX8_level 6 A dm x0 x6 x4 (0 : Int32)) (fun (x : Int32 × AS × DM) => x.2.1) (fun r44 => gkd r44.2.1 x0 8 (bd (bX8_cut r44.2.1 r44.2.2 x0 x6 r44.1) (fun r45 => gkd r44.2.1 x0 8 (bdg (fun (x : Nat × AS × DM) => x.2.1) r44.2.1 (bX8_level 6 r44.2.1 r44.2.2 x0 x6 x4 (1 : Int32)) (fun (x : Int32 × AS × DM) => x.2.1) (fun r46 => gkd r46.2.1 x0 8 (bd (bX8_cut r46.2.1 r46.2.2 x0 x6 r46.1) (fun r47 => nm (mni x5 (r47 - r45)) (fun v48 => gkd r46.2.1 x0 8 (gtr (r46.2.2 x0 7) (fun q49 => gkd r46.2.1 q49 20 (gix r46.2.1 q49 x6 (nm (up3 r46.2.2 q49 x6.toNatClampNeg (.int (r45 + v48))) (fun m50 => nm (x5 - v48) (fun v51 => bX8_clear_j370 k47 (fun x0 x1 x2 x4 x5 x6 A9 dm9 => bX8_clear_l285 k47 n x0 x1 x2 x4 x5 x6 A9 dm9) x0 x1 x2 x4 v51 x6 r46.2.1 m50))))))))))))))) else bX8_clear_j370 k47 (fun x0 x1 x2 x4 x5 x6 A9 dm9 => bX8_clear_l285 k47 n x0 x1 x2 x4 x5 x6 A9 dm9) x0 x1 x2 x4 x5 x6 A dm)))))))) else gkd A x0 8 (gtr (dm x0 8) (fun q36 => gkd A x0 8 (bdg (fun (x : Nat × AS × DM) => x.2.1) A (bX8_wants A dm x0 x2 x4) (fun (x : Int32 × AS × DM) => x.2.1) (fun r37 => gkd r37.2.1 q36 20 (gix r37.2.1 q36 x2 (nm (up3 r37.2.2 q36 x2.toNatClampNeg (.int (r37.1 - x5))) (fun m38 => nm (x2 + 1) (fun v39 => k47 x0 x1 v39 r37.2.1 m38))))))))
theorem bX8_clear_l285_ok {E : Ev2} {l : Launch} {K : KF} {mm : Mem} {x : Nat × AS × DM} {k47 : Nat → Int32 → Int32 → AS → DM → Option (Nat × AS × DM)} (X : Ec2 E l K rmFX8_clear rmLX8_clear) (B : Bx2 E RX8 tbX8_clear 10 (some (.object "ZoneCapacityLaw$Market"))) (hQ : Rt2 E) (hr : Rs2 E (some (.ref x.1)) mm x.2.1 x.2.2) (hk47 : ∀ (x0 : Nat) (x1 : Int32) (x2 : Int32) (A : AS) (dm : DM), k47 x0 x1 x2 A dm = some x → G2 E 10 47 [(0, .ref x0), (1, .int x1), (2, .int x2)] [] mm A dm) (n : Nat) : ∀ (x0 : Nat) (x1 : Int32) (x2 : Int32) (x4 : Int32) (x5 : Int32) (x6 : Int32) (A : AS) (dm : DM), bX8_clear_l285 k47 n x0 x1 x2 x4 x5 x6 A dm = some x → G2 E 10 285 [(0, .ref x0), (1, .int x1), (2, .int x2), (4, .int x4), (5, .int x5), (6, .int x6)] [] mm A dm := by
  induction n with
  | zero =>
    intro x0 x1 x2 x4 x5 x6 A dm hf
    rw [bX8_clear_l285] at hf
    cases hf
  | succ n ih =>
    intro x0 x1 x2 x4 x5 x6 A dm hf
    rw [bX8_clear_l285] at hf
    refine w_iload B 156 rfl 5 rfl ?_
    refine w_iload_n B 157 rfl 1 1 rfl rfl ?_
    by_cases hc : x6 < x1
    · replace hf := (if_pos hc).symm.trans hf
      refine w_icmp_ge_f B 158 rfl 376 (by decide) hc ?_
      refine w_aload_n B 159 rfl 0 0 rfl rfl ?_
      obtain ⟨hk, hf⟩ := gkd_e hf
      obtain ⟨q40, ex, hf⟩ := gtr_e hf
      refine w_getr B 160 rfl 8 0 x0 (by decide) hk rfl (iX8_clear _ (List.mem_of_getElem? (i := 0) rfl)) (Or.inl rfl) ex ?_
      refine w_iload B 161 rfl 5 rfl ?_
      obtain ⟨hk, hf⟩ := gkd_e hf
      obtain ⟨r41, ec, hf⟩ := bd_e hf
      refine w_callV q40 [.int x6] [] [.ref r41] X B 162 rfl miAL_get 9 (by decide) hk rfl rfl ⟨(iX8_clear _ (List.mem_of_getElem? (i := 11) rfl)), (iX8_clear _ (List.mem_of_getElem? (i := 12) rfl)), (iX8_clear _ (List.mem_of_getElem? (i := 13) rfl))⟩ (ctAL_get ec) (Or.inl ⟨rfl, rfl⟩) ⟨Nat.le_of_ble_eq_true rfl, Nat.le_of_ble_eq_true rfl⟩ rfl rfl (Nat.le_of_ble_eq_true rfl) rfl ?_
      obtain ⟨hk, hf⟩ := gkd_e hf
      refine w_castI B 163 rfl hk (iX8_clear _ (List.mem_of_getElem? (i := 14) rfl)) ?_
      refine w_iconst 0 B 164 rfl (by decide) ?_
      obtain ⟨hk, hf⟩ := gkd_e hf
      obtain ⟨hx, hf⟩ := gix_e hf
      obtain ⟨v42, ex, hf⟩ := gti_e hf
      refine w_iald B 165 rfl hk hx ex ?_
      refine w_iload_n B 166 rfl 2 2 rfl rfl ?_
      by_cases hc : v42 = x2
      · replace hf := (if_pos hc).symm.trans hf
        refine w_icmp_ne_f B 167 rfl 370 (by decide) hc ?_
        refine w_aload_n B 168 rfl 0 0 rfl rfl ?_
        refine w_iload B 169 rfl 5 rfl ?_
        refine w_aload_n B 170 rfl 0 0 rfl rfl ?_
        refine w_iload B 171 rfl 5 rfl ?_
        refine w_iload B 172 rfl 3 rfl ?_
        refine w_iconst 0 B 173 rfl (by decide) ?_
        obtain ⟨hk, hf⟩ := gkd_e hf
        obtain ⟨r44, ec, hgd, hf⟩ := bdg_e hf
        refine w_callV x0 [.int x6, .int x4, .int (0 : Int32)] [.int x6, .ref x0] [.int r44.1, .int x6, .ref x0] X B 174 rfl miX8_level 8 (by decide) hk rfl rfl ⟨(iX8_clear _ (List.mem_of_getElem? (i := 18) rfl)), (iX8_clear _ (List.mem_of_getElem? (i := 19) rfl)), (iX8_clear _ (List.mem_of_getElem? (i := 20) rfl))⟩ (ctX8_level ec) (Or.inr ⟨_, _, _, _, hr, hgd⟩) ⟨Nat.le_of_ble_eq_true rfl, Nat.le_of_ble_eq_true rfl⟩ rfl rfl (Nat.le_of_ble_eq_true rfl) rfl ?_
        obtain ⟨hk, hf⟩ := gkd_e hf
        obtain ⟨r45, ec, hf⟩ := bd_e hf
        refine w_callV x0 [.int x6, .int r44.1] [] [.int r45] X B 175 rfl miX8_cut 8 (by decide) hk rfl rfl ⟨(iX8_clear _ (List.mem_of_getElem? (i := 24) rfl)), (iX8_clear _ (List.mem_of_getElem? (i := 25) rfl)), (iX8_clear _ (List.mem_of_getElem? (i := 26) rfl))⟩ (ctX8_cut ec) (Or.inl ⟨rfl, rfl⟩) ⟨Nat.le_of_ble_eq_true rfl, Nat.le_of_ble_eq_true rfl⟩ rfl rfl (Nat.le_of_ble_eq_true rfl) rfl ?_
        refine w_istore [(7, .int r45), (0, .ref x0), (1, .int x1), (2, .int x2), (4, .int x4), (5, .int x5), (6, .int x6)] B 176 rfl (by decide) rfl ?_
        refine w_iload B 177 rfl 5 rfl ?_
        refine w_aload_n B 178 rfl 0 1 rfl rfl ?_
        refine w_iload B 179 rfl 6 rfl ?_
        refine w_aload_n B 180 rfl 0 1 rfl rfl ?_
        refine w_iload B 181 rfl 6 rfl ?_
        refine w_iload B 182 rfl 4 rfl ?_
        refine w_iconst 1 B 183 rfl (by decide) ?_
        obtain ⟨hk, hf⟩ := gkd_e hf
        obtain ⟨r46, ec, hgd, hf⟩ := bdg_e hf
        refine w_callV x0 [.int x6, .int x4, .int (1 : Int32)] [.int x6, .ref x0, .int x5] [.int r46.1, .int x6, .ref x0, .int x5] X B 184 rfl miX8_level 8 (by decide) hk rfl rfl ⟨(iX8_clear _ (List.mem_of_getElem? (i := 18) rfl)), (iX8_clear _ (List.mem_of_getElem? (i := 19) rfl)), (iX8_clear _ (List.mem_of_getElem? (i := 20) rfl))⟩ (ctX8_level ec) (Or.inr ⟨_, _, _, _, hr, hgd⟩) ⟨Nat.le_of_ble_eq_true rfl, Nat.le_of_ble_eq_true rfl⟩ rfl rfl (Nat.le_of_ble_eq_true rfl) rfl ?_
        obtain ⟨hk, hf⟩ := gkd_e hf
        obtain ⟨r47, ec, hf⟩ := bd_e hf
        refine w_callV x0 [.int x6, .int r46.1] [.int x5] [.int r47, .int x5] X B 185 rfl miX8_cut 8 (by decide) hk rfl rfl ⟨(iX8_clear _ (List.mem_of_getElem? (i := 24) rfl)), (iX8_clear _ (List.mem_of_getElem? (i := 25) rfl)), (iX8_clear _ (List.mem_of_getElem? (i := 26) rfl))⟩ (ctX8_cut ec) (Or.inl ⟨rfl, rfl⟩) ⟨Nat.le_of_ble_eq_true rfl, Nat.le_of_ble_eq_true rfl⟩ rfl rfl (Nat.le_of_ble_eq_true rfl) rfl ?_
        refine w_iload B 186 rfl 0 rfl ?_
        refine w_isub B 187 rfl ?_
        refine w_mmin X B 188 rfl ⟨(iX8_clear _ (List.mem_of_getElem? (i := 27) rfl)), (iX8_clear _ (List.mem_of_getElem? (i := 28) rfl)), (iX8_clear _ (List.mem_of_getElem? (i := 29) rfl)), (iX8_clear _ (List.mem_of_getElem? (i := 30) rfl))⟩ ⟨Nat.le_of_ble_eq_true rfl, Nat.le_of_ble_eq_true rfl⟩ (Nat.le_of_ble_eq_true rfl) ?_
        obtain ⟨v48, ex, hf⟩ := nm_x hf
        refine w_top ex ?_
        refine w_istore [(8, .int v48), (7, .int r45), (0, .ref x0), (1, .int x1), (2, .int x2), (4, .int x4), (5, .int x5), (6, .int x6)] B 189 rfl (by decide) rfl ?_
        refine w_aload_n B 190 rfl 0 2 rfl rfl ?_
        obtain ⟨hk, hf⟩ := gkd_e hf
        obtain ⟨q49, ex, hf⟩ := gtr_e hf
        refine w_getr B 191 rfl 8 7 x0 (by decide) hk rfl (iX8_clear _ (List.mem_of_getElem? (i := 6) rfl)) (Or.inl rfl) ex ?_
        refine w_iload B 192 rfl 7 rfl ?_
        refine w_iload B 193 rfl 1 rfl ?_
        refine w_iload B 194 rfl 0 rfl ?_
        refine w_iadd B 195 rfl ?_
        obtain ⟨hk, hf⟩ := gkd_e hf
        obtain ⟨hx, hf⟩ := gix_e hf
        refine w_iast B 196 rfl hk hx ?_
        obtain ⟨m50, ex, hf⟩ := nm_x hf
        refine w_dmm ex ?_
        refine w_iload B 197 rfl 6 rfl ?_
        refine w_iload B 198 rfl 0 rfl ?_
        refine w_isub B 199 rfl ?_
        obtain ⟨v51, ex, hf⟩ := nm_x hf
        refine w_top ex ?_
        refine w_istore [(5, .int v51), (8, .int v48), (7, .int r45), (0, .ref x0), (1, .int x1), (2, .int x2), (4, .int x4), (6, .int x6)] B 200 rfl (by decide) rfl ?_
        refine w_sub [(0, .ref x0), (1, .int x1), (2, .int x2), (4, .int x4), (5, .int v51), (6, .int x6)] [3, 4, 5, 6, 0, 7] rfl ?_
        exact bX8_clear_j370_ok X B hQ hr hk47 ih _ _ _ _ _ _ _ _ hf
      · replace hf := (if_neg hc).symm.trans hf
        refine w_icmp_ne_t B 167 rfl 370 (by decide) hc ?_
        exact bX8_clear_j370_ok X B hQ hr hk47 ih _ _ _ _ _ _ _ _ hf
    · replace hf := (if_neg hc).symm.trans hf
      refine w_icmp_ge_t B 158 rfl 376 (by decide) hc ?_
      refine w_aload_n B 203 rfl 0 0 rfl rfl ?_
      obtain ⟨hk, hf⟩ := gkd_e hf
      obtain ⟨q36, ex, hf⟩ := gtr_e hf
      refine w_getr B 204 rfl 8 8 x0 (by decide) hk rfl (iX8_clear _ (List.mem_of_getElem? (i := 7) rfl)) (Or.inl rfl) ex ?_
      refine w_iload_n B 205 rfl 2 2 rfl rfl ?_
      refine w_aload_n B 206 rfl 0 0 rfl rfl ?_
      refine w_iload_n B 207 rfl 2 2 rfl rfl ?_
      refine w_iload B 208 rfl 3 rfl ?_
      obtain ⟨hk, hf⟩ := gkd_e hf
      obtain ⟨r37, ec, hgd, hf⟩ := bdg_e hf
      refine w_callV x0 [.int x2, .int x4] [.int x2, .ref q36] [.int r37.1, .int x2, .ref q36] X B 209 rfl miX8_wants 8 (by decide) hk rfl rfl ⟨(iX8_clear _ (List.mem_of_getElem? (i := 21) rfl)), (iX8_clear _ (List.mem_of_getElem? (i := 22) rfl)), (iX8_clear _ (List.mem_of_getElem? (i := 23) rfl))⟩ (ctX8_wants ec) (Or.inr ⟨_, _, _, _, hr, hgd⟩) ⟨Nat.le_of_ble_eq_true rfl, Nat.le_of_ble_eq_true rfl⟩ rfl rfl (Nat.le_of_ble_eq_true rfl) rfl ?_
      refine w_iload B 210 rfl 4 rfl ?_
      refine w_isub B 211 rfl ?_
      obtain ⟨hk, hf⟩ := gkd_e hf
      obtain ⟨hx, hf⟩ := gix_e hf
      refine w_iast B 212 rfl hk hx ?_
      obtain ⟨m38, ex, hf⟩ := nm_x hf
      refine w_dmm ex ?_
      obtain ⟨v39, ex, hf⟩ := nm_x hf
      refine w_iinc v39 [(2, .int v39), (0, .ref x0), (1, .int x1), (4, .int x4), (5, .int x5), (6, .int x6)] B 213 rfl 2 rfl (ex.symm) (by decide) rfl ?_
      refine w_goto B 214 rfl 47 (by decide) ?_
      refine w_sub [(0, .ref x0), (1, .int x1), (2, .int v39)] [1, 2, 0] rfl ?_
      exact hk47 _ _ _ _ _ hf
def bX8_clear_j274 (k47 : Nat → Int32 → Int32 → AS → DM → Option (Nat × AS × DM)) (k147 : Nat → Int32 → Int32 → Int32 → Int32 → Int32 → AS → DM → Option (Nat × AS × DM)) (x0 : Nat) (x1 : Int32) (x2 : Int32) (x4 : Int32) (x5 : Int32) (x6 : Int32) (A : AS) (dm : DM) : Option (Nat × AS × DM) := nm (x6 + 1) (fun v52 => k147 x0 x1 x2 x4 x5 v52 A dm)
theorem bX8_clear_j274_ok {E : Ev2} {l : Launch} {K : KF} {mm : Mem} {x : Nat × AS × DM} {k47 : Nat → Int32 → Int32 → AS → DM → Option (Nat × AS × DM)} {k147 : Nat → Int32 → Int32 → Int32 → Int32 → Int32 → AS → DM → Option (Nat × AS × DM)} (X : Ec2 E l K rmFX8_clear rmLX8_clear) (B : Bx2 E RX8 tbX8_clear 10 (some (.object "ZoneCapacityLaw$Market"))) (hQ : Rt2 E) (hr : Rs2 E (some (.ref x.1)) mm x.2.1 x.2.2) (hk47 : ∀ (x0 : Nat) (x1 : Int32) (x2 : Int32) (A : AS) (dm : DM), k47 x0 x1 x2 A dm = some x → G2 E 10 47 [(0, .ref x0), (1, .int x1), (2, .int x2)] [] mm A dm) (hk147 : ∀ (x0 : Nat) (x1 : Int32) (x2 : Int32) (x4 : Int32) (x5 : Int32) (x6 : Int32) (A : AS) (dm : DM), k147 x0 x1 x2 x4 x5 x6 A dm = some x → G2 E 10 147 [(0, .ref x0), (1, .int x1), (2, .int x2), (4, .int x4), (5, .int x5), (6, .int x6)] [] mm A dm) (x0 : Nat) (x1 : Int32) (x2 : Int32) (x4 : Int32) (x5 : Int32) (x6 : Int32) (A : AS) (dm : DM) (hf : bX8_clear_j274 k47 k147 x0 x1 x2 x4 x5 x6 A dm = some x) : G2 E 10 274 [(0, .ref x0), (1, .int x1), (2, .int x2), (4, .int x4), (5, .int x5), (6, .int x6)] [] mm A dm := by
  unfold bX8_clear_j274 at hf
  obtain ⟨v52, ex, hf⟩ := nm_x hf
  refine w_iinc v52 [(6, .int v52), (0, .ref x0), (1, .int x1), (2, .int x2), (4, .int x4), (5, .int x5)] B 150 rfl 5 rfl (ex.symm) (by decide) rfl ?_
  refine w_goto B 151 rfl 147 (by decide) ?_
  refine w_sub [(0, .ref x0), (1, .int x1), (2, .int x2), (4, .int x4), (5, .int x5), (6, .int v52)] [1, 2, 3, 4, 5, 0] rfl ?_
  exact hk147 _ _ _ _ _ _ _ _ hf
def bX8_clear_j253 (k47 : Nat → Int32 → Int32 → AS → DM → Option (Nat × AS × DM)) (k147 : Nat → Int32 → Int32 → Int32 → Int32 → Int32 → AS → DM → Option (Nat × AS × DM)) (k162 : Nat → Int32 → Int32 → Int32 → Int32 → Int32 → Int32 → AS → DM → Option (Nat × AS × DM)) (x0 : Nat) (x1 : Int32) (x2 : Int32) (x4 : Int32) (x6 : Int32) (x7 : Int32) (x9 : Int32) (s0 : Int32) (s1 : Int32) (A : AS) (dm : DM) : Option (Nat × AS × DM) := nm (s1 - s0) (fun v62 => gkd A x0 8 (gtr (dm x0 9) (fun q63 => gkd A q63 22 (gix A q63 x6 (gtr (dm q63 x6.toNatClampNeg) (fun q64 => gkd A q64 20 (gix A q64 x7 (nm (up3 dm q64 x7.toNatClampNeg (.int x9)) (fun m65 => nm (x7 + 1) (fun v66 => k162 x0 x1 x2 x4 v62 x6 v66 A m65))))))))))
theorem bX8_clear_j253_ok {E : Ev2} {l : Launch} {K : KF} {mm : Mem} {x : Nat × AS × DM} {k47 : Nat → Int32 → Int32 → AS → DM → Option (Nat × AS × DM)} {k147 : Nat → Int32 → Int32 → Int32 → Int32 → Int32 → AS → DM → Option (Nat × AS × DM)} {k162 : Nat → Int32 → Int32 → Int32 → Int32 → Int32 → Int32 → AS → DM → Option (Nat × AS × DM)} (X : Ec2 E l K rmFX8_clear rmLX8_clear) (B : Bx2 E RX8 tbX8_clear 10 (some (.object "ZoneCapacityLaw$Market"))) (hQ : Rt2 E) (hr : Rs2 E (some (.ref x.1)) mm x.2.1 x.2.2) (hk47 : ∀ (x0 : Nat) (x1 : Int32) (x2 : Int32) (A : AS) (dm : DM), k47 x0 x1 x2 A dm = some x → G2 E 10 47 [(0, .ref x0), (1, .int x1), (2, .int x2)] [] mm A dm) (hk147 : ∀ (x0 : Nat) (x1 : Int32) (x2 : Int32) (x4 : Int32) (x5 : Int32) (x6 : Int32) (A : AS) (dm : DM), k147 x0 x1 x2 x4 x5 x6 A dm = some x → G2 E 10 147 [(0, .ref x0), (1, .int x1), (2, .int x2), (4, .int x4), (5, .int x5), (6, .int x6)] [] mm A dm) (hk162 : ∀ (x0 : Nat) (x1 : Int32) (x2 : Int32) (x4 : Int32) (x5 : Int32) (x6 : Int32) (x7 : Int32) (A : AS) (dm : DM), k162 x0 x1 x2 x4 x5 x6 x7 A dm = some x → G2 E 10 162 [(0, .ref x0), (1, .int x1), (2, .int x2), (4, .int x4), (5, .int x5), (6, .int x6), (7, .int x7)] [] mm A dm) (x0 : Nat) (x1 : Int32) (x2 : Int32) (x4 : Int32) (x6 : Int32) (x7 : Int32) (x9 : Int32) (s0 : Int32) (s1 : Int32) (A : AS) (dm : DM) (hf : bX8_clear_j253 k47 k147 k162 x0 x1 x2 x4 x6 x7 x9 s0 s1 A dm = some x) : G2 E 10 253 [(0, .ref x0), (1, .int x1), (2, .int x2), (4, .int x4), (6, .int x6), (7, .int x7), (9, .int x9)] [.int s0, .int s1] mm A dm := by
  unfold bX8_clear_j253 at hf
  refine w_isub B 139 rfl ?_
  obtain ⟨v62, ex, hf⟩ := nm_x hf
  refine w_top ex ?_
  refine w_istore [(5, .int v62), (0, .ref x0), (1, .int x1), (2, .int x2), (4, .int x4), (6, .int x6), (7, .int x7), (9, .int x9)] B 140 rfl (by decide) rfl ?_
  refine w_aload_n B 141 rfl 0 1 rfl rfl ?_
  obtain ⟨hk, hf⟩ := gkd_e hf
  obtain ⟨q63, ex, hf⟩ := gtr_e hf
  refine w_getr B 142 rfl 8 9 x0 (by decide) hk rfl (iX8_clear _ (List.mem_of_getElem? (i := 10) rfl)) (Or.inl rfl) ex ?_
  refine w_iload B 143 rfl 5 rfl ?_
  obtain ⟨hk, hf⟩ := gkd_e hf
  obtain ⟨hx, hf⟩ := gix_e hf
  obtain ⟨q64, ex, hf⟩ := gtr_e hf
  refine w_gald B 144 rfl hk hx ex ?_
  refine w_iload B 145 rfl 6 rfl ?_
  refine w_iload B 146 rfl 7 rfl ?_
  obtain ⟨hk, hf⟩ := gkd_e hf
  obtain ⟨hx, hf⟩ := gix_e hf
  refine w_iast B 147 rfl hk hx ?_
  obtain ⟨m65, ex, hf⟩ := nm_x hf
  refine w_dmm ex ?_
  obtain ⟨v66, ex, hf⟩ := nm_x hf
  refine w_iinc v66 [(7, .int v66), (5, .int v62), (0, .ref x0), (1, .int x1), (2, .int x2), (4, .int x4), (6, .int x6), (9, .int x9)] B 148 rfl 6 rfl (ex.symm) (by decide) rfl ?_
  refine w_goto B 149 rfl 162 (by decide) ?_
  refine w_sub [(0, .ref x0), (1, .int x1), (2, .int x2), (4, .int x4), (5, .int v62), (6, .int x6), (7, .int v66)] [2, 3, 4, 5, 1, 6, 0] rfl ?_
  exact hk162 _ _ _ _ _ _ _ _ _ hf
def bX8_clear_j234 (k47 : Nat → Int32 → Int32 → AS → DM → Option (Nat × AS × DM)) (k147 : Nat → Int32 → Int32 → Int32 → Int32 → Int32 → AS → DM → Option (Nat × AS × DM)) (k162 : Nat → Int32 → Int32 → Int32 → Int32 → Int32 → Int32 → AS → DM → Option (Nat × AS × DM)) (x0 : Nat) (x1 : Int32) (x2 : Int32) (x4 : Int32) (x5 : Int32) (x6 : Int32) (x7 : Int32) (x8 : Nat) (s0 : Int32) (A : AS) (dm : DM) : Option (Nat × AS × DM) := gkd A x8 20 (gix A x8 (1 : Int32) (gti (dm x8 (1 : Int32).toNatClampNeg) (fun v61 => if v61 = x4 then bX8_clear_j253 k47 k147 k162 x0 x1 x2 x4 x6 x7 s0 s0 x5 A dm else bX8_clear_j253 k47 k147 k162 x0 x1 x2 x4 x6 x7 s0 (0 : Int32) x5 A dm)))
theorem bX8_clear_j234_ok {E : Ev2} {l : Launch} {K : KF} {mm : Mem} {x : Nat × AS × DM} {k47 : Nat → Int32 → Int32 → AS → DM → Option (Nat × AS × DM)} {k147 : Nat → Int32 → Int32 → Int32 → Int32 → Int32 → AS → DM → Option (Nat × AS × DM)} {k162 : Nat → Int32 → Int32 → Int32 → Int32 → Int32 → Int32 → AS → DM → Option (Nat × AS × DM)} (X : Ec2 E l K rmFX8_clear rmLX8_clear) (B : Bx2 E RX8 tbX8_clear 10 (some (.object "ZoneCapacityLaw$Market"))) (hQ : Rt2 E) (hr : Rs2 E (some (.ref x.1)) mm x.2.1 x.2.2) (hk47 : ∀ (x0 : Nat) (x1 : Int32) (x2 : Int32) (A : AS) (dm : DM), k47 x0 x1 x2 A dm = some x → G2 E 10 47 [(0, .ref x0), (1, .int x1), (2, .int x2)] [] mm A dm) (hk147 : ∀ (x0 : Nat) (x1 : Int32) (x2 : Int32) (x4 : Int32) (x5 : Int32) (x6 : Int32) (A : AS) (dm : DM), k147 x0 x1 x2 x4 x5 x6 A dm = some x → G2 E 10 147 [(0, .ref x0), (1, .int x1), (2, .int x2), (4, .int x4), (5, .int x5), (6, .int x6)] [] mm A dm) (hk162 : ∀ (x0 : Nat) (x1 : Int32) (x2 : Int32) (x4 : Int32) (x5 : Int32) (x6 : Int32) (x7 : Int32) (A : AS) (dm : DM), k162 x0 x1 x2 x4 x5 x6 x7 A dm = some x → G2 E 10 162 [(0, .ref x0), (1, .int x1), (2, .int x2), (4, .int x4), (5, .int x5), (6, .int x6), (7, .int x7)] [] mm A dm) (x0 : Nat) (x1 : Int32) (x2 : Int32) (x4 : Int32) (x5 : Int32) (x6 : Int32) (x7 : Int32) (x8 : Nat) (s0 : Int32) (A : AS) (dm : DM) (hf : bX8_clear_j234 k47 k147 k162 x0 x1 x2 x4 x5 x6 x7 x8 s0 A dm = some x) : G2 E 10 234 [(0, .ref x0), (1, .int x1), (2, .int x2), (4, .int x4), (5, .int x5), (6, .int x6), (7, .int x7), (8, .ref x8)] [.int s0] mm A dm := by
  unfold bX8_clear_j234 at hf
  refine w_istore [(9, .int s0), (0, .ref x0), (1, .int x1), (2, .int x2), (4, .int x4), (5, .int x5), (6, .int x6), (7, .int x7), (8, .ref x8)] B 129 rfl (by decide) rfl ?_
  refine w_iload B 130 rfl 5 rfl ?_
  refine w_aload B 131 rfl 8 rfl ?_
  refine w_iconst 1 B 132 rfl (by decide) ?_
  obtain ⟨hk, hf⟩ := gkd_e hf
  obtain ⟨hx, hf⟩ := gix_e hf
  obtain ⟨v61, ex, hf⟩ := gti_e hf
  refine w_iald B 133 rfl hk hx ex ?_
  refine w_iload B 134 rfl 4 rfl ?_
  by_cases hc : v61 = x4
  · replace hf := (if_pos hc).symm.trans hf
    refine w_icmp_ne_f B 135 rfl 252 (by decide) hc ?_
    refine w_iload B 136 rfl 0 rfl ?_
    refine w_goto B 137 rfl 253 (by decide) ?_
    refine w_sub [(0, .ref x0), (1, .int x1), (2, .int x2), (4, .int x4), (6, .int x6), (7, .int x7), (9, .int s0)] [1, 2, 3, 4, 6, 7, 0] rfl ?_
    exact bX8_clear_j253_ok X B hQ hr hk47 hk147 hk162 _ _ _ _ _ _ _ _ _ _ _ hf
  · replace hf := (if_neg hc).symm.trans hf
    refine w_icmp_ne_t B 135 rfl 252 (by decide) hc ?_
    refine w_iconst 0 B 138 rfl (by decide) ?_
    refine w_sub [(0, .ref x0), (1, .int x1), (2, .int x2), (4, .int x4), (6, .int x6), (7, .int x7), (9, .int s0)] [1, 2, 3, 4, 6, 7, 0] rfl ?_
    exact bX8_clear_j253_ok X B hQ hr hk47 hk147 hk162 _ _ _ _ _ _ _ _ _ _ _ hf
def bX8_clear_l162 (k47 : Nat → Int32 → Int32 → AS → DM → Option (Nat × AS × DM)) (k147 : Nat → Int32 → Int32 → Int32 → Int32 → Int32 → AS → DM → Option (Nat × AS × DM)) : Nat → Nat → Int32 → Int32 → Int32 → Int32 → Int32 → Int32 → AS → DM → Option (Nat × AS × DM)
  | 0, _, _, _, _, _, _, _, _, _ => none
  | n + 1, x0, x1, x2, x4, x5, x6, x7, A, dm => if x7 < (4 : Int32) then gkd A x0 8 (gtr (dm x0 2) (fun q53 => gkd A q53 9 (bd (bAL_get A dm q53 x6) (fun r54 => gkd A r54 20 (gkd A r54 20 (gix A r54 (0 : Int32) (gti (dm r54 (0 : Int32).toNatClampNeg) (fun v55 => if v55 = x2 then gkd A x0 8 (bdg (fun (x : Nat × AS × DM) => x.2.1) A (bX8_line A dm x0 x6 x7) (fun (x : Nat × AS × DM) => x.2.1) (fun r56 => gkd r56.2.1 r56.1 20 (gix r56.2.1 r56.1 (1 : Int32) (gti (r56.2.2 r56.1 (1 : Int32).toNatClampNeg) (fun v57 => if v57 < x4 then gkd r56.2.1 r56.1 20 (gix r56.2.1 r56.1 (0 : Int32) (gti (r56.2.2 r56.1 (0 : Int32).toNatClampNeg) (fun v67 => bX8_clear_j234 k47 k147 (fun x0 x1 x2 x4 x5 x6 x7 A9 dm9 => bX8_clear_l162 k47 k147 n x0 x1 x2 x4 x5 x6 x7 A9 dm9) x0 x1 x2 x4 x5 x6 x7 r56.1 v67 r56.2.1 r56.2.2))) else gkd r56.2.1 r56.1 20 (gix r56.2.1 r56.1 (1 : Int32) (gti (r56.2.2 r56.1 (1 : Int32).toNatClampNeg) (fun v58 => if x4 < v58 then bX8_clear_j234 k47 k147 (fun x0 x1 x2 x4 x5 x6 x7 A9 dm9 => bX8_clear_l162 k47 k147 n x0 x1 x2 x4 x5 x6 x7 A9 dm9) x0 x1 x2 x4 x5 x6 x7 r56.1 (0 : Int32) r56.2.1 r56.2.2 else gkd r56.2.1 r56.1 20 (gix r56.2.1 r56.1 (0 : Int32) (gti (r56.2.2 r56.1 (0 : Int32).toNatClampNeg) (fun v59 => nm (mni v59 x5) (fun v60 => bX8_clear_j234 k47 k147 (fun x0 x1 x2 x4 x5 x6 x7 A9 dm9 => bX8_clear_l162 k47 k147 n x0 x1 x2 x4 x5 x6 x7 A9 dm9) x0 x1 x2 x4 x5 x6 x7 r56.1 v60 r56.2.1 r56.2.2)))))))))))) else bX8_clear_j274 k47 k147 x0 x1 x2 x4 x5 x6 A dm)))))))) else bX8_clear_j274 k47 k147 x0 x1 x2 x4 x5 x6 A dm
theorem bX8_clear_l162_ok {E : Ev2} {l : Launch} {K : KF} {mm : Mem} {x : Nat × AS × DM} {k47 : Nat → Int32 → Int32 → AS → DM → Option (Nat × AS × DM)} {k147 : Nat → Int32 → Int32 → Int32 → Int32 → Int32 → AS → DM → Option (Nat × AS × DM)} (X : Ec2 E l K rmFX8_clear rmLX8_clear) (B : Bx2 E RX8 tbX8_clear 10 (some (.object "ZoneCapacityLaw$Market"))) (hQ : Rt2 E) (hr : Rs2 E (some (.ref x.1)) mm x.2.1 x.2.2) (hk47 : ∀ (x0 : Nat) (x1 : Int32) (x2 : Int32) (A : AS) (dm : DM), k47 x0 x1 x2 A dm = some x → G2 E 10 47 [(0, .ref x0), (1, .int x1), (2, .int x2)] [] mm A dm) (hk147 : ∀ (x0 : Nat) (x1 : Int32) (x2 : Int32) (x4 : Int32) (x5 : Int32) (x6 : Int32) (A : AS) (dm : DM), k147 x0 x1 x2 x4 x5 x6 A dm = some x → G2 E 10 147 [(0, .ref x0), (1, .int x1), (2, .int x2), (4, .int x4), (5, .int x5), (6, .int x6)] [] mm A dm) (n : Nat) : ∀ (x0 : Nat) (x1 : Int32) (x2 : Int32) (x4 : Int32) (x5 : Int32) (x6 : Int32) (x7 : Int32) (A : AS) (dm : DM), bX8_clear_l162 k47 k147 n x0 x1 x2 x4 x5 x6 x7 A dm = some x → G2 E 10 162 [(0, .ref x0), (1, .int x1), (2, .int x2), (4, .int x4), (5, .int x5), (6, .int x6), (7, .int x7)] [] mm A dm := by
  induction n with
  | zero =>
    intro x0 x1 x2 x4 x5 x6 x7 A dm hf
    rw [bX8_clear_l162] at hf
    cases hf
  | succ n ih =>
    intro x0 x1 x2 x4 x5 x6 x7 A dm hf
    rw [bX8_clear_l162] at hf
    refine w_iload B 91 rfl 6 rfl ?_
    refine w_iconst 4 B 92 rfl (by decide) ?_
    by_cases hc : x7 < (4 : Int32)
    · replace hf := (if_pos hc).symm.trans hf
      refine w_icmp_ge_f B 93 rfl 274 (by decide) hc ?_
      refine w_aload_n B 94 rfl 0 0 rfl rfl ?_
      obtain ⟨hk, hf⟩ := gkd_e hf
      obtain ⟨q53, ex, hf⟩ := gtr_e hf
      refine w_getr B 95 rfl 8 2 x0 (by decide) hk rfl (iX8_clear _ (List.mem_of_getElem? (i := 8) rfl)) (Or.inl rfl) ex ?_
      refine w_iload B 96 rfl 5 rfl ?_
      obtain ⟨hk, hf⟩ := gkd_e hf
      obtain ⟨r54, ec, hf⟩ := bd_e hf
      refine w_callV q53 [.int x6] [] [.ref r54] X B 97 rfl miAL_get 9 (by decide) hk rfl rfl ⟨(iX8_clear _ (List.mem_of_getElem? (i := 11) rfl)), (iX8_clear _ (List.mem_of_getElem? (i := 12) rfl)), (iX8_clear _ (List.mem_of_getElem? (i := 13) rfl))⟩ (ctAL_get ec) (Or.inl ⟨rfl, rfl⟩) ⟨Nat.le_of_ble_eq_true rfl, Nat.le_of_ble_eq_true rfl⟩ rfl rfl (Nat.le_of_ble_eq_true rfl) rfl ?_
      obtain ⟨hk, hf⟩ := gkd_e hf
      refine w_castI B 98 rfl hk (iX8_clear _ (List.mem_of_getElem? (i := 14) rfl)) ?_
      refine w_iconst 0 B 99 rfl (by decide) ?_
      obtain ⟨hk, hf⟩ := gkd_e hf
      obtain ⟨hx, hf⟩ := gix_e hf
      obtain ⟨v55, ex, hf⟩ := gti_e hf
      refine w_iald B 100 rfl hk hx ex ?_
      refine w_iload_n B 101 rfl 2 2 rfl rfl ?_
      by_cases hc : v55 = x2
      · replace hf := (if_pos hc).symm.trans hf
        refine w_icmp_ne_f B 102 rfl 274 (by decide) hc ?_
        refine w_aload_n B 103 rfl 0 0 rfl rfl ?_
        refine w_iload B 104 rfl 5 rfl ?_
        refine w_iload B 105 rfl 6 rfl ?_
        obtain ⟨hk, hf⟩ := gkd_e hf
        obtain ⟨r56, ec, hgd, hf⟩ := bdg_e hf
        refine w_callV x0 [.int x6, .int x7] [] [.ref r56.1] X B 106 rfl miX8_line 8 (by decide) hk rfl rfl ⟨(iX8_clear _ (List.mem_of_getElem? (i := 31) rfl)), (iX8_clear _ (List.mem_of_getElem? (i := 32) rfl)), (iX8_clear _ (List.mem_of_getElem? (i := 33) rfl))⟩ (ctX8_line ec) (Or.inr ⟨_, _, _, _, hr, hgd⟩) ⟨Nat.le_of_ble_eq_true rfl, Nat.le_of_ble_eq_true rfl⟩ rfl rfl (Nat.le_of_ble_eq_true rfl) rfl ?_
        refine w_astore [(8, .ref r56.1), (0, .ref x0), (1, .int x1), (2, .int x2), (4, .int x4), (5, .int x5), (6, .int x6), (7, .int x7)] B 107 rfl (by decide) rfl ?_
        refine w_aload B 108 rfl 0 rfl ?_
        refine w_iconst 1 B 109 rfl (by decide) ?_
        obtain ⟨hk, hf⟩ := gkd_e hf
        obtain ⟨hx, hf⟩ := gix_e hf
        obtain ⟨v57, ex, hf⟩ := gti_e hf
        refine w_iald B 110 rfl hk hx ex ?_
        refine w_iload B 111 rfl 4 rfl ?_
        by_cases hc : v57 < x4
        · replace hf := (if_pos hc).symm.trans hf
          refine w_icmp_ge_f B 112 rfl 212 (by decide) hc ?_
          refine w_aload B 113 rfl 0 rfl ?_
          refine w_iconst 0 B 114 rfl (by decide) ?_
          obtain ⟨hk, hf⟩ := gkd_e hf
          obtain ⟨hx, hf⟩ := gix_e hf
          obtain ⟨v67, ex, hf⟩ := gti_e hf
          refine w_iald B 115 rfl hk hx ex ?_
          refine w_goto B 116 rfl 234 (by decide) ?_
          refine w_sub [(0, .ref x0), (1, .int x1), (2, .int x2), (4, .int x4), (5, .int x5), (6, .int x6), (7, .int x7), (8, .ref r56.1)] [1, 2, 3, 4, 5, 6, 7, 0] rfl ?_
          exact bX8_clear_j234_ok X B hQ hr hk47 hk147 ih _ _ _ _ _ _ _ _ _ _ _ hf
        · replace hf := (if_neg hc).symm.trans hf
          refine w_icmp_ge_t B 112 rfl 212 (by decide) hc ?_
          refine w_aload B 117 rfl 0 rfl ?_
          refine w_iconst 1 B 118 rfl (by decide) ?_
          obtain ⟨hk, hf⟩ := gkd_e hf
          obtain ⟨hx, hf⟩ := gix_e hf
          obtain ⟨v58, ex, hf⟩ := gti_e hf
          refine w_iald B 119 rfl hk hx ex ?_
          refine w_iload B 120 rfl 4 rfl ?_
          by_cases hc : x4 < v58
          · replace hf := (if_pos hc).symm.trans hf
            refine w_icmp_le_f B 121 rfl 225 (by decide) hc ?_
            refine w_iconst 0 B 122 rfl (by decide) ?_
            refine w_goto B 123 rfl 234 (by decide) ?_
            refine w_sub [(0, .ref x0), (1, .int x1), (2, .int x2), (4, .int x4), (5, .int x5), (6, .int x6), (7, .int x7), (8, .ref r56.1)] [1, 2, 3, 4, 5, 6, 7, 0] rfl ?_
            exact bX8_clear_j234_ok X B hQ hr hk47 hk147 ih _ _ _ _ _ _ _ _ _ _ _ hf
          · replace hf := (if_neg hc).symm.trans hf
            refine w_icmp_le_t B 121 rfl 225 (by decide) hc ?_
            refine w_aload B 124 rfl 0 rfl ?_
            refine w_iconst 0 B 125 rfl (by decide) ?_
            obtain ⟨hk, hf⟩ := gkd_e hf
            obtain ⟨hx, hf⟩ := gix_e hf
            obtain ⟨v59, ex, hf⟩ := gti_e hf
            refine w_iald B 126 rfl hk hx ex ?_
            refine w_iload B 127 rfl 5 rfl ?_
            refine w_mmin X B 128 rfl ⟨(iX8_clear _ (List.mem_of_getElem? (i := 27) rfl)), (iX8_clear _ (List.mem_of_getElem? (i := 28) rfl)), (iX8_clear _ (List.mem_of_getElem? (i := 29) rfl)), (iX8_clear _ (List.mem_of_getElem? (i := 30) rfl))⟩ ⟨Nat.le_of_ble_eq_true rfl, Nat.le_of_ble_eq_true rfl⟩ (Nat.le_of_ble_eq_true rfl) ?_
            obtain ⟨v60, ex, hf⟩ := nm_x hf
            refine w_top ex ?_
            refine w_sub [(0, .ref x0), (1, .int x1), (2, .int x2), (4, .int x4), (5, .int x5), (6, .int x6), (7, .int x7), (8, .ref r56.1)] [1, 2, 3, 4, 5, 6, 7, 0] rfl ?_
            exact bX8_clear_j234_ok X B hQ hr hk47 hk147 ih _ _ _ _ _ _ _ _ _ _ _ hf
      · replace hf := (if_neg hc).symm.trans hf
        refine w_icmp_ne_t B 102 rfl 274 (by decide) hc ?_
        refine w_sub [(0, .ref x0), (1, .int x1), (2, .int x2), (4, .int x4), (5, .int x5), (6, .int x6)] [0, 1, 2, 3, 4, 5] rfl ?_
        exact bX8_clear_j274_ok X B hQ hr hk47 hk147 _ _ _ _ _ _ _ _ hf
    · replace hf := (if_neg hc).symm.trans hf
      refine w_icmp_ge_t B 93 rfl 274 (by decide) hc ?_
      refine w_sub [(0, .ref x0), (1, .int x1), (2, .int x2), (4, .int x4), (5, .int x5), (6, .int x6)] [0, 1, 2, 3, 4, 5] rfl ?_
      exact bX8_clear_j274_ok X B hQ hr hk47 hk147 _ _ _ _ _ _ _ _ hf
def bX8_clear_l147 (k47 : Nat → Int32 → Int32 → AS → DM → Option (Nat × AS × DM)) : Nat → Nat → Int32 → Int32 → Int32 → Int32 → Int32 → AS → DM → Option (Nat × AS × DM)
  | 0, _, _, _, _, _, _, _, _ => none
  | n + 1, x0, x1, x2, x4, x5, x6, A, dm => gkd A x0 8 (gtr (dm x0 2) (fun q33 => gkd A q33 9 (bd (bAL_size A dm q33) (fun r34 => if x6 < r34 then bX8_clear_l162 k47 (fun x0 x1 x2 x4 x5 x6 A9 dm9 => bX8_clear_l147 k47 n x0 x1 x2 x4 x5 x6 A9 dm9) FU x0 x1 x2 x4 x5 x6 (0 : Int32) A dm else nm (x2 + (1 : Int32)) (fun v35 => bX8_clear_l285 k47 FU x0 x1 x2 x4 x5 v35 A dm)))))
theorem bX8_clear_l147_ok {E : Ev2} {l : Launch} {K : KF} {mm : Mem} {x : Nat × AS × DM} {k47 : Nat → Int32 → Int32 → AS → DM → Option (Nat × AS × DM)} (X : Ec2 E l K rmFX8_clear rmLX8_clear) (B : Bx2 E RX8 tbX8_clear 10 (some (.object "ZoneCapacityLaw$Market"))) (hQ : Rt2 E) (hr : Rs2 E (some (.ref x.1)) mm x.2.1 x.2.2) (hk47 : ∀ (x0 : Nat) (x1 : Int32) (x2 : Int32) (A : AS) (dm : DM), k47 x0 x1 x2 A dm = some x → G2 E 10 47 [(0, .ref x0), (1, .int x1), (2, .int x2)] [] mm A dm) (n : Nat) : ∀ (x0 : Nat) (x1 : Int32) (x2 : Int32) (x4 : Int32) (x5 : Int32) (x6 : Int32) (A : AS) (dm : DM), bX8_clear_l147 k47 n x0 x1 x2 x4 x5 x6 A dm = some x → G2 E 10 147 [(0, .ref x0), (1, .int x1), (2, .int x2), (4, .int x4), (5, .int x5), (6, .int x6)] [] mm A dm := by
  induction n with
  | zero =>
    intro x0 x1 x2 x4 x5 x6 A dm hf
    rw [bX8_clear_l147] at hf
    cases hf
  | succ n ih =>
    intro x0 x1 x2 x4 x5 x6 A dm hf
    rw [bX8_clear_l147] at hf
    refine w_iload B 84 rfl 5 rfl ?_
    refine w_aload_n B 85 rfl 0 0 rfl rfl ?_
    obtain ⟨hk, hf⟩ := gkd_e hf
    obtain ⟨q33, ex, hf⟩ := gtr_e hf
    refine w_getr B 86 rfl 8 2 x0 (by decide) hk rfl (iX8_clear _ (List.mem_of_getElem? (i := 8) rfl)) (Or.inl rfl) ex ?_
    obtain ⟨hk, hf⟩ := gkd_e hf
    obtain ⟨r34, ec, hf⟩ := bd_e hf
    refine w_callV q33 [] [.int x6] [.int r34, .int x6] X B 87 rfl miAL_size 9 (by decide) hk rfl rfl ⟨(iX8_clear _ (List.mem_of_getElem? (i := 1) rfl)), (iX8_clear _ (List.mem_of_getElem? (i := 2) rfl)), (iX8_clear _ (List.mem_of_getElem? (i := 3) rfl))⟩ (ctAL_size ec) (Or.inl ⟨rfl, rfl⟩) ⟨Nat.le_of_ble_eq_true rfl, Nat.le_of_ble_eq_true rfl⟩ rfl rfl (Nat.le_of_ble_eq_true rfl) rfl ?_
    by_cases hc : x6 < r34
    · replace hf := (if_pos hc).symm.trans hf
      refine w_icmp_ge_f B 88 rfl 280 (by decide) hc ?_
      refine w_iconst 0 B 89 rfl (by decide) ?_
      refine w_istore [(7, .int (0 : Int32)), (0, .ref x0), (1, .int x1), (2, .int x2), (4, .int x4), (5, .int x5), (6, .int x6)] B 90 rfl (by decide) rfl ?_
      refine w_sub [(0, .ref x0), (1, .int x1), (2, .int x2), (4, .int x4), (5, .int x5), (6, .int x6), (7, .int (0 : Int32))] [1, 2, 3, 4, 5, 6, 0] rfl ?_
      exact bX8_clear_l162_ok X B hQ hr hk47 ih FU _ _ _ _ _ _ _ _ _ hf
    · replace hf := (if_neg hc).symm.trans hf
      refine w_icmp_ge_t B 88 rfl 280 (by decide) hc ?_
      refine w_iload_n B 152 rfl 2 2 rfl rfl ?_
      refine w_iconst 1 B 153 rfl (by decide) ?_
      refine w_iadd B 154 rfl ?_
      obtain ⟨v35, ex, hf⟩ := nm_x hf
      refine w_top ex ?_
      refine w_istore [(6, .int v35), (0, .ref x0), (1, .int x1), (2, .int x2), (4, .int x4), (5, .int x5)] B 155 rfl (by decide) rfl ?_
      refine w_sub [(0, .ref x0), (1, .int x1), (2, .int x2), (4, .int x4), (5, .int x5), (6, .int v35)] [1, 2, 3, 4, 5, 0] rfl ?_
      exact bX8_clear_l285_ok X B hQ hr hk47 FU _ _ _ _ _ _ _ _ hf
def bX8_clear_j124 (k47 : Nat → Int32 → Int32 → AS → DM → Option (Nat × AS × DM)) (x0 : Nat) (x1 : Int32) (x2 : Int32) (x3 : Int32) (x4 : Int32) (A : AS) (dm : DM) : Option (Nat × AS × DM) := gkd A x0 8 (gtr (dm x0 6) (fun q29 => gkd A q29 20 (gix A q29 x2 (nm (up3 dm q29 x2.toNatClampNeg (.int x4)) (fun m30 => gkd A x0 8 (bdg (fun (x : Nat × AS × DM) => x.2.1) A (bX8_level 6 A m30 x0 x2 x4 (0 : Int32)) (fun (x : Int32 × AS × DM) => x.2.1) (fun r31 => nm (x3 - r31.1) (fun v32 => bX8_clear_l147 k47 FU x0 x1 x2 x4 v32 (0 : Int32) r31.2.1 r31.2.2))))))))
theorem bX8_clear_j124_ok {E : Ev2} {l : Launch} {K : KF} {mm : Mem} {x : Nat × AS × DM} {k47 : Nat → Int32 → Int32 → AS → DM → Option (Nat × AS × DM)} (X : Ec2 E l K rmFX8_clear rmLX8_clear) (B : Bx2 E RX8 tbX8_clear 10 (some (.object "ZoneCapacityLaw$Market"))) (hQ : Rt2 E) (hr : Rs2 E (some (.ref x.1)) mm x.2.1 x.2.2) (hk47 : ∀ (x0 : Nat) (x1 : Int32) (x2 : Int32) (A : AS) (dm : DM), k47 x0 x1 x2 A dm = some x → G2 E 10 47 [(0, .ref x0), (1, .int x1), (2, .int x2)] [] mm A dm) (x0 : Nat) (x1 : Int32) (x2 : Int32) (x3 : Int32) (x4 : Int32) (A : AS) (dm : DM) (hf : bX8_clear_j124 k47 x0 x1 x2 x3 x4 A dm = some x) : G2 E 10 124 [(0, .ref x0), (1, .int x1), (2, .int x2), (3, .int x3), (4, .int x4)] [] mm A dm := by
  unfold bX8_clear_j124 at hf
  refine w_aload_n B 69 rfl 0 0 rfl rfl ?_
  obtain ⟨hk, hf⟩ := gkd_e hf
  obtain ⟨q29, ex, hf⟩ := gtr_e hf
  refine w_getr B 70 rfl 8 6 x0 (by decide) hk rfl (iX8_clear _ (List.mem_of_getElem? (i := 5) rfl)) (Or.inl rfl) ex ?_
  refine w_iload_n B 71 rfl 2 2 rfl rfl ?_
  refine w_iload B 72 rfl 4 rfl ?_
  obtain ⟨hk, hf⟩ := gkd_e hf
  obtain ⟨hx, hf⟩ := gix_e hf
  refine w_iast B 73 rfl hk hx ?_
  obtain ⟨m30, ex, hf⟩ := nm_x hf
  refine w_dmm ex ?_
  refine w_iload_n B 74 rfl 3 3 rfl rfl ?_
  refine w_aload_n B 75 rfl 0 0 rfl rfl ?_
  refine w_iload_n B 76 rfl 2 2 rfl rfl ?_
  refine w_iload B 77 rfl 4 rfl ?_
  refine w_iconst 0 B 78 rfl (by decide) ?_
  obtain ⟨hk, hf⟩ := gkd_e hf
  obtain ⟨r31, ec, hgd, hf⟩ := bdg_e hf
  refine w_callV x0 [.int x2, .int x4, .int (0 : Int32)] [.int x3] [.int r31.1, .int x3] X B 79 rfl miX8_level 8 (by decide) hk rfl rfl ⟨(iX8_clear _ (List.mem_of_getElem? (i := 18) rfl)), (iX8_clear _ (List.mem_of_getElem? (i := 19) rfl)), (iX8_clear _ (List.mem_of_getElem? (i := 20) rfl))⟩ (ctX8_level ec) (Or.inr ⟨_, _, _, _, hr, hgd⟩) ⟨Nat.le_of_ble_eq_true rfl, Nat.le_of_ble_eq_true rfl⟩ rfl rfl (Nat.le_of_ble_eq_true rfl) rfl ?_
  refine w_isub B 80 rfl ?_
  obtain ⟨v32, ex, hf⟩ := nm_x hf
  refine w_top ex ?_
  refine w_istore [(5, .int v32), (0, .ref x0), (1, .int x1), (2, .int x2), (3, .int x3), (4, .int x4)] B 81 rfl (by decide) rfl ?_
  refine w_iconst 0 B 82 rfl (by decide) ?_
  refine w_istore [(6, .int (0 : Int32)), (5, .int v32), (0, .ref x0), (1, .int x1), (2, .int x2), (3, .int x3), (4, .int x4)] B 83 rfl (by decide) rfl ?_
  refine w_sub [(0, .ref x0), (1, .int x1), (2, .int x2), (4, .int x4), (5, .int v32), (6, .int (0 : Int32))] [2, 3, 4, 6, 1, 0] rfl ?_
  exact bX8_clear_l147_ok X B hQ hr hk47 FU _ _ _ _ _ _ _ _ hf
def bX8_clear_j116 (k47 : Nat → Int32 → Int32 → AS → DM → Option (Nat × AS × DM)) (x0 : Nat) (x1 : Int32) (x2 : Int32) (x3 : Int32) (A : AS) (dm : DM) : Option (Nat × AS × DM) := gkd A x0 8 (bdg (fun (x : Nat × AS × DM) => x.2.1) A (bX8_leastPrice A dm x0 x2 x3) (fun (x : Int32 × AS × DM) => x.2.1) (fun r28 => bX8_clear_j124 k47 x0 x1 x2 x3 r28.1 r28.2.1 r28.2.2))
theorem bX8_clear_j116_ok {E : Ev2} {l : Launch} {K : KF} {mm : Mem} {x : Nat × AS × DM} {k47 : Nat → Int32 → Int32 → AS → DM → Option (Nat × AS × DM)} (X : Ec2 E l K rmFX8_clear rmLX8_clear) (B : Bx2 E RX8 tbX8_clear 10 (some (.object "ZoneCapacityLaw$Market"))) (hQ : Rt2 E) (hr : Rs2 E (some (.ref x.1)) mm x.2.1 x.2.2) (hk47 : ∀ (x0 : Nat) (x1 : Int32) (x2 : Int32) (A : AS) (dm : DM), k47 x0 x1 x2 A dm = some x → G2 E 10 47 [(0, .ref x0), (1, .int x1), (2, .int x2)] [] mm A dm) (x0 : Nat) (x1 : Int32) (x2 : Int32) (x3 : Int32) (A : AS) (dm : DM) (hf : bX8_clear_j116 k47 x0 x1 x2 x3 A dm = some x) : G2 E 10 116 [(0, .ref x0), (1, .int x1), (2, .int x2), (3, .int x3)] [] mm A dm := by
  unfold bX8_clear_j116 at hf
  refine w_aload_n B 64 rfl 0 0 rfl rfl ?_
  refine w_iload_n B 65 rfl 2 2 rfl rfl ?_
  refine w_iload_n B 66 rfl 3 3 rfl rfl ?_
  obtain ⟨hk, hf⟩ := gkd_e hf
  obtain ⟨r28, ec, hgd, hf⟩ := bdg_e hf
  refine w_callV x0 [.int x2, .int x3] [] [.int r28.1] X B 67 rfl miX8_leastPrice 8 (by decide) hk rfl rfl ⟨(iX8_clear _ (List.mem_of_getElem? (i := 15) rfl)), (iX8_clear _ (List.mem_of_getElem? (i := 16) rfl)), (iX8_clear _ (List.mem_of_getElem? (i := 17) rfl))⟩ (ctX8_leastPrice ec) (Or.inr ⟨_, _, _, _, hr, hgd⟩) ⟨Nat.le_of_ble_eq_true rfl, Nat.le_of_ble_eq_true rfl⟩ rfl rfl (Nat.le_of_ble_eq_true rfl) rfl ?_
  refine w_istore [(4, .int r28.1), (0, .ref x0), (1, .int x1), (2, .int x2), (3, .int x3)] B 68 rfl (by decide) rfl ?_
  refine w_sub [(0, .ref x0), (1, .int x1), (2, .int x2), (3, .int x3), (4, .int r28.1)] [1, 2, 3, 4, 0] rfl ?_
  exact bX8_clear_j124_ok X B hQ hr hk47 _ _ _ _ _ _ _ hf
def bX8_clear_j85 (k47 : Nat → Int32 → Int32 → AS → DM → Option (Nat × AS × DM)) (x0 : Nat) (x1 : Int32) (x2 : Int32) (x3 : Int32) (s0 : Int32) (A : AS) (dm : DM) : Option (Nat × AS × DM) := if s0 < 0 then bX8_clear_j116 k47 x0 x1 x2 x3 A dm else gkd A x0 8 (bdg (fun (x : Nat × AS × DM) => x.2.1) A (bX8_level 6 A dm x0 x2 s0 (0 : Int32)) (fun (x : Int32 × AS × DM) => x.2.1) (fun r68 => if x3 < r68.1 then bX8_clear_j116 k47 x0 x1 x2 x3 r68.2.1 r68.2.2 else gkd r68.2.1 x0 8 (bdg (fun (x : Nat × AS × DM) => x.2.1) r68.2.1 (bX8_level 6 r68.2.1 r68.2.2 x0 x2 s0 (1 : Int32)) (fun (x : Int32 × AS × DM) => x.2.1) (fun r69 => if r69.1 < x3 then bX8_clear_j116 k47 x0 x1 x2 x3 r69.2.1 r69.2.2 else bX8_clear_j124 k47 x0 x1 x2 x3 s0 r69.2.1 r69.2.2))))
theorem bX8_clear_j85_ok {E : Ev2} {l : Launch} {K : KF} {mm : Mem} {x : Nat × AS × DM} {k47 : Nat → Int32 → Int32 → AS → DM → Option (Nat × AS × DM)} (X : Ec2 E l K rmFX8_clear rmLX8_clear) (B : Bx2 E RX8 tbX8_clear 10 (some (.object "ZoneCapacityLaw$Market"))) (hQ : Rt2 E) (hr : Rs2 E (some (.ref x.1)) mm x.2.1 x.2.2) (hk47 : ∀ (x0 : Nat) (x1 : Int32) (x2 : Int32) (A : AS) (dm : DM), k47 x0 x1 x2 A dm = some x → G2 E 10 47 [(0, .ref x0), (1, .int x1), (2, .int x2)] [] mm A dm) (x0 : Nat) (x1 : Int32) (x2 : Int32) (x3 : Int32) (s0 : Int32) (A : AS) (dm : DM) (hf : bX8_clear_j85 k47 x0 x1 x2 x3 s0 A dm = some x) : G2 E 10 85 [(0, .ref x0), (1, .int x1), (2, .int x2), (3, .int x3)] [.int s0] mm A dm := by
  unfold bX8_clear_j85 at hf
  refine w_istore [(4, .int s0), (0, .ref x0), (1, .int x1), (2, .int x2), (3, .int x3)] B 47 rfl (by decide) rfl ?_
  refine w_iload B 48 rfl 0 rfl ?_
  by_cases hc : s0 < 0
  · replace hf := (if_pos hc).symm.trans hf
    refine w_if_lt_t B 49 rfl 116 (by decide) hc ?_
    refine w_sub [(0, .ref x0), (1, .int x1), (2, .int x2), (3, .int x3)] [1, 2, 3, 4] rfl ?_
    exact bX8_clear_j116_ok X B hQ hr hk47 _ _ _ _ _ _ hf
  · replace hf := (if_neg hc).symm.trans hf
    refine w_if_lt_f B 49 rfl 116 (by decide) hc ?_
    refine w_aload_n B 50 rfl 0 1 rfl rfl ?_
    refine w_iload_n B 51 rfl 2 3 rfl rfl ?_
    refine w_iload B 52 rfl 0 rfl ?_
    refine w_iconst 0 B 53 rfl (by decide) ?_
    obtain ⟨hk, hf⟩ := gkd_e hf
    obtain ⟨r68, ec, hgd, hf⟩ := bdg_e hf
    refine w_callV x0 [.int x2, .int s0, .int (0 : Int32)] [] [.int r68.1] X B 54 rfl miX8_level 8 (by decide) hk rfl rfl ⟨(iX8_clear _ (List.mem_of_getElem? (i := 18) rfl)), (iX8_clear _ (List.mem_of_getElem? (i := 19) rfl)), (iX8_clear _ (List.mem_of_getElem? (i := 20) rfl))⟩ (ctX8_level ec) (Or.inr ⟨_, _, _, _, hr, hgd⟩) ⟨Nat.le_of_ble_eq_true rfl, Nat.le_of_ble_eq_true rfl⟩ rfl rfl (Nat.le_of_ble_eq_true rfl) rfl ?_
    refine w_iload_n B 55 rfl 3 4 rfl rfl ?_
    by_cases hc : x3 < r68.1
    · replace hf := (if_pos hc).symm.trans hf
      refine w_icmp_gt_t B 56 rfl 116 (by decide) hc ?_
      refine w_sub [(0, .ref x0), (1, .int x1), (2, .int x2), (3, .int x3)] [1, 2, 3, 4] rfl ?_
      exact bX8_clear_j116_ok X B hQ hr hk47 _ _ _ _ _ _ hf
    · replace hf := (if_neg hc).symm.trans hf
      refine w_icmp_gt_f B 56 rfl 116 (by decide) hc ?_
      refine w_aload_n B 57 rfl 0 1 rfl rfl ?_
      refine w_iload_n B 58 rfl 2 3 rfl rfl ?_
      refine w_iload B 59 rfl 0 rfl ?_
      refine w_iconst 1 B 60 rfl (by decide) ?_
      obtain ⟨hk, hf⟩ := gkd_e hf
      obtain ⟨r69, ec, hgd, hf⟩ := bdg_e hf
      refine w_callV x0 [.int x2, .int s0, .int (1 : Int32)] [] [.int r69.1] X B 61 rfl miX8_level 8 (by decide) hk rfl rfl ⟨(iX8_clear _ (List.mem_of_getElem? (i := 18) rfl)), (iX8_clear _ (List.mem_of_getElem? (i := 19) rfl)), (iX8_clear _ (List.mem_of_getElem? (i := 20) rfl))⟩ (ctX8_level ec) (Or.inr ⟨_, _, _, _, hr, hgd⟩) ⟨Nat.le_of_ble_eq_true rfl, Nat.le_of_ble_eq_true rfl⟩ rfl rfl (Nat.le_of_ble_eq_true rfl) rfl ?_
      refine w_iload_n B 62 rfl 3 4 rfl rfl ?_
      by_cases hc : r69.1 < x3
      · replace hf := (if_pos hc).symm.trans hf
        refine w_icmp_ge_f B 63 rfl 124 (by decide) hc ?_
        refine w_sub [(0, .ref x0), (1, .int x1), (2, .int x2), (3, .int x3)] [1, 2, 3, 4] rfl ?_
        exact bX8_clear_j116_ok X B hQ hr hk47 _ _ _ _ _ _ hf
      · replace hf := (if_neg hc).symm.trans hf
        refine w_icmp_ge_t B 63 rfl 124 (by decide) hc ?_
        refine w_sub [(0, .ref x0), (1, .int x1), (2, .int x2), (3, .int x3), (4, .int s0)] [1, 2, 3, 4, 0] rfl ?_
        exact bX8_clear_j124_ok X B hQ hr hk47 _ _ _ _ _ _ _ hf
def bX8_clear_l47 : Nat → Nat → Int32 → Int32 → AS → DM → Option (Nat × AS × DM)
  | 0, _, _, _, _, _ => none
  | n + 1, x0, x1, x2, A, dm => if x2 < x1 then gkd A x0 8 (gtr (dm x0 7) (fun q21 => gkd A q21 20 (gix A q21 x2 (gti (dm q21 x2.toNatClampNeg) (fun v22 => if x2 = 0 then bX8_clear_j85 (fun x0 x1 x2 A9 dm9 => bX8_clear_l47 n x0 x1 x2 A9 dm9) x0 x1 x2 v22 (-1 : Int32) A dm else gkd A x0 8 (gtr (dm x0 6) (fun q23 => gkd A x0 8 (gtr (dm x0 0) (fun q24 => gkd A q24 9 (bd (bAL_get A dm q24 x2) (fun r25 => gkd A r25 20 (gkd A r25 20 (gix A r25 (0 : Int32) (gti (dm r25 (0 : Int32).toNatClampNeg) (fun v26 => gkd A q23 20 (gix A q23 v26 (gti (dm q23 v26.toNatClampNeg) (fun v27 => bX8_clear_j85 (fun x0 x1 x2 A9 dm9 => bX8_clear_l47 n x0 x1 x2 A9 dm9) x0 x1 x2 v22 v27 A dm)))))))))))))))))) else some (x0, A, dm)
theorem bX8_clear_l47_ok {E : Ev2} {l : Launch} {K : KF} {mm : Mem} {x : Nat × AS × DM} (X : Ec2 E l K rmFX8_clear rmLX8_clear) (B : Bx2 E RX8 tbX8_clear 10 (some (.object "ZoneCapacityLaw$Market"))) (hQ : Rt2 E) (hr : Rs2 E (some (.ref x.1)) mm x.2.1 x.2.2) (n : Nat) : ∀ (x0 : Nat) (x1 : Int32) (x2 : Int32) (A : AS) (dm : DM), bX8_clear_l47 n x0 x1 x2 A dm = some x → G2 E 10 47 [(0, .ref x0), (1, .int x1), (2, .int x2)] [] mm A dm := by
  induction n with
  | zero =>
    intro x0 x1 x2 A dm hf
    rw [bX8_clear_l47] at hf
    cases hf
  | succ n ih =>
    intro x0 x1 x2 A dm hf
    rw [bX8_clear_l47] at hf
    refine w_iload_n B 25 rfl 2 2 rfl rfl ?_
    refine w_iload_n B 26 rfl 1 1 rfl rfl ?_
    by_cases hc : x2 < x1
    · replace hf := (if_pos hc).symm.trans hf
      refine w_icmp_ge_f B 27 rfl 398 (by decide) hc ?_
      refine w_aload_n B 28 rfl 0 0 rfl rfl ?_
      obtain ⟨hk, hf⟩ := gkd_e hf
      obtain ⟨q21, ex, hf⟩ := gtr_e hf
      refine w_getr B 29 rfl 8 7 x0 (by decide) hk rfl (iX8_clear _ (List.mem_of_getElem? (i := 6) rfl)) (Or.inl rfl) ex ?_
      refine w_iload_n B 30 rfl 2 2 rfl rfl ?_
      obtain ⟨hk, hf⟩ := gkd_e hf
      obtain ⟨hx, hf⟩ := gix_e hf
      obtain ⟨v22, ex, hf⟩ := gti_e hf
      refine w_iald B 31 rfl hk hx ex ?_
      refine w_istore_n [(3, .int v22), (0, .ref x0), (1, .int x1), (2, .int x2)] B 32 rfl 3 rfl (by decide) rfl ?_
      refine w_iload_n B 33 rfl 2 3 rfl rfl ?_
      by_cases hc : x2 = 0
      · replace hf := (if_pos hc).symm.trans hf
        refine w_if_ne_f B 34 rfl 67 (by decide) hc ?_
        refine w_iconst (-1) B 35 rfl (by decide) ?_
        refine w_goto B 36 rfl 85 (by decide) ?_
        refine w_sub [(0, .ref x0), (1, .int x1), (2, .int x2), (3, .int v22)] [1, 2, 3, 0] rfl ?_
        exact bX8_clear_j85_ok X B hQ hr ih _ _ _ _ _ _ _ hf
      · replace hf := (if_neg hc).symm.trans hf
        refine w_if_ne_t B 34 rfl 67 (by decide) hc ?_
        refine w_aload_n B 37 rfl 0 1 rfl rfl ?_
        obtain ⟨hk, hf⟩ := gkd_e hf
        obtain ⟨q23, ex, hf⟩ := gtr_e hf
        refine w_getr B 38 rfl 8 6 x0 (by decide) hk rfl (iX8_clear _ (List.mem_of_getElem? (i := 5) rfl)) (Or.inl rfl) ex ?_
        refine w_aload_n B 39 rfl 0 1 rfl rfl ?_
        obtain ⟨hk, hf⟩ := gkd_e hf
        obtain ⟨q24, ex, hf⟩ := gtr_e hf
        refine w_getr B 40 rfl 8 0 x0 (by decide) hk rfl (iX8_clear _ (List.mem_of_getElem? (i := 0) rfl)) (Or.inl rfl) ex ?_
        refine w_iload_n B 41 rfl 2 3 rfl rfl ?_
        obtain ⟨hk, hf⟩ := gkd_e hf
        obtain ⟨r25, ec, hf⟩ := bd_e hf
        refine w_callV q24 [.int x2] [.ref q23] [.ref r25, .ref q23] X B 42 rfl miAL_get 9 (by decide) hk rfl rfl ⟨(iX8_clear _ (List.mem_of_getElem? (i := 11) rfl)), (iX8_clear _ (List.mem_of_getElem? (i := 12) rfl)), (iX8_clear _ (List.mem_of_getElem? (i := 13) rfl))⟩ (ctAL_get ec) (Or.inl ⟨rfl, rfl⟩) ⟨Nat.le_of_ble_eq_true rfl, Nat.le_of_ble_eq_true rfl⟩ rfl rfl (Nat.le_of_ble_eq_true rfl) rfl ?_
        obtain ⟨hk, hf⟩ := gkd_e hf
        refine w_castI B 43 rfl hk (iX8_clear _ (List.mem_of_getElem? (i := 14) rfl)) ?_
        refine w_iconst 0 B 44 rfl (by decide) ?_
        obtain ⟨hk, hf⟩ := gkd_e hf
        obtain ⟨hx, hf⟩ := gix_e hf
        obtain ⟨v26, ex, hf⟩ := gti_e hf
        refine w_iald B 45 rfl hk hx ex ?_
        obtain ⟨hk, hf⟩ := gkd_e hf
        obtain ⟨hx, hf⟩ := gix_e hf
        obtain ⟨v27, ex, hf⟩ := gti_e hf
        refine w_iald B 46 rfl hk hx ex ?_
        refine w_sub [(0, .ref x0), (1, .int x1), (2, .int x2), (3, .int v22)] [1, 2, 3, 0] rfl ?_
        exact bX8_clear_j85_ok X B hQ hr ih _ _ _ _ _ _ _ hf
    · replace hf := (if_neg hc).symm.trans hf
      refine w_icmp_ge_t B 27 rfl 398 (by decide) hc ?_
      refine w_aload_n B 215 rfl 0 0 rfl rfl ?_
      cases hf
      exact w_aret B 216 rfl (Or.inl ⟨_, rfl⟩) hQ hr
def bX8_clear (A : AS) (dm : DM) (a0 : Nat) : Option (Nat × AS × DM) := gkd A a0 8 (gtr (dm a0 0) (fun q1 => gkd A q1 9 (bd (bAL_size A dm q1) (fun r2 => gnn r2 (alc (fun (x : Nat × AS × DM) => x.2.1) A dm 20 r2.toNatClampNeg r2.toNatClampNeg (fun _ => .int 0) (fun q3 A4 m5 => gkd A4 a0 8 (nm (up3 m5 a0 6 (.ref q3)) (fun m6 => gnn r2 (alc (fun (x : Nat × AS × DM) => x.2.1) A4 m6 20 r2.toNatClampNeg r2.toNatClampNeg (fun _ => .int 0) (fun q7 A8 m9 => gkd A8 a0 8 (nm (up3 m9 a0 7 (.ref q7)) (fun m10 => gnn r2 (alc (fun (x : Nat × AS × DM) => x.2.1) A8 m10 20 r2.toNatClampNeg r2.toNatClampNeg (fun _ => .int 0) (fun q11 A12 m13 => gkd A12 a0 8 (nm (up3 m13 a0 8 (.ref q11)) (fun m14 => gkd A12 a0 8 (gtr (m14 a0 2) (fun q15 => gkd A12 q15 9 (bd (bAL_size A12 m14 q15) (fun r16 => gnn r16 (alg (fun (x : Nat × AS × DM) => x.2.1) A12 m14 r16.toNatClampNeg (fun q17 A18 m19 => gkd A18 a0 8 (nm (up3 m19 a0 9 (.ref q17)) (fun m20 => bX8_clear_l47 FU a0 r2 (0 : Int32) A18 m20))))))))))))))))))))))))
theorem ctX8_clear {l : Launch} {K : KF} {mm : Mem} {A : AS} {dm : DM} {a0 : Nat} {x : Nat × AS × DM} (hf : bX8_clear A dm a0 = some x) : Ct2 l K yX8_clear cX8_clear 10 (some (.object "ZoneCapacityLaw$Market")) 13 332 [.ref a0] mm A dm (some (.ref x.1)) mm x.2.1 x.2.2 := by
  refine Ct2.of (tb := tbX8_clear) miX8_clear.2.1 miX8_clear.1 dtX8_clear (Nat.le_of_ble_eq_true rfl) ?_
  intro E B hQ hr X hI hcd
  clear hI
  clear hcd
  unfold bX8_clear at hf
  show G2 E 10 0 [(0, .ref a0)] [] mm A dm
  refine w_aload_n B 0 rfl 0 0 rfl rfl ?_
  obtain ⟨hk, hf⟩ := gkd_e hf
  obtain ⟨q1, ex, hf⟩ := gtr_e hf
  refine w_getr B 1 rfl 8 0 a0 (by decide) hk rfl (iX8_clear _ (List.mem_of_getElem? (i := 0) rfl)) (Or.inl rfl) ex ?_
  obtain ⟨hk, hf⟩ := gkd_e hf
  obtain ⟨r2, ec, hf⟩ := bd_e hf
  refine w_callV q1 [] [] [.int r2] X B 2 rfl miAL_size 9 (by decide) hk rfl rfl ⟨(iX8_clear _ (List.mem_of_getElem? (i := 1) rfl)), (iX8_clear _ (List.mem_of_getElem? (i := 2) rfl)), (iX8_clear _ (List.mem_of_getElem? (i := 3) rfl))⟩ (ctAL_size ec) (Or.inl ⟨rfl, rfl⟩) ⟨Nat.le_of_ble_eq_true rfl, Nat.le_of_ble_eq_true rfl⟩ rfl rfl (Nat.le_of_ble_eq_true rfl) rfl ?_
  refine w_istore_n [(1, .int r2), (0, .ref a0)] B 3 rfl 1 rfl (by decide) rfl ?_
  refine w_aload_n B 4 rfl 0 1 rfl rfl ?_
  refine w_iload_n B 5 rfl 1 0 rfl rfl ?_
  obtain ⟨hv, hf⟩ := gnn_e hf
  obtain ⟨q3, A4, m5, hq, hA, hM, hgd, hf⟩ := alc_e hf
  refine w_newI B 6 rfl hr hgd hq hA hM (iX8_clear _ (List.mem_of_getElem? (i := 4) rfl)) hv ?_
  obtain ⟨hk, hf⟩ := gkd_e hf
  refine w_putr B 7 rfl 8 6 a0 (by decide) hk rfl (iX8_clear _ (List.mem_of_getElem? (i := 5) rfl)) (Or.inl rfl) rfl (ty := (.array .int)) (by decide) (fun _ => ⟨rfl, rfl⟩) ?_
  obtain ⟨m6, ex, hf⟩ := nm_x hf
  refine w_dmm ex ?_
  refine w_aload_n B 8 rfl 0 1 rfl rfl ?_
  refine w_iload_n B 9 rfl 1 0 rfl rfl ?_
  obtain ⟨hv, hf⟩ := gnn_e hf
  obtain ⟨q7, A8, m9, hq, hA, hM, hgd, hf⟩ := alc_e hf
  refine w_newI B 10 rfl hr hgd hq hA hM (iX8_clear _ (List.mem_of_getElem? (i := 4) rfl)) hv ?_
  obtain ⟨hk, hf⟩ := gkd_e hf
  refine w_putr B 11 rfl 8 7 a0 (by decide) hk rfl (iX8_clear _ (List.mem_of_getElem? (i := 6) rfl)) (Or.inl rfl) rfl (ty := (.array .int)) (by decide) (fun _ => ⟨rfl, rfl⟩) ?_
  obtain ⟨m10, ex, hf⟩ := nm_x hf
  refine w_dmm ex ?_
  refine w_aload_n B 12 rfl 0 1 rfl rfl ?_
  refine w_iload_n B 13 rfl 1 0 rfl rfl ?_
  obtain ⟨hv, hf⟩ := gnn_e hf
  obtain ⟨q11, A12, m13, hq, hA, hM, hgd, hf⟩ := alc_e hf
  refine w_newI B 14 rfl hr hgd hq hA hM (iX8_clear _ (List.mem_of_getElem? (i := 4) rfl)) hv ?_
  obtain ⟨hk, hf⟩ := gkd_e hf
  refine w_putr B 15 rfl 8 8 a0 (by decide) hk rfl (iX8_clear _ (List.mem_of_getElem? (i := 7) rfl)) (Or.inl rfl) rfl (ty := (.array .int)) (by decide) (fun _ => ⟨rfl, rfl⟩) ?_
  obtain ⟨m14, ex, hf⟩ := nm_x hf
  refine w_dmm ex ?_
  refine w_aload_n B 16 rfl 0 1 rfl rfl ?_
  refine w_aload_n B 17 rfl 0 1 rfl rfl ?_
  obtain ⟨hk, hf⟩ := gkd_e hf
  obtain ⟨q15, ex, hf⟩ := gtr_e hf
  refine w_getr B 18 rfl 8 2 a0 (by decide) hk rfl (iX8_clear _ (List.mem_of_getElem? (i := 8) rfl)) (Or.inl rfl) ex ?_
  obtain ⟨hk, hf⟩ := gkd_e hf
  obtain ⟨r16, ec, hf⟩ := bd_e hf
  refine w_callV q15 [] [.ref a0] [.int r16, .ref a0] X B 19 rfl miAL_size 9 (by decide) hk rfl rfl ⟨(iX8_clear _ (List.mem_of_getElem? (i := 1) rfl)), (iX8_clear _ (List.mem_of_getElem? (i := 2) rfl)), (iX8_clear _ (List.mem_of_getElem? (i := 3) rfl))⟩ (ctAL_size ec) (Or.inl ⟨rfl, rfl⟩) ⟨Nat.le_of_ble_eq_true rfl, Nat.le_of_ble_eq_true rfl⟩ rfl rfl (Nat.le_of_ble_eq_true rfl) rfl ?_
  refine w_iconst 4 B 20 rfl (by decide) ?_
  obtain ⟨hv, hf⟩ := gnn_e hf
  obtain ⟨q17, A18, m19, hq, hA, hM, hgd, hf⟩ := alg_e hf
  refine w_grid B 21 rfl hr hgd hq hA hM (iX8_clear _ (List.mem_of_getElem? (i := 9) rfl)) (iX8_clear _ (List.mem_of_getElem? (i := 4) rfl)) hv ?_
  obtain ⟨hk, hf⟩ := gkd_e hf
  refine w_putr B 22 rfl 8 9 a0 (by decide) hk rfl (iX8_clear _ (List.mem_of_getElem? (i := 10) rfl)) (Or.inl rfl) rfl (ty := (.array (.array .int))) (by decide) (fun _ => ⟨rfl, rfl⟩) ?_
  obtain ⟨m20, ex, hf⟩ := nm_x hf
  refine w_dmm ex ?_
  refine w_iconst 0 B 23 rfl (by decide) ?_
  refine w_istore_n [(2, .int (0 : Int32)), (1, .int r2), (0, .ref a0)] B 24 rfl 2 rfl (by decide) rfl ?_
  refine w_sub [(0, .ref a0), (1, .int r2), (2, .int (0 : Int32))] [2, 1, 0] rfl ?_
  exact bX8_clear_l47_ok X B hQ hr FU _ _ _ _ _ hf
