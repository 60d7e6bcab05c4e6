/-! the law -/
abbrev rmFL_law : Nat := room_1.frames
abbrev rmLL_law : Nat := room_1.locals
def LEndL (E : Ev2) (b : Nat) : Prop := ∀ {tb : Tb} {pc nx : Nat} {lv : Lv} {mm : Mem} {A : AS} {dm : DM}, Bx2 E RL tb 11 (some .boolean) → (pc, .ireturn, 1, nx) ∈ tb → GL E b 11 pc lv [.int 1] mm A dm
def wL_law : List Cond := [.classLink "ZoneCapacityLaw" 46 "ZoneCapacityLaw$Market", .instantiable "ZoneCapacityLaw$Market" 10, .initialized "ZoneCapacityLaw$Market", .methodLink "ZoneCapacityLaw" 48 yX8_init, .instanceMethod yX8_init, .methodLink "ZoneCapacityLaw" 216 yL_isCleared, .static yL_isCleared, .methodLink "ZoneCapacityLaw" 170 yX6_price, .instanceMethod yX6_price, .selects "ZoneCapacity" yX6_price yX6_price, .methodLink "ZoneCapacityLaw" 208 yX6_surplus, .instanceMethod yX6_surplus, .selects "ZoneCapacity" yX6_surplus yX6_surplus, .methodLink "ZoneCapacityLaw" 187 yX6_taken, .instanceMethod yX6_taken, .selects "ZoneCapacity" yX6_taken yX6_taken, .classLink "ZoneCapacityLaw" 50 "ZoneCapacityLaw$Draws", .instantiable "ZoneCapacityLaw$Draws" 1, .initialized "ZoneCapacityLaw$Draws", .methodLink "ZoneCapacityLaw" 220 yX7_init, .instanceMethod yX7_init, .classLink "ZoneCapacityLaw" 24 "ZoneCapacity", .instantiable "ZoneCapacity" 7, .initialized "ZoneCapacity", .methodLink "ZoneCapacityLaw" 215 yX6_init, .instanceMethod yX6_init, .methodLink "ZoneCapacityLaw" 223 yL_drawn, .static yL_drawn, .methodLink "ZoneCapacityLaw" 227 yL_areLevels, .static yL_areLevels, .methodLink "ZoneCapacityLaw" 106 yJx4a65c_size_8abf5, .instanceMethod yJx4a65c_size_8abf5, .selects "java/util/ArrayList" yJx4a65c_size_8abf5 yJx4a65c_size_8abf5, .methodLink "ZoneCapacityLaw" 49 yX7_next, .instanceMethod yX7_next, .selects "ZoneCapacityLaw$Draws" yX7_next yX7_next, .methodLink "ZoneCapacityLaw" 231 yX6_drop, .instanceMethod yX6_drop, .selects "ZoneCapacity" yX6_drop yX6_drop, .methodLink "ZoneCapacityLaw" 91 yJx4a65c_get_915e3, .instanceMethod yJx4a65c_get_915e3, .selects "java/util/ArrayList" yJx4a65c_get_915e3 yJx4a65c_get_915e3, .classLink "ZoneCapacityLaw" 60 "java/util/ArrayList", .methodLink "ZoneCapacityLaw" 235 yJx4a65c_clear_da8c8, .instanceMethod yJx4a65c_clear_da8c8, .selects "java/util/ArrayList" yJx4a65c_clear_da8c8 yJx4a65c_clear_da8c8, .methodLink "ZoneCapacityLaw" 95 yX6_point, .instanceMethod yX6_point, .selects "ZoneCapacity" yX6_point yX6_point, .arrayClass .int, .methodLink "ZoneCapacityLaw" 59 yJx4a65c_add_9ea2d, .instanceMethod yJx4a65c_add_9ea2d, .selects "java/util/ArrayList" yJx4a65c_add_9ea2d yJx4a65c_add_9ea2d, .classLink "ZoneCapacityLaw" 169 "[I", .methodLink "ZoneCapacityLaw" 113 yX6_set, .instanceMethod yX6_set, .selects "ZoneCapacity" yX6_set yX6_set]
theorem iL_law : ∀ w ∈ wL_law, w ∈ TW := tw_of (ids := [452, 453, 21, 454, 455, 979, 980, 328, 329, 330, 422, 423, 424, 407, 408, 409, 437, 438, 36, 439, 440, 42, 43, 14, 44, 45, 583, 584, 807, 808, 774, 775, 776, 447, 448, 449, 293, 294, 295, 761, 762, 763, 587, 1045, 1046, 1047, 263, 264, 265, 98, 586, 488, 489, 992, 311, 312, 313]) (by decide +kernel)
def bL_law_j451 (k53 : Int32 → Mem → AS → DM → Option (Int32 × AS)) (k126 : Int32 → Nat → Nat → Nat → Int32 → Mem → AS → DM → Option (Int32 × AS)) (L : Nat) (xs : Nat → Int32) (FA : AS) (x2 : Int32) (x3 : Nat) (x4 : Nat) (x5 : Nat) (x6 : Int32) (mm : Mem) (A : AS) (dm : DM) : Option (Int32 × AS) := bdg (fun (x : Int32 × AS) => x.2) A (bL_areLevels mm A dm x4 x5 x3) (fun (x : Int32 × Mem × AS × DM) => x.2.2.1) (fun r50 => if r50.1 = 0 then some ((0 : Int32), FA) else bdg (fun (x : Int32 × AS) => x.2) r50.2.2.1 (bL_isCleared r50.2.1 r50.2.2.1 r50.2.2.2 x4 x5) (fun (x : Int32 × Mem × AS × DM) => x.2.2.1) (fun r51 => if r51.1 = 0 then some ((0 : Int32), FA) else nm (x6 + 1) (fun v52 => k126 x2 x3 x4 x5 v52 r51.2.1 r51.2.2.1 r51.2.2.2)))
def tbbL_law_j451 : Tb := [(451, .aload 4, 2, 453), (453, .aload 5, 2, 455), (455, .aload_n 3, 1, 456), (456, .invokestatic 227, 3, 459), (459, .ifCond .eq 13, 3, 462), (472, .iconst 0, 1, 473), (473, .ireturn, 1, 474), (462, .aload 4, 2, 464), (464, .aload 5, 2, 466), (466, .invokestatic 216, 3, 469), (469, .ifCond .ne 5, 3, 472), (474, .iinc 6 1, 3, 477), (477, .goto (-351), 3, 480)]
theorem dtbL_law_j451 : ∀ q ∈ tbbL_law_j451, decode code q.1 = .ok (q.2.1, q.2.2.1) ∧ q.1 + q.2.2.1 = q.2.2.2 := by decide +kernel
theorem bL_law_j451_ok {E : Ev2} {l : Launch} {K : KF} {L : Nat} {xs : Nat → Int32} {FA : AS} {b9 : Nat} {r0 : Option Value} {mo0 : Mem} {fd0 : DM} {k53 : Int32 → Mem → AS → DM → Option (Int32 × AS)} {k126 : Int32 → Nat → Nat → Nat → Int32 → Mem → AS → DM → Option (Int32 × AS)} (X : Ec2 E l K rmFL_law rmLL_law) (B0 : Bx2 E RL [] 11 (some .boolean)) (hcd : Cd2 E code) (hs : ScL E b9 L xs) (hz9 : HZ K) (hend : LEndL E b9) (hr : Rs2 E r0 mo0 FA fd0) (hk53 : ∀ (x2 : Int32) (mm : Mem) (A : AS) (dm : DM), k53 x2 mm A dm = some (1, FA) → GL E b9 11 53 [(2, .int x2)] [] mm A dm) (hk126 : ∀ (x2 : Int32) (x3 : Nat) (x4 : Nat) (x5 : Nat) (x6 : Int32) (mm : Mem) (A : AS) (dm : DM), k126 x2 x3 x4 x5 x6 mm A dm = some (1, FA) → GL E b9 11 126 [(2, .int x2), (3, .ref x3), (4, .ref x4), (5, .ref x5), (6, .int x6)] [] mm A dm) (x2 : Int32) (x3 : Nat) (x4 : Nat) (x5 : Nat) (x6 : Int32) (mm : Mem) (A : AS) (dm : DM) (hf : bL_law_j451 k53 k126 L xs FA x2 x3 x4 x5 x6 mm A dm = some (1, FA)) : GL E b9 11 451 [(2, .int x2), (3, .ref x3), (4, .ref x4), (5, .ref x5), (6, .int x6)] [] mm A dm := by
  unfold bL_law_j451 at hf
  have B := B0.tab hcd dtbL_law_j451
  refine v_aload B 0 rfl 2 rfl ?_
  refine v_aload B 1 rfl 3 rfl ?_
  refine v_aload_n B 2 rfl 3 1 rfl rfl ?_
  obtain ⟨r50, ec, hgd, hf⟩ := bdg_e hf
  refine v_callS [.ref x4, .ref x5, .ref x3] [] [.int r50.1] X B 3 rfl miL_areLevels ⟨(iL_law _ (List.mem_of_getElem? (i := 28) rfl)), (iL_law _ (List.mem_of_getElem? (i := 29) rfl))⟩ (ctL_areLevels ec) (Or.inr ⟨_, _, _, _, hr, hgd⟩) ⟨Nat.le_of_ble_eq_true rfl, Nat.le_of_ble_eq_true rfl⟩ rfl rfl (Nat.le_of_ble_eq_true rfl) rfl ?_
  by_cases hc : r50.1 = 0
  · replace hf := (if_pos hc).symm.trans hf
    refine v_if_eq_t B 4 rfl 472 (by decide) hc ?_
    refine v_iconst 0 B 5 rfl (by decide) ?_
    exact absurd (congrArg Prod.fst (Option.some.inj hf)) (show ¬ (0 : Int32) = 1 by decide)
  · replace hf := (if_neg hc).symm.trans hf
    refine v_if_eq_f B 4 rfl 472 (by decide) hc ?_
    refine v_aload B 7 rfl 2 rfl ?_
    refine v_aload B 8 rfl 3 rfl ?_
    obtain ⟨r51, ec, hgd, hf⟩ := bdg_e hf
    refine v_callS [.ref x4, .ref x5] [] [.int r51.1] X B 9 rfl miL_isCleared ⟨(iL_law _ (List.mem_of_getElem? (i := 5) rfl)), (iL_law _ (List.mem_of_getElem? (i := 6) rfl))⟩ (ctL_isCleared ec) (Or.inr ⟨_, _, _, _, hr, hgd⟩) ⟨Nat.le_of_ble_eq_true rfl, Nat.le_of_ble_eq_true rfl⟩ rfl rfl (Nat.le_of_ble_eq_true rfl) rfl ?_
    by_cases hc : r51.1 = 0
    · replace hf := (if_pos hc).symm.trans hf
      refine v_if_ne_f B 10 rfl 474 (by decide) hc ?_
      refine v_iconst 0 B 5 rfl (by decide) ?_
      exact absurd (congrArg Prod.fst (Option.some.inj hf)) (show ¬ (0 : Int32) = 1 by decide)
    · replace hf := (if_neg hc).symm.trans hf
      refine v_if_ne_t B 10 rfl 474 (by decide) hc ?_
      obtain ⟨v52, ex, hf⟩ := nm_x hf
      refine v_iinc v52 [(6, .int v52), (2, .int x2), (3, .ref x3), (4, .ref x4), (5, .ref x5)] B 11 rfl 4 rfl (ex.symm) (by decide) rfl ?_
      refine v_goto B 12 rfl 126 (by decide) ?_
      refine v_sub [(2, .int x2), (3, .ref x3), (4, .ref x4), (5, .ref x5), (6, .int v52)] [1, 2, 3, 4, 0] rfl ?_
      exact hk126 _ _ _ _ _ _ _ _ hf
def bL_law_j262 (k53 : Int32 → Mem → AS → DM → Option (Int32 × AS)) (k126 : Int32 → Nat → Nat → Nat → Int32 → Mem → AS → DM → Option (Int32 × AS)) (L : Nat) (xs : Nat → Int32) (FA : AS) (x2 : Int32) (x3 : Nat) (x4 : Nat) (x5 : Nat) (x6 : Int32) (x7 : Int32) (x8 : Int32) (mm : Mem) (A : AS) (dm : DM) : Option (Int32 × AS) := gob A x4 (bd (f6_drop mm x7 (0 : Int32)) (fun r23 => gkd A x5 8 (gtr (dm x5 1) (fun q24 => gkd A q24 9 (bd (bAL_get A dm q24 x7) (fun r25 => gkd A r25 9 (gkd A r25 9 (bd (bAL_size A dm r25) (fun r26 => if r23.1 = r26 then gkd A x5 8 (gtr (dm x5 1) (fun q27 => gkd A q27 9 (bd (bAL_get A dm q27 x7) (fun r28 => gkd A r28 9 (gkd A r28 9 (bd (bAL_clear A dm r28) (fun r29 => gob A x4 (bd (f6_point r23.2 x7 (x8 + (1 : Int32)) (300 : Int32)) (fun r30 => if r30.1 = (1 : Int32) then gob A x4 (bd (f6_point r30.2 x7 (x8 + (1 : Int32)) (200 : Int32)) (fun r31 => if r31.1 = (-1 : Int32) then gob A x4 (bd (f6_point r31.2 x7 (x8 + (2 : Int32)) (301 : Int32)) (fun r32 => if r32.1 = (-1 : Int32) then gob A x4 (bd (f6_point r32.2 x7 (x8 + (30 : Int32)) (50 : Int32)) (fun r33 => if r33.1 = (2 : Int32) then gkd A x5 8 (gtr (r29 x5 1) (fun q34 => gkd A q34 9 (bd (bAL_get A r29 q34 x7) (fun r35 => gkd A r35 9 (gnn (2 : Int32) (alc (fun (x : Int32 × AS) => x.2) A r29 20 (2 : Int32).toNatClampNeg (2 : Int32).toNatClampNeg (fun _ => .int 0) (fun q36 A37 m38 => gkd A37 q36 20 (gix A37 q36 (0 : Int32) (nm (up3 m38 q36 (0 : Int32).toNatClampNeg (.int (x8 + (1 : Int32)))) (fun m39 => gkd A37 q36 20 (gix A37 q36 (1 : Int32) (nm (up3 m39 q36 (1 : Int32).toNatClampNeg (.int (300 : Int32))) (fun m40 => gkd A37 r35 9 (bdg (fun (x : Int32 × AS) => x.2) A37 (bAL_add A37 m40 r35 q36) (fun (x : Int32 × AS × DM) => x.2.1) (fun r41 => gkd r41.2.1 x5 8 (gtr (r41.2.2 x5 1) (fun q42 => gkd r41.2.1 q42 9 (bd (bAL_get r41.2.1 r41.2.2 q42 x7) (fun r43 => gkd r41.2.1 r43 9 (gnn (2 : Int32) (alc (fun (x : Int32 × AS) => x.2) r41.2.1 r41.2.2 20 (2 : Int32).toNatClampNeg (2 : Int32).toNatClampNeg (fun _ => .int 0) (fun q44 A45 m46 => gkd A45 q44 20 (gix A45 q44 (0 : Int32) (nm (up3 m46 q44 (0 : Int32).toNatClampNeg (.int (x8 + (30 : Int32)))) (fun m47 => gkd A45 q44 20 (gix A45 q44 (1 : Int32) (nm (up3 m47 q44 (1 : Int32).toNatClampNeg (.int (50 : Int32))) (fun m48 => gkd A45 r43 9 (bdg (fun (x : Int32 × AS) => x.2) A45 (bAL_add A45 m48 r43 q44) (fun (x : Int32 × AS × DM) => x.2.1) (fun r49 => bL_law_j451 k53 k126 L xs FA x2 x3 x4 x5 x6 r33.2 r49.2.1 r49.2.2)))))))))))))))))))))))))))))) else some ((0 : Int32), FA))) else some ((0 : Int32), FA))) else some ((0 : Int32), FA))) else some ((0 : Int32), FA)))))))))) else some ((0 : Int32), FA))))))))))
def tbbL_law_j262 : Tb := [(262, .aload 4, 2, 264), (264, .iload 7, 2, 266), (266, .iconst 0, 1, 267), (267, .invokevirtual 231, 3, 270), (270, .istore 9, 2, 272), (272, .iload 9, 2, 274), (274, .aload 5, 2, 276), (276, .getfield 65, 3, 279), (279, .iload 7, 2, 281), (281, .invokevirtual 91, 3, 284), (284, .checkcast 60, 3, 287), (287, .invokevirtual 106, 3, 290), (290, .if_icmp .eq 5, 3, 293), (295, .aload 5, 2, 297), (297, .getfield 65, 3, 300), (300, .iload 7, 2, 302), (302, .invokevirtual 91, 3, 305), (305, .checkcast 60, 3, 308), (308, .invokevirtual 235, 3, 311), (311, .aload 4, 2, 313), (313, .iload 7, 2, 315), (315, .iload 8, 2, 317), (317, .iconst 1, 1, 318), (318, .iadd, 1, 319), (319, .sipush 300, 3, 322), (322, .invokevirtual 95, 3, 325), (325, .iconst 1, 1, 326), (326, .if_icmp .ne 57, 3, 329), (383, .iconst 0, 1, 384), (384, .ireturn, 1, 385), (329, .aload 4, 2, 331), (331, .iload 7, 2, 333), (333, .iload 8, 2, 335), (335, .iconst 1, 1, 336), (336, .iadd, 1, 337), (337, .sipush 200, 3, 340), (340, .invokevirtual 95, 3, 343), (343, .iconst (-1), 1, 344), (344, .if_icmp .ne 39, 3, 347), (347, .aload 4, 2, 349), (349, .iload 7, 2, 351), (351, .iload 8, 2, 353), (353, .iconst 2, 1, 354), (354, .iadd, 1, 355), (355, .sipush 301, 3, 358), (358, .invokevirtual 95, 3, 361), (361, .iconst (-1), 1, 362), (362, .if_icmp .ne 21, 3, 365), (365, .aload 4, 2, 367), (367, .iload 7, 2, 369), (369, .iload 8, 2, 371), (371, .bipush 30, 2, 373), (373, .iadd, 1, 374), (374, .bipush 50, 2, 376), (376, .invokevirtual 95, 3, 379), (379, .iconst 2, 1, 380), (380, .if_icmp .eq 5, 3, 383), (385, .aload 5, 2, 387), (387, .getfield 65, 3, 390), (390, .iload 7, 2, 392), (392, .invokevirtual 91, 3, 395), (395, .checkcast 60, 3, 398), (398, .iconst 2, 1, 399), (399, .newarray .int, 2, 401), (401, .dup, 1, 402), (402, .iconst 0, 1, 403), (403, .iload 8, 2, 405), (405, .iconst 1, 1, 406), (406, .iadd, 1, 407), (407, .iastore, 1, 408), (408, .dup, 1, 409), (409, .iconst 1, 1, 410), (410, .sipush 300, 3, 413), (413, .iastore, 1, 414), (414, .invokevirtual 59, 3, 417), (417, .pop, 1, 418), (418, .aload 5, 2, 420), (420, .getfield 65, 3, 423), (423, .iload 7, 2, 425), (425, .invokevirtual 91, 3, 428), (428, .checkcast 60, 3, 431), (431, .iconst 2, 1, 432), (432, .newarray .int, 2, 434), (434, .dup, 1, 435), (435, .iconst 0, 1, 436), (436, .iload 8, 2, 438), (438, .bipush 30, 2, 440), (440, .iadd, 1, 441), (441, .iastore, 1, 442), (442, .dup, 1, 443), (443, .iconst 1, 1, 444), (444, .bipush 50, 2, 446), (446, .iastore, 1, 447), (447, .invokevirtual 59, 3, 450), (450, .pop, 1, 451), (293, .iconst 0, 1, 294), (294, .ireturn, 1, 295)]
theorem dtbL_law_j262 : ∀ q ∈ tbbL_law_j262, decode code q.1 = .ok (q.2.1, q.2.2.1) ∧ q.1 + q.2.2.1 = q.2.2.2 := by decide +kernel
theorem bL_law_j262_ok {E : Ev2} {l : Launch} {K : KF} {L : Nat} {xs : Nat → Int32} {FA : AS} {b9 : Nat} {r0 : Option Value} {mo0 : Mem} {fd0 : DM} {k53 : Int32 → Mem → AS → DM → Option (Int32 × AS)} {k126 : Int32 → Nat → Nat → Nat → Int32 → Mem → AS → DM → Option (Int32 × AS)} (X : Ec2 E l K rmFL_law rmLL_law) (B0 : Bx2 E RL [] 11 (some .boolean)) (hcd : Cd2 E code) (hs : ScL E b9 L xs) (hz9 : HZ K) (hend : LEndL E b9) (hr : Rs2 E r0 mo0 FA fd0) (hk53 : ∀ (x2 : Int32) (mm : Mem) (A : AS) (dm : DM), k53 x2 mm A dm = some (1, FA) → GL E b9 11 53 [(2, .int x2)] [] mm A dm) (hk126 : ∀ (x2 : Int32) (x3 : Nat) (x4 : Nat) (x5 : Nat) (x6 : Int32) (mm : Mem) (A : AS) (dm : DM), k126 x2 x3 x4 x5 x6 mm A dm = some (1, FA) → GL E b9 11 126 [(2, .int x2), (3, .ref x3), (4, .ref x4), (5, .ref x5), (6, .int x6)] [] mm A dm) (x2 : Int32) (x3 : Nat) (x4 : Nat) (x5 : Nat) (x6 : Int32) (x7 : Int32) (x8 : Int32) (mm : Mem) (A : AS) (dm : DM) (hf : bL_law_j262 k53 k126 L xs FA x2 x3 x4 x5 x6 x7 x8 mm A dm = some (1, FA)) : GL E b9 11 262 [(2, .int x2), (3, .ref x3), (4, .ref x4), (5, .ref x5), (6, .int x6), (7, .int x7), (8, .int x8)] [] mm A dm := by
  unfold bL_law_j262 at hf
  have B := B0.tab hcd dtbL_law_j262
  refine v_aload B 0 rfl 2 rfl ?_
  refine v_iload B 1 rfl 5 rfl ?_
  refine v_iconst 0 B 2 rfl (by decide) ?_
  obtain ⟨ho, hf⟩ := gob_e hf
  obtain ⟨r23, ec, hf⟩ := bd_e hf
  refine v_callC x4 [.int x7, .int (0 : Int32)] [] [.int r23.1] X B 3 rfl miX6_drop rfl ho ⟨(iL_law _ (List.mem_of_getElem? (i := 36) rfl)), (iL_law _ (List.mem_of_getElem? (i := 37) rfl)), (iL_law _ (List.mem_of_getElem? (i := 38) rfl))⟩ (fun hj => ctX6_drop hj ec) ⟨Nat.le_of_ble_eq_true rfl, Nat.le_of_ble_eq_true rfl⟩ rfl (fun _ _ => rfl) (fun _ _ => rfl) rfl (Nat.le_of_ble_eq_true rfl) rfl ?_
  refine v_istore [(9, .int r23.1), (2, .int x2), (3, .ref x3), (4, .ref x4), (5, .ref x5), (6, .int x6), (7, .int x7), (8, .int x8)] B 4 rfl (by decide) rfl ?_
  refine v_iload B 5 rfl 0 rfl ?_
  refine v_aload B 6 rfl 4 rfl ?_
  obtain ⟨hk, hf⟩ := gkd_e hf
  obtain ⟨q24, ex, hf⟩ := gtr_e hf
  refine v_getrN B 7 rfl 8 1 x5 (by decide) hk rfl (List.mem_of_getElem? (i := 2) rfl) (Or.inl rfl) ex ?_
  refine v_iload B 8 rfl 6 rfl ?_
  obtain ⟨hk, hf⟩ := gkd_e hf
  obtain ⟨r25, ec, hf⟩ := bd_e hf
  refine v_callV q24 [.int x7] [.int r23.1] [.ref r25, .int r23.1] X B 9 rfl miAL_get 9 (by decide) hk rfl rfl ⟨(iL_law _ (List.mem_of_getElem? (i := 39) rfl)), (iL_law _ (List.mem_of_getElem? (i := 40) rfl)), (iL_law _ (List.mem_of_getElem? (i := 41) rfl))⟩ (ctAL_get ec) (Or.inl ⟨rfl, rfl⟩) ⟨Nat.le_of_ble_eq_true rfl, Nat.le_of_ble_eq_true rfl⟩ rfl rfl (Nat.le_of_ble_eq_true rfl) rfl ?_
  obtain ⟨hk, hf⟩ := gkd_e hf
  refine v_castL B 10 rfl hk (iL_law _ (List.mem_of_getElem? (i := 42) rfl)) ?_
  obtain ⟨hk, hf⟩ := gkd_e hf
  obtain ⟨r26, ec, hf⟩ := bd_e hf
  refine v_callV r25 [] [.int r23.1] [.int r26, .int r23.1] X B 11 rfl miAL_size 9 (by decide) hk rfl rfl ⟨(iL_law _ (List.mem_of_getElem? (i := 30) rfl)), (iL_law _ (List.mem_of_getElem? (i := 31) rfl)), (iL_law _ (List.mem_of_getElem? (i := 32) rfl))⟩ (ctAL_size ec) (Or.inl ⟨rfl, rfl⟩) ⟨Nat.le_of_ble_eq_true rfl, Nat.le_of_ble_eq_true rfl⟩ rfl rfl (Nat.le_of_ble_eq_true rfl) rfl ?_
  by_cases hc : r23.1 = r26
  · replace hf := (if_pos hc).symm.trans hf
    refine v_icmp_eq_t B 12 rfl 295 (by decide) hc ?_
    refine v_aload B 13 rfl 4 rfl ?_
    obtain ⟨hk, hf⟩ := gkd_e hf
    obtain ⟨q27, ex, hf⟩ := gtr_e hf
    refine v_getrN B 14 rfl 8 1 x5 (by decide) hk rfl (List.mem_of_getElem? (i := 2) rfl) (Or.inl rfl) ex ?_
    refine v_iload B 15 rfl 6 rfl ?_
    obtain ⟨hk, hf⟩ := gkd_e hf
    obtain ⟨r28, ec, hf⟩ := bd_e hf
    refine v_callV q27 [.int x7] [] [.ref r28] X B 16 rfl miAL_get 9 (by decide) hk rfl rfl ⟨(iL_law _ (List.mem_of_getElem? (i := 39) rfl)), (iL_law _ (List.mem_of_getElem? (i := 40) rfl)), (iL_law _ (List.mem_of_getElem? (i := 41) rfl))⟩ (ctAL_get ec) (Or.inl ⟨rfl, rfl⟩) ⟨Nat.le_of_ble_eq_true rfl, Nat.le_of_ble_eq_true rfl⟩ rfl rfl (Nat.le_of_ble_eq_true rfl) rfl ?_
    obtain ⟨hk, hf⟩ := gkd_e hf
    refine v_castL B 17 rfl hk (iL_law _ (List.mem_of_getElem? (i := 42) rfl)) ?_
    obtain ⟨hk, hf⟩ := gkd_e hf
    obtain ⟨r29, ec, hf⟩ := bd_e hf
    refine v_callV r28 [] [] [] X B 18 rfl miAL_clear 9 (by decide) hk rfl rfl ⟨(iL_law _ (List.mem_of_getElem? (i := 43) rfl)), (iL_law _ (List.mem_of_getElem? (i := 44) rfl)), (iL_law _ (List.mem_of_getElem? (i := 45) rfl))⟩ (ctAL_clear ec) (Or.inl ⟨rfl, rfl⟩) ⟨Nat.le_of_ble_eq_true rfl, Nat.le_of_ble_eq_true rfl⟩ rfl rfl (Nat.le_of_ble_eq_true rfl) rfl ?_
    refine v_aload B 19 rfl 3 rfl ?_
    refine v_iload B 20 rfl 6 rfl ?_
    refine v_iload B 21 rfl 7 rfl ?_
    refine v_iconst 1 B 22 rfl (by decide) ?_
    refine v_iadd B 23 rfl ?_
    refine v_sipush 300 B 24 rfl (by decide) ?_
    obtain ⟨ho, hf⟩ := gob_e hf
    obtain ⟨r30, ec, hf⟩ := bd_e hf
    refine v_callC x4 [.int x7, .int (x8 + (1 : Int32)), .int (300 : Int32)] [] [.int r30.1] X B 25 rfl miX6_point rfl ho ⟨(iL_law _ (List.mem_of_getElem? (i := 46) rfl)), (iL_law _ (List.mem_of_getElem? (i := 47) rfl)), (iL_law _ (List.mem_of_getElem? (i := 48) rfl))⟩ (fun hj => ctX6_point hj ec) ⟨Nat.le_of_ble_eq_true rfl, Nat.le_of_ble_eq_true rfl⟩ rfl (fun _ _ => rfl) (fun _ _ => rfl) rfl (Nat.le_of_ble_eq_true rfl) rfl ?_
    refine v_iconst 1 B 26 rfl (by decide) ?_
    by_cases hc : r30.1 = (1 : Int32)
    · replace hf := (if_pos hc).symm.trans hf
      refine v_icmp_ne_f B 27 rfl 383 (by decide) hc ?_
      refine v_aload B 30 rfl 3 rfl ?_
      refine v_iload B 31 rfl 6 rfl ?_
      refine v_iload B 32 rfl 7 rfl ?_
      refine v_iconst 1 B 33 rfl (by decide) ?_
      refine v_iadd B 34 rfl ?_
      refine v_sipush 200 B 35 rfl (by decide) ?_
      obtain ⟨ho, hf⟩ := gob_e hf
      obtain ⟨r31, ec, hf⟩ := bd_e hf
      refine v_callC x4 [.int x7, .int (x8 + (1 : Int32)), .int (200 : Int32)] [] [.int r31.1] X B 36 rfl miX6_point rfl ho ⟨(iL_law _ (List.mem_of_getElem? (i := 46) rfl)), (iL_law _ (List.mem_of_getElem? (i := 47) rfl)), (iL_law _ (List.mem_of_getElem? (i := 48) rfl))⟩ (fun hj => ctX6_point hj ec) ⟨Nat.le_of_ble_eq_true rfl, Nat.le_of_ble_eq_true rfl⟩ rfl (fun _ _ => rfl) (fun _ _ => rfl) rfl (Nat.le_of_ble_eq_true rfl) rfl ?_
      refine v_iconst (-1) B 37 rfl (by decide) ?_
      by_cases hc : r31.1 = (-1 : Int32)
      · replace hf := (if_pos hc).symm.trans hf
        refine v_icmp_ne_f B 38 rfl 383 (by decide) hc ?_
        refine v_aload B 39 rfl 3 rfl ?_
        refine v_iload B 40 rfl 6 rfl ?_
        refine v_iload B 41 rfl 7 rfl ?_
        refine v_iconst 2 B 42 rfl (by decide) ?_
        refine v_iadd B 43 rfl ?_
        refine v_sipush 301 B 44 rfl (by decide) ?_
        obtain ⟨ho, hf⟩ := gob_e hf
        obtain ⟨r32, ec, hf⟩ := bd_e hf
        refine v_callC x4 [.int x7, .int (x8 + (2 : Int32)), .int (301 : Int32)] [] [.int r32.1] X B 45 rfl miX6_point rfl ho ⟨(iL_law _ (List.mem_of_getElem? (i := 46) rfl)), (iL_law _ (List.mem_of_getElem? (i := 47) rfl)), (iL_law _ (List.mem_of_getElem? (i := 48) rfl))⟩ (fun hj => ctX6_point hj ec) ⟨Nat.le_of_ble_eq_true rfl, Nat.le_of_ble_eq_true rfl⟩ rfl (fun _ _ => rfl) (fun _ _ => rfl) rfl (Nat.le_of_ble_eq_true rfl) rfl ?_
        refine v_iconst (-1) B 46 rfl (by decide) ?_
        by_cases hc : r32.1 = (-1 : Int32)
        · replace hf := (if_pos hc).symm.trans hf
          refine v_icmp_ne_f B 47 rfl 383 (by decide) hc ?_
          refine v_aload B 48 rfl 3 rfl ?_
          refine v_iload B 49 rfl 6 rfl ?_
          refine v_iload B 50 rfl 7 rfl ?_
          refine v_bipush 30 B 51 rfl (by decide) ?_
          refine v_iadd B 52 rfl ?_
          refine v_bipush 50 B 53 rfl (by decide) ?_
          obtain ⟨ho, hf⟩ := gob_e hf
          obtain ⟨r33, ec, hf⟩ := bd_e hf
          refine v_callC x4 [.int x7, .int (x8 + (30 : Int32)), .int (50 : Int32)] [] [.int r33.1] X B 54 rfl miX6_point rfl ho ⟨(iL_law _ (List.mem_of_getElem? (i := 46) rfl)), (iL_law _ (List.mem_of_getElem? (i := 47) rfl)), (iL_law _ (List.mem_of_getElem? (i := 48) rfl))⟩ (fun hj => ctX6_point hj ec) ⟨Nat.le_of_ble_eq_true rfl, Nat.le_of_ble_eq_true rfl⟩ rfl (fun _ _ => rfl) (fun _ _ => rfl) rfl (Nat.le_of_ble_eq_true rfl) rfl ?_
          refine v_iconst 2 B 55 rfl (by decide) ?_
          by_cases hc : r33.1 = (2 : Int32)
          · replace hf := (if_pos hc).symm.trans hf
            refine v_icmp_eq_t B 56 rfl 385 (by decide) hc ?_
            refine v_aload B 57 rfl 4 rfl ?_
            obtain ⟨hk, hf⟩ := gkd_e hf
            obtain ⟨q34, ex, hf⟩ := gtr_e hf
            refine v_getrN B 58 rfl 8 1 x5 (by decide) hk rfl (List.mem_of_getElem? (i := 2) rfl) (Or.inl rfl) ex ?_
            refine v_iload B 59 rfl 6 rfl ?_
            obtain ⟨hk, hf⟩ := gkd_e hf
            obtain ⟨r35, ec, hf⟩ := bd_e hf
            refine v_callV q34 [.int x7] [] [.ref r35] X B 60 rfl miAL_get 9 (by decide) hk rfl rfl ⟨(iL_law _ (List.mem_of_getElem? (i := 39) rfl)), (iL_law _ (List.mem_of_getElem? (i := 40) rfl)), (iL_law _ (List.mem_of_getElem? (i := 41) rfl))⟩ (ctAL_get ec) (Or.inl ⟨rfl, rfl⟩) ⟨Nat.le_of_ble_eq_true rfl, Nat.le_of_ble_eq_true rfl⟩ rfl rfl (Nat.le_of_ble_eq_true rfl) rfl ?_
            obtain ⟨hk, hf⟩ := gkd_e hf
            refine v_castL B 61 rfl hk (iL_law _ (List.mem_of_getElem? (i := 42) rfl)) ?_
            refine v_iconst 2 B 62 rfl (by decide) ?_
            obtain ⟨hv, hf⟩ := gnn_e hf
            obtain ⟨q36, A37, m38, hq, hA, hM, hgd, hf⟩ := alc_e hf
            refine v_newI B 63 rfl hr hgd hq hA hM (iL_law _ (List.mem_of_getElem? (i := 49) rfl)) hv ?_
            refine v_dup B 64 rfl rfl ?_
            refine v_iconst 0 B 65 rfl (by decide) ?_
            refine v_iload B 66 rfl 7 rfl ?_
            refine v_iconst 1 B 67 rfl (by decide) ?_
            refine v_iadd B 68 rfl ?_
            obtain ⟨hk, hf⟩ := gkd_e hf
            obtain ⟨hx, hf⟩ := gix_e hf
            refine v_iast B 69 rfl hk hx ?_
            obtain ⟨m39, ex, hf⟩ := nm_x hf
            refine v_dmm ex ?_
            refine v_dup B 70 rfl rfl ?_
            refine v_iconst 1 B 71 rfl (by decide) ?_
            refine v_sipush 300 B 72 rfl (by decide) ?_
            obtain ⟨hk, hf⟩ := gkd_e hf
            obtain ⟨hx, hf⟩ := gix_e hf
            refine v_iast B 73 rfl hk hx ?_
            obtain ⟨m40, ex, hf⟩ := nm_x hf
            refine v_dmm ex ?_
            obtain ⟨hk, hf⟩ := gkd_e hf
            obtain ⟨r41, ec, hgd, hf⟩ := bdg_e hf
            refine v_callV r35 [.ref q36] [] [.int r41.1] X B 74 rfl miAL_add 9 (by decide) hk rfl rfl ⟨(iL_law _ (List.mem_of_getElem? (i := 50) rfl)), (iL_law _ (List.mem_of_getElem? (i := 51) rfl)), (iL_law _ (List.mem_of_getElem? (i := 52) rfl))⟩ (ctAL_add ec) (Or.inr ⟨_, _, _, _, hr, hgd⟩) ⟨Nat.le_of_ble_eq_true rfl, Nat.le_of_ble_eq_true rfl⟩ rfl rfl (Nat.le_of_ble_eq_true rfl) rfl ?_
            refine v_pop B 75 rfl rfl ?_
            refine v_aload B 76 rfl 4 rfl ?_
            obtain ⟨hk, hf⟩ := gkd_e hf
            obtain ⟨q42, ex, hf⟩ := gtr_e hf
            refine v_getrN B 77 rfl 8 1 x5 (by decide) hk rfl (List.mem_of_getElem? (i := 2) rfl) (Or.inl rfl) ex ?_
            refine v_iload B 78 rfl 6 rfl ?_
            obtain ⟨hk, hf⟩ := gkd_e hf
            obtain ⟨r43, ec, hf⟩ := bd_e hf
            refine v_callV q42 [.int x7] [] [.ref r43] X B 79 rfl miAL_get 9 (by decide) hk rfl rfl ⟨(iL_law _ (List.mem_of_getElem? (i := 39) rfl)), (iL_law _ (List.mem_of_getElem? (i := 40) rfl)), (iL_law _ (List.mem_of_getElem? (i := 41) rfl))⟩ (ctAL_get ec) (Or.inl ⟨rfl, rfl⟩) ⟨Nat.le_of_ble_eq_true rfl, Nat.le_of_ble_eq_true rfl⟩ rfl rfl (Nat.le_of_ble_eq_true rfl) rfl ?_
            obtain ⟨hk, hf⟩ := gkd_e hf
            refine v_castL B 80 rfl hk (iL_law _ (List.mem_of_getElem? (i := 42) rfl)) ?_
            refine v_iconst 2 B 81 rfl (by decide) ?_
            obtain ⟨hv, hf⟩ := gnn_e hf
            obtain ⟨q44, A45, m46, hq, hA, hM, hgd, hf⟩ := alc_e hf
            refine v_newI B 82 rfl hr hgd hq hA hM (iL_law _ (List.mem_of_getElem? (i := 49) rfl)) hv ?_
            refine v_dup B 83 rfl rfl ?_
            refine v_iconst 0 B 84 rfl (by decide) ?_
            refine v_iload B 85 rfl 7 rfl ?_
            refine v_bipush 30 B 86 rfl (by decide) ?_
            refine v_iadd B 87 rfl ?_
            obtain ⟨hk, hf⟩ := gkd_e hf
            obtain ⟨hx, hf⟩ := gix_e hf
            refine v_iast B 88 rfl hk hx ?_
            obtain ⟨m47, ex, hf⟩ := nm_x hf
            refine v_dmm ex ?_
            refine v_dup B 89 rfl rfl ?_
            refine v_iconst 1 B 90 rfl (by decide) ?_
            refine v_bipush 50 B 91 rfl (by decide) ?_
            obtain ⟨hk, hf⟩ := gkd_e hf
            obtain ⟨hx, hf⟩ := gix_e hf
            refine v_iast B 92 rfl hk hx ?_
            obtain ⟨m48, ex, hf⟩ := nm_x hf
            refine v_dmm ex ?_
            obtain ⟨hk, hf⟩ := gkd_e hf
            obtain ⟨r49, ec, hgd, hf⟩ := bdg_e hf
            refine v_callV r43 [.ref q44] [] [.int r49.1] X B 93 rfl miAL_add 9 (by decide) hk rfl rfl ⟨(iL_law _ (List.mem_of_getElem? (i := 50) rfl)), (iL_law _ (List.mem_of_getElem? (i := 51) rfl)), (iL_law _ (List.mem_of_getElem? (i := 52) rfl))⟩ (ctAL_add ec) (Or.inr ⟨_, _, _, _, hr, hgd⟩) ⟨Nat.le_of_ble_eq_true rfl, Nat.le_of_ble_eq_true rfl⟩ rfl rfl (Nat.le_of_ble_eq_true rfl) rfl ?_
            refine v_pop B 94 rfl rfl ?_
            refine v_sub [(2, .int x2), (3, .ref x3), (4, .ref x4), (5, .ref x5), (6, .int x6)] [1, 2, 3, 4, 5] rfl ?_
            exact bL_law_j451_ok X B0 hcd hs hz9 hend hr hk53 hk126 _ _ _ _ _ _ _ _ hf
          · replace hf := (if_neg hc).symm.trans hf
            refine v_icmp_eq_f B 56 rfl 385 (by decide) hc ?_
            refine v_iconst 0 B 28 rfl (by decide) ?_
            exact absurd (congrArg Prod.fst (Option.some.inj hf)) (show ¬ (0 : Int32) = 1 by decide)
        · replace hf := (if_neg hc).symm.trans hf
          refine v_icmp_ne_t B 47 rfl 383 (by decide) hc ?_
          refine v_iconst 0 B 28 rfl (by decide) ?_
          exact absurd (congrArg Prod.fst (Option.some.inj hf)) (show ¬ (0 : Int32) = 1 by decide)
      · replace hf := (if_neg hc).symm.trans hf
        refine v_icmp_ne_t B 38 rfl 383 (by decide) hc ?_
        refine v_iconst 0 B 28 rfl (by decide) ?_
        exact absurd (congrArg Prod.fst (Option.some.inj hf)) (show ¬ (0 : Int32) = 1 by decide)
    · replace hf := (if_neg hc).symm.trans hf
      refine v_icmp_ne_t B 27 rfl 383 (by decide) hc ?_
      refine v_iconst 0 B 28 rfl (by decide) ?_
      exact absurd (congrArg Prod.fst (Option.some.inj hf)) (show ¬ (0 : Int32) = 1 by decide)
  · replace hf := (if_neg hc).symm.trans hf
    refine v_icmp_eq_f B 12 rfl 295 (by decide) hc ?_
    refine v_iconst 0 B 95 rfl (by decide) ?_
    exact absurd (congrArg Prod.fst (Option.some.inj hf)) (show ¬ (0 : Int32) = 1 by decide)
def bL_law_j256 (k53 : Int32 → Mem → AS → DM → Option (Int32 × AS)) (k126 : Int32 → Nat → Nat → Nat → Int32 → Mem → AS → DM → Option (Int32 × AS)) (L : Nat) (xs : Nat → Int32) (FA : AS) (x2 : Int32) (x3 : Nat) (x4 : Nat) (x5 : Nat) (x6 : Int32) (x8 : Int32) (s0 : Int32) (s1 : Nat) (mm : Mem) (A : AS) (dm : DM) : Option (Int32 × AS) := gkd A s1 20 (gix A s1 s0 (nm (up3 dm s1 s0.toNatClampNeg (.int x8)) (fun m59 => bL_law_j451 k53 k126 L xs FA x2 x3 x4 x5 x6 mm A m59)))
def tbbL_law_j256 : Tb := [(256, .iload 8, 2, 258), (258, .iastore, 1, 259), (259, .goto 192, 3, 262)]
theorem dtbL_law_j256 : ∀ q ∈ tbbL_law_j256, decode code q.1 = .ok (q.2.1, q.2.2.1) ∧ q.1 + q.2.2.1 = q.2.2.2 := by decide +kernel
theorem bL_law_j256_ok {E : Ev2} {l : Launch} {K : KF} {L : Nat} {xs : Nat → Int32} {FA : AS} {b9 : Nat} {r0 : Option Value} {mo0 : Mem} {fd0 : DM} {k53 : Int32 → Mem → AS → DM → Option (Int32 × AS)} {k126 : Int32 → Nat → Nat → Nat → Int32 → Mem → AS → DM → Option (Int32 × AS)} (X : Ec2 E l K rmFL_law rmLL_law) (B0 : Bx2 E RL [] 11 (some .boolean)) (hcd : Cd2 E code) (hs : ScL E b9 L xs) (hz9 : HZ K) (hend : LEndL E b9) (hr : Rs2 E r0 mo0 FA fd0) (hk53 : ∀ (x2 : Int32) (mm : Mem) (A : AS) (dm : DM), k53 x2 mm A dm = some (1, FA) → GL E b9 11 53 [(2, .int x2)] [] mm A dm) (hk126 : ∀ (x2 : Int32) (x3 : Nat) (x4 : Nat) (x5 : Nat) (x6 : Int32) (mm : Mem) (A : AS) (dm : DM), k126 x2 x3 x4 x5 x6 mm A dm = some (1, FA) → GL E b9 11 126 [(2, .int x2), (3, .ref x3), (4, .ref x4), (5, .ref x5), (6, .int x6)] [] mm A dm) (x2 : Int32) (x3 : Nat) (x4 : Nat) (x5 : Nat) (x6 : Int32) (x8 : Int32) (s0 : Int32) (s1 : Nat) (mm : Mem) (A : AS) (dm : DM) (hf : bL_law_j256 k53 k126 L xs FA x2 x3 x4 x5 x6 x8 s0 s1 mm A dm = some (1, FA)) : GL E b9 11 256 [(2, .int x2), (3, .ref x3), (4, .ref x4), (5, .ref x5), (6, .int x6), (8, .int x8)] [.int s0, .ref s1] mm A dm := by
  unfold bL_law_j256 at hf
  have B := B0.tab hcd dtbL_law_j256
  refine v_iload B 0 rfl 5 rfl ?_
  obtain ⟨hk, hf⟩ := gkd_e hf
  obtain ⟨hx, hf⟩ := gix_e hf
  refine v_iast B 1 rfl hk hx ?_
  obtain ⟨m59, ex, hf⟩ := nm_x hf
  refine v_dmm ex ?_
  refine v_goto B 2 rfl 451 (by decide) ?_
  refine v_sub [(2, .int x2), (3, .ref x3), (4, .ref x4), (5, .ref x5), (6, .int x6)] [0, 1, 2, 3, 4] rfl ?_
  exact bL_law_j451_ok X B0 hcd hs hz9 hend hr hk53 hk126 _ _ _ _ _ _ _ _ hf
def bL_law_j239 (k53 : Int32 → Mem → AS → DM → Option (Int32 × AS)) (k126 : Int32 → Nat → Nat → Nat → Int32 → Mem → AS → DM → Option (Int32 × AS)) (L : Nat) (xs : Nat → Int32) (FA : AS) (x2 : Int32) (x3 : Nat) (x4 : Nat) (x5 : Nat) (x6 : Int32) (x8 : Int32) (x9 : Int32) (x10 : Nat) (s0 : Int32) (s1 : Int32) (mm : Mem) (A : AS) (dm : DM) : Option (Int32 × AS) := if s1 = s0 then if x9 = 0 then bL_law_j256 k53 k126 L xs FA x2 x3 x4 x5 x6 x8 (1 : Int32) x10 mm A dm else bL_law_j256 k53 k126 L xs FA x2 x3 x4 x5 x6 x8 (2 : Int32) x10 mm A dm else some ((0 : Int32), FA)
def tbbL_law_j239 : Tb := [(239, .if_icmp .eq 5, 3, 242), (244, .aload 10, 2, 246), (246, .iload 9, 2, 248), (248, .ifCond .eq 7, 3, 251), (255, .iconst 1, 1, 256), (251, .iconst 2, 1, 252), (252, .goto 4, 3, 255), (242, .iconst 0, 1, 243), (243, .ireturn, 1, 244)]
theorem dtbL_law_j239 : ∀ q ∈ tbbL_law_j239, decode code q.1 = .ok (q.2.1, q.2.2.1) ∧ q.1 + q.2.2.1 = q.2.2.2 := by decide +kernel
theorem bL_law_j239_ok {E : Ev2} {l : Launch} {K : KF} {L : Nat} {xs : Nat → Int32} {FA : AS} {b9 : Nat} {r0 : Option Value} {mo0 : Mem} {fd0 : DM} {k53 : Int32 → Mem → AS → DM → Option (Int32 × AS)} {k126 : Int32 → Nat → Nat → Nat → Int32 → Mem → AS → DM → Option (Int32 × AS)} (X : Ec2 E l K rmFL_law rmLL_law) (B0 : Bx2 E RL [] 11 (some .boolean)) (hcd : Cd2 E code) (hs : ScL E b9 L xs) (hz9 : HZ K) (hend : LEndL E b9) (hr : Rs2 E r0 mo0 FA fd0) (hk53 : ∀ (x2 : Int32) (mm : Mem) (A : AS) (dm : DM), k53 x2 mm A dm = some (1, FA) → GL E b9 11 53 [(2, .int x2)] [] mm A dm) (hk126 : ∀ (x2 : Int32) (x3 : Nat) (x4 : Nat) (x5 : Nat) (x6 : Int32) (mm : Mem) (A : AS) (dm : DM), k126 x2 x3 x4 x5 x6 mm A dm = some (1, FA) → GL E b9 11 126 [(2, .int x2), (3, .ref x3), (4, .ref x4), (5, .ref x5), (6, .int x6)] [] mm A dm) (x2 : Int32) (x3 : Nat) (x4 : Nat) (x5 : Nat) (x6 : Int32) (x8 : Int32) (x9 : Int32) (x10 : Nat) (s0 : Int32) (s1 : Int32) (mm : Mem) (A : AS) (dm : DM) (hf : bL_law_j239 k53 k126 L xs FA x2 x3 x4 x5 x6 x8 x9 x10 s0 s1 mm A dm = some (1, FA)) : GL E b9 11 239 [(2, .int x2), (3, .ref x3), (4, .ref x4), (5, .ref x5), (6, .int x6), (8, .int x8), (9, .int x9), (10, .ref x10)] [.int s0, .int s1] mm A dm := by
  unfold bL_law_j239 at hf
  have B := B0.tab hcd dtbL_law_j239
  by_cases hc : s1 = s0
  · replace hf := (if_pos hc).symm.trans hf
    refine v_icmp_eq_t B 0 rfl 244 (by decide) hc ?_
    refine v_aload B 1 rfl 7 rfl ?_
    refine v_iload B 2 rfl 6 rfl ?_
    by_cases hc : x9 = 0
    · replace hf := (if_pos hc).symm.trans hf
      refine v_if_eq_t B 3 rfl 255 (by decide) hc ?_
      refine v_iconst 1 B 4 rfl (by decide) ?_
      refine v_sub [(2, .int x2), (3, .ref x3), (4, .ref x4), (5, .ref x5), (6, .int x6), (8, .int x8)] [0, 1, 2, 3, 4, 5] rfl ?_
      exact bL_law_j256_ok X B0 hcd hs hz9 hend hr hk53 hk126 _ _ _ _ _ _ _ _ _ _ _ hf
    · replace hf := (if_neg hc).symm.trans hf
      refine v_if_eq_f B 3 rfl 255 (by decide) hc ?_
      refine v_iconst 2 B 5 rfl (by decide) ?_
      refine v_goto B 6 rfl 256 (by decide) ?_
      refine v_sub [(2, .int x2), (3, .ref x3), (4, .ref x4), (5, .ref x5), (6, .int x6), (8, .int x8)] [0, 1, 2, 3, 4, 5] rfl ?_
      exact bL_law_j256_ok X B0 hcd hs hz9 hend hr hk53 hk126 _ _ _ _ _ _ _ _ _ _ _ hf
  · replace hf := (if_neg hc).symm.trans hf
    refine v_icmp_eq_f B 0 rfl 244 (by decide) hc ?_
    refine v_iconst 0 B 7 rfl (by decide) ?_
    exact absurd (congrArg Prod.fst (Option.some.inj hf)) (show ¬ (0 : Int32) = 1 by decide)
def bL_law_j228 (k53 : Int32 → Mem → AS → DM → Option (Int32 × AS)) (k126 : Int32 → Nat → Nat → Nat → Int32 → Mem → AS → DM → Option (Int32 × AS)) (L : Nat) (xs : Nat → Int32) (FA : AS) (x2 : Int32) (x3 : Nat) (x4 : Nat) (x5 : Nat) (x6 : Int32) (x8 : Int32) (x9 : Int32) (x10 : Nat) (s0 : Int32) (s1 : Nat) (s2 : Int32) (mm : Mem) (A : AS) (dm : DM) : Option (Int32 × AS) := gkd A s1 20 (gix A s1 s0 (gti (dm s1 s0.toNatClampNeg) (fun v58 => if v58 = x8 then bL_law_j239 k53 k126 L xs FA x2 x3 x4 x5 x6 x8 x9 x10 (0 : Int32) s2 mm A dm else bL_law_j239 k53 k126 L xs FA x2 x3 x4 x5 x6 x8 x9 x10 (1 : Int32) s2 mm A dm)))
def tbbL_law_j228 : Tb := [(228, .iaload, 1, 229), (229, .iload 8, 2, 231), (231, .if_icmp .eq 7, 3, 234), (238, .iconst 0, 1, 239), (234, .iconst 1, 1, 235), (235, .goto 4, 3, 238)]
theorem dtbL_law_j228 : ∀ q ∈ tbbL_law_j228, decode code q.1 = .ok (q.2.1, q.2.2.1) ∧ q.1 + q.2.2.1 = q.2.2.2 := by decide +kernel
theorem bL_law_j228_ok {E : Ev2} {l : Launch} {K : KF} {L : Nat} {xs : Nat → Int32} {FA : AS} {b9 : Nat} {r0 : Option Value} {mo0 : Mem} {fd0 : DM} {k53 : Int32 → Mem → AS → DM → Option (Int32 × AS)} {k126 : Int32 → Nat → Nat → Nat → Int32 → Mem → AS → DM → Option (Int32 × AS)} (X : Ec2 E l K rmFL_law rmLL_law) (B0 : Bx2 E RL [] 11 (some .boolean)) (hcd : Cd2 E code) (hs : ScL E b9 L xs) (hz9 : HZ K) (hend : LEndL E b9) (hr : Rs2 E r0 mo0 FA fd0) (hk53 : ∀ (x2 : Int32) (mm : Mem) (A : AS) (dm : DM), k53 x2 mm A dm = some (1, FA) → GL E b9 11 53 [(2, .int x2)] [] mm A dm) (hk126 : ∀ (x2 : Int32) (x3 : Nat) (x4 : Nat) (x5 : Nat) (x6 : Int32) (mm : Mem) (A : AS) (dm : DM), k126 x2 x3 x4 x5 x6 mm A dm = some (1, FA) → GL E b9 11 126 [(2, .int x2), (3, .ref x3), (4, .ref x4), (5, .ref x5), (6, .int x6)] [] mm A dm) (x2 : Int32) (x3 : Nat) (x4 : Nat) (x5 : Nat) (x6 : Int32) (x8 : Int32) (x9 : Int32) (x10 : Nat) (s0 : Int32) (s1 : Nat) (s2 : Int32) (mm : Mem) (A : AS) (dm : DM) (hf : bL_law_j228 k53 k126 L xs FA x2 x3 x4 x5 x6 x8 x9 x10 s0 s1 s2 mm A dm = some (1, FA)) : GL E b9 11 228 [(2, .int x2), (3, .ref x3), (4, .ref x4), (5, .ref x5), (6, .int x6), (8, .int x8), (9, .int x9), (10, .ref x10)] [.int s0, .ref s1, .int s2] mm A dm := by
  unfold bL_law_j228 at hf
  have B := B0.tab hcd dtbL_law_j228
  obtain ⟨hk, hf⟩ := gkd_e hf
  obtain ⟨hx, hf⟩ := gix_e hf
  obtain ⟨v58, ex, hf⟩ := gti_e hf
  refine v_iald B 0 rfl hk hx ex ?_
  refine v_iload B 1 rfl 5 rfl ?_
  by_cases hc : v58 = x8
  · replace hf := (if_pos hc).symm.trans hf
    refine v_icmp_eq_t B 2 rfl 238 (by decide) hc ?_
    refine v_iconst 0 B 3 rfl (by decide) ?_
    exact bL_law_j239_ok X B0 hcd hs hz9 hend hr hk53 hk126 _ _ _ _ _ _ _ _ _ _ _ _ _ hf
  · replace hf := (if_neg hc).symm.trans hf
    refine v_icmp_eq_f B 2 rfl 238 (by decide) hc ?_
    refine v_iconst 1 B 4 rfl (by decide) ?_
    refine v_goto B 5 rfl 239 (by decide) ?_
    exact bL_law_j239_ok X B0 hcd hs hz9 hend hr hk53 hk126 _ _ _ _ _ _ _ _ _ _ _ _ _ hf
def bL_law_j209 (k53 : Int32 → Mem → AS → DM → Option (Int32 × AS)) (k126 : Int32 → Nat → Nat → Nat → Int32 → Mem → AS → DM → Option (Int32 × AS)) (L : Nat) (xs : Nat → Int32) (FA : AS) (x2 : Int32) (x3 : Nat) (x4 : Nat) (x5 : Nat) (x6 : Int32) (x7 : Int32) (x8 : Int32) (x9 : Int32) (x10 : Nat) (s0 : Int32) (s1 : Nat) (mm : Mem) (A : AS) (dm : DM) : Option (Int32 × AS) := gob A s1 (bd (f6_set mm s0 x7 x8) (fun r57 => if x9 = 0 then bL_law_j228 k53 k126 L xs FA x2 x3 x4 x5 x6 x8 x9 x10 (1 : Int32) x10 r57.1 r57.2 A dm else bL_law_j228 k53 k126 L xs FA x2 x3 x4 x5 x6 x8 x9 x10 (2 : Int32) x10 r57.1 r57.2 A dm))
def tbbL_law_j209 : Tb := [(209, .iload 7, 2, 211), (211, .iload 8, 2, 213), (213, .invokevirtual 113, 3, 216), (216, .aload 10, 2, 218), (218, .iload 9, 2, 220), (220, .ifCond .eq 7, 3, 223), (227, .iconst 1, 1, 228), (223, .iconst 2, 1, 224), (224, .goto 4, 3, 227)]
theorem dtbL_law_j209 : ∀ q ∈ tbbL_law_j209, decode code q.1 = .ok (q.2.1, q.2.2.1) ∧ q.1 + q.2.2.1 = q.2.2.2 := by decide +kernel
theorem bL_law_j209_ok {E : Ev2} {l : Launch} {K : KF} {L : Nat} {xs : Nat → Int32} {FA : AS} {b9 : Nat} {r0 : Option Value} {mo0 : Mem} {fd0 : DM} {k53 : Int32 → Mem → AS → DM → Option (Int32 × AS)} {k126 : Int32 → Nat → Nat → Nat → Int32 → Mem → AS → DM → Option (Int32 × AS)} (X : Ec2 E l K rmFL_law rmLL_law) (B0 : Bx2 E RL [] 11 (some .boolean)) (hcd : Cd2 E code) (hs : ScL E b9 L xs) (hz9 : HZ K) (hend : LEndL E b9) (hr : Rs2 E r0 mo0 FA fd0) (hk53 : ∀ (x2 : Int32) (mm : Mem) (A : AS) (dm : DM), k53 x2 mm A dm = some (1, FA) → GL E b9 11 53 [(2, .int x2)] [] mm A dm) (hk126 : ∀ (x2 : Int32) (x3 : Nat) (x4 : Nat) (x5 : Nat) (x6 : Int32) (mm : Mem) (A : AS) (dm : DM), k126 x2 x3 x4 x5 x6 mm A dm = some (1, FA) → GL E b9 11 126 [(2, .int x2), (3, .ref x3), (4, .ref x4), (5, .ref x5), (6, .int x6)] [] mm A dm) (x2 : Int32) (x3 : Nat) (x4 : Nat) (x5 : Nat) (x6 : Int32) (x7 : Int32) (x8 : Int32) (x9 : Int32) (x10 : Nat) (s0 : Int32) (s1 : Nat) (mm : Mem) (A : AS) (dm : DM) (hf : bL_law_j209 k53 k126 L xs FA x2 x3 x4 x5 x6 x7 x8 x9 x10 s0 s1 mm A dm = some (1, FA)) : GL E b9 11 209 [(2, .int x2), (3, .ref x3), (4, .ref x4), (5, .ref x5), (6, .int x6), (7, .int x7), (8, .int x8), (9, .int x9), (10, .ref x10)] [.int s0, .ref s1] mm A dm := by
  unfold bL_law_j209 at hf
  have B := B0.tab hcd dtbL_law_j209
  refine v_iload B 0 rfl 5 rfl ?_
  refine v_iload B 1 rfl 6 rfl ?_
  obtain ⟨ho, hf⟩ := gob_e hf
  obtain ⟨r57, ec, hf⟩ := bd_e hf
  refine v_callC s1 [.int s0, .int x7, .int x8] [] [.int r57.1] X B 2 rfl miX6_set rfl ho ⟨(iL_law _ (List.mem_of_getElem? (i := 54) rfl)), (iL_law _ (List.mem_of_getElem? (i := 55) rfl)), (iL_law _ (List.mem_of_getElem? (i := 56) rfl))⟩ (fun hj => ctX6_set hj ec) ⟨Nat.le_of_ble_eq_true rfl, Nat.le_of_ble_eq_true rfl⟩ rfl (fun _ _ => rfl) (fun _ _ => rfl) rfl (Nat.le_of_ble_eq_true rfl) rfl ?_
  refine v_aload B 3 rfl 8 rfl ?_
  refine v_iload B 4 rfl 7 rfl ?_
  by_cases hc : x9 = 0
  · replace hf := (if_pos hc).symm.trans hf
    refine v_if_eq_t B 5 rfl 227 (by decide) hc ?_
    refine v_iconst 1 B 6 rfl (by decide) ?_
    refine v_sub [(2, .int x2), (3, .ref x3), (4, .ref x4), (5, .ref x5), (6, .int x6), (8, .int x8), (9, .int x9), (10, .ref x10)] [0, 1, 2, 3, 4, 6, 7, 8] rfl ?_
    exact bL_law_j228_ok X B0 hcd hs hz9 hend hr hk53 hk126 _ _ _ _ _ _ _ _ _ _ _ _ _ _ hf
  · replace hf := (if_neg hc).symm.trans hf
    refine v_if_eq_f B 5 rfl 227 (by decide) hc ?_
    refine v_iconst 2 B 7 rfl (by decide) ?_
    refine v_goto B 8 rfl 228 (by decide) ?_
    refine v_sub [(2, .int x2), (3, .ref x3), (4, .ref x4), (5, .ref x5), (6, .int x6), (8, .int x8), (9, .int x9), (10, .ref x10)] [0, 1, 2, 3, 4, 6, 7, 8] rfl ?_
    exact bL_law_j228_ok X B0 hcd hs hz9 hend hr hk53 hk126 _ _ _ _ _ _ _ _ _ _ _ _ _ _ hf
def bL_law_j180 (k53 : Int32 → Mem → AS → DM → Option (Int32 × AS)) (k126 : Int32 → Nat → Nat → Nat → Int32 → Mem → AS → DM → Option (Int32 × AS)) (L : Nat) (xs : Nat → Int32) (FA : AS) (x2 : Int32) (x3 : Nat) (x4 : Nat) (x5 : Nat) (x6 : Int32) (x7 : Int32) (x8 : Int32) (s0 : Int32) (mm : Mem) (A : AS) (dm : DM) : Option (Int32 × AS) := gkd A x5 8 (gtr (dm x5 0) (fun q55 => gkd A q55 9 (bd (bAL_get A dm q55 x7) (fun r56 => gkd A r56 20 (if s0 = 0 then bL_law_j209 k53 k126 L xs FA x2 x3 x4 x5 x6 x7 x8 s0 r56 (2 : Int32) x4 mm A dm else bL_law_j209 k53 k126 L xs FA x2 x3 x4 x5 x6 x7 x8 s0 r56 (3 : Int32) x4 mm A dm)))))
def tbbL_law_j180 : Tb := [(180, .istore 9, 2, 182), (182, .aload 5, 2, 184), (184, .getfield 55, 3, 187), (187, .iload 7, 2, 189), (189, .invokevirtual 91, 3, 192), (192, .checkcast 169, 3, 195), (195, .astore 10, 2, 197), (197, .aload 4, 2, 199), (199, .iload 9, 2, 201), (201, .ifCond .eq 7, 3, 204), (208, .iconst 2, 1, 209), (204, .iconst 3, 1, 205), (205, .goto 4, 3, 208)]
theorem dtbL_law_j180 : ∀ q ∈ tbbL_law_j180, decode code q.1 = .ok (q.2.1, q.2.2.1) ∧ q.1 + q.2.2.1 = q.2.2.2 := by decide +kernel
theorem bL_law_j180_ok {E : Ev2} {l : Launch} {K : KF} {L : Nat} {xs : Nat → Int32} {FA : AS} {b9 : Nat} {r0 : Option Value} {mo0 : Mem} {fd0 : DM} {k53 : Int32 → Mem → AS → DM → Option (Int32 × AS)} {k126 : Int32 → Nat → Nat → Nat → Int32 → Mem → AS → DM → Option (Int32 × AS)} (X : Ec2 E l K rmFL_law rmLL_law) (B0 : Bx2 E RL [] 11 (some .boolean)) (hcd : Cd2 E code) (hs : ScL E b9 L xs) (hz9 : HZ K) (hend : LEndL E b9) (hr : Rs2 E r0 mo0 FA fd0) (hk53 : ∀ (x2 : Int32) (mm : Mem) (A : AS) (dm : DM), k53 x2 mm A dm = some (1, FA) → GL E b9 11 53 [(2, .int x2)] [] mm A dm) (hk126 : ∀ (x2 : Int32) (x3 : Nat) (x4 : Nat) (x5 : Nat) (x6 : Int32) (mm : Mem) (A : AS) (dm : DM), k126 x2 x3 x4 x5 x6 mm A dm = some (1, FA) → GL E b9 11 126 [(2, .int x2), (3, .ref x3), (4, .ref x4), (5, .ref x5), (6, .int x6)] [] mm A dm) (x2 : Int32) (x3 : Nat) (x4 : Nat) (x5 : Nat) (x6 : Int32) (x7 : Int32) (x8 : Int32) (s0 : Int32) (mm : Mem) (A : AS) (dm : DM) (hf : bL_law_j180 k53 k126 L xs FA x2 x3 x4 x5 x6 x7 x8 s0 mm A dm = some (1, FA)) : GL E b9 11 180 [(2, .int x2), (3, .ref x3), (4, .ref x4), (5, .ref x5), (6, .int x6), (7, .int x7), (8, .int x8)] [.int s0] mm A dm := by
  unfold bL_law_j180 at hf
  have B := B0.tab hcd dtbL_law_j180
  refine v_istore [(9, .int s0), (2, .int x2), (3, .ref x3), (4, .ref x4), (5, .ref x5), (6, .int x6), (7, .int x7), (8, .int x8)] B 0 rfl (by decide) rfl ?_
  refine v_aload B 1 rfl 4 rfl ?_
  obtain ⟨hk, hf⟩ := gkd_e hf
  obtain ⟨q55, ex, hf⟩ := gtr_e hf
  refine v_getrN B 2 rfl 8 0 x5 (by decide) hk rfl (List.mem_of_getElem? (i := 1) rfl) (Or.inl rfl) ex ?_
  refine v_iload B 3 rfl 6 rfl ?_
  obtain ⟨hk, hf⟩ := gkd_e hf
  obtain ⟨r56, ec, hf⟩ := bd_e hf
  refine v_callV q55 [.int x7] [] [.ref r56] X B 4 rfl miAL_get 9 (by decide) hk rfl rfl ⟨(iL_law _ (List.mem_of_getElem? (i := 39) rfl)), (iL_law _ (List.mem_of_getElem? (i := 40) rfl)), (iL_law _ (List.mem_of_getElem? (i := 41) rfl))⟩ (ctAL_get ec) (Or.inl ⟨rfl, rfl⟩) ⟨Nat.le_of_ble_eq_true rfl, Nat.le_of_ble_eq_true rfl⟩ rfl rfl (Nat.le_of_ble_eq_true rfl) rfl ?_
  obtain ⟨hk, hf⟩ := gkd_e hf
  refine v_castI B 5 rfl hk (iL_law _ (List.mem_of_getElem? (i := 53) rfl)) ?_
  refine v_astore [(10, .ref r56), (9, .int s0), (2, .int x2), (3, .ref x3), (4, .ref x4), (5, .ref x5), (6, .int x6), (7, .int x7), (8, .int x8)] B 6 rfl (by decide) rfl ?_
  refine v_aload B 7 rfl 4 rfl ?_
  refine v_iload B 8 rfl 1 rfl ?_
  by_cases hc : s0 = 0
  · replace hf := (if_pos hc).symm.trans hf
    refine v_if_eq_t B 9 rfl 208 (by decide) hc ?_
    refine v_iconst 2 B 10 rfl (by decide) ?_
    refine v_sub [(2, .int x2), (3, .ref x3), (4, .ref x4), (5, .ref x5), (6, .int x6), (7, .int x7), (8, .int x8), (9, .int s0), (10, .ref r56)] [2, 3, 4, 5, 6, 7, 8, 1, 0] rfl ?_
    exact bL_law_j209_ok X B0 hcd hs hz9 hend hr hk53 hk126 _ _ _ _ _ _ _ _ _ _ _ _ _ _ hf
  · replace hf := (if_neg hc).symm.trans hf
    refine v_if_eq_f B 9 rfl 208 (by decide) hc ?_
    refine v_iconst 3 B 11 rfl (by decide) ?_
    refine v_goto B 12 rfl 209 (by decide) ?_
    refine v_sub [(2, .int x2), (3, .ref x3), (4, .ref x4), (5, .ref x5), (6, .int x6), (7, .int x7), (8, .int x8), (9, .int s0), (10, .ref r56)] [2, 3, 4, 5, 6, 7, 8, 1, 0] rfl ?_
    exact bL_law_j209_ok X B0 hcd hs hz9 hend hr hk53 hk126 _ _ _ _ _ _ _ _ _ _ _ _ _ _ hf
def bL_law_l126 (k53 : Int32 → Mem → AS → DM → Option (Int32 × AS)) (L : Nat) (xs : Nat → Int32) (FA : AS) : Nat → Int32 → Nat → Nat → Nat → Int32 → Mem → AS → DM → Option (Int32 × AS)
  | 0, _, _, _, _, _, _, _, _ => none
  | n + 1, x2, x3, x4, x5, x6, mm, A, dm => if x6 < (4 : Int32) then gkd A x5 8 (gtr (dm x5 0) (fun q19 => gkd A q19 9 (bd (bAL_size A dm q19) (fun r20 => gkd A x3 7 (bd (bX7_next A dm x3 r20) (fun r21 => gkd A x3 7 (bd (bX7_next A r21.2 x3 (100 : Int32)) (fun r22 => if 0 < r21.1 then gkd A x3 7 (bd (bX7_next A r22.2 x3 (2 : Int32)) (fun r53 => if r53.1 = 0 then gkd A x3 7 (bd (bX7_next A r53.2 x3 (2 : Int32)) (fun r54 => if r54.1 = 0 then bL_law_j180 k53 (fun x2 x3 x4 x5 x6 mm9 A9 dm9 => bL_law_l126 k53 L xs FA n x2 x3 x4 x5 x6 mm9 A9 dm9) L xs FA x2 x3 x4 x5 x6 r21.1 r22.1 (1 : Int32) mm A r54.2 else bL_law_j180 k53 (fun x2 x3 x4 x5 x6 mm9 A9 dm9 => bL_law_l126 k53 L xs FA n x2 x3 x4 x5 x6 mm9 A9 dm9) L xs FA x2 x3 x4 x5 x6 r21.1 r22.1 (0 : Int32) mm A r54.2)) else bL_law_j262 k53 (fun x2 x3 x4 x5 x6 mm9 A9 dm9 => bL_law_l126 k53 L xs FA n x2 x3 x4 x5 x6 mm9 A9 dm9) L xs FA x2 x3 x4 x5 x6 r21.1 r22.1 mm A r53.2)) else bL_law_j262 k53 (fun x2 x3 x4 x5 x6 mm9 A9 dm9 => bL_law_l126 k53 L xs FA n x2 x3 x4 x5 x6 mm9 A9 dm9) L xs FA x2 x3 x4 x5 x6 r21.1 r22.1 mm A r22.2)))))))) else nm (x2 + 1) (fun v18 => k53 v18 mm A dm)
def tbbL_law_l126 : Tb := [(126, .iload 6, 2, 128), (128, .iconst 4, 1, 129), (129, .if_icmp .ge 351, 3, 132), (480, .iinc 2 1, 3, 483), (483, .goto (-430), 3, 486), (132, .aload_n 3, 1, 133), (133, .aload 5, 2, 135), (135, .getfield 55, 3, 138), (138, .invokevirtual 106, 3, 141), (141, .invokevirtual 49, 3, 144), (144, .istore 7, 2, 146), (146, .aload_n 3, 1, 147), (147, .bipush 100, 2, 149), (149, .invokevirtual 49, 3, 152), (152, .istore 8, 2, 154), (154, .iload 7, 2, 156), (156, .ifCond .le 106, 3, 159), (159, .aload_n 3, 1, 160), (160, .iconst 2, 1, 161), (161, .invokevirtual 49, 3, 164), (164, .ifCond .ne 98, 3, 167), (167, .aload_n 3, 1, 168), (168, .iconst 2, 1, 169), (169, .invokevirtual 49, 3, 172), (172, .ifCond .ne 7, 3, 175), (179, .iconst 0, 1, 180), (175, .iconst 1, 1, 176), (176, .goto 4, 3, 179)]
theorem dtbL_law_l126 : ∀ q ∈ tbbL_law_l126, decode code q.1 = .ok (q.2.1, q.2.2.1) ∧ q.1 + q.2.2.1 = q.2.2.2 := by decide +kernel
theorem bL_law_l126_ok {E : Ev2} {l : Launch} {K : KF} {L : Nat} {xs : Nat → Int32} {FA : AS} {b9 : Nat} {r0 : Option Value} {mo0 : Mem} {fd0 : DM} {k53 : Int32 → Mem → AS → DM → Option (Int32 × AS)} (X : Ec2 E l K rmFL_law rmLL_law) (B0 : Bx2 E RL [] 11 (some .boolean)) (hcd : Cd2 E code) (hs : ScL E b9 L xs) (hz9 : HZ K) (hend : LEndL E b9) (hr : Rs2 E r0 mo0 FA fd0) (hk53 : ∀ (x2 : Int32) (mm : Mem) (A : AS) (dm : DM), k53 x2 mm A dm = some (1, FA) → GL E b9 11 53 [(2, .int x2)] [] mm A dm) (n : Nat) : ∀ (x2 : Int32) (x3 : Nat) (x4 : Nat) (x5 : Nat) (x6 : Int32) (mm : Mem) (A : AS) (dm : DM), bL_law_l126 k53 L xs FA n x2 x3 x4 x5 x6 mm A dm = some (1, FA) → GL E b9 11 126 [(2, .int x2), (3, .ref x3), (4, .ref x4), (5, .ref x5), (6, .int x6)] [] mm A dm := by
  induction n with
  | zero =>
    intro x2 x3 x4 x5 x6 mm A dm hf
    rw [bL_law_l126] at hf
    cases hf
  | succ n ih =>
    intro x2 x3 x4 x5 x6 mm A dm hf
    rw [bL_law_l126] at hf
    have B := B0.tab hcd dtbL_law_l126
    refine v_iload B 0 rfl 4 rfl ?_
    refine v_iconst 4 B 1 rfl (by decide) ?_
    by_cases hc : x6 < (4 : Int32)
    · replace hf := (if_pos hc).symm.trans hf
      refine v_icmp_ge_f B 2 rfl 480 (by decide) hc ?_
      refine v_aload_n B 5 rfl 3 1 rfl rfl ?_
      refine v_aload B 6 rfl 3 rfl ?_
      obtain ⟨hk, hf⟩ := gkd_e hf
      obtain ⟨q19, ex, hf⟩ := gtr_e hf
      refine v_getrN B 7 rfl 8 0 x5 (by decide) hk rfl (List.mem_of_getElem? (i := 1) rfl) (Or.inl rfl) ex ?_
      obtain ⟨hk, hf⟩ := gkd_e hf
      obtain ⟨r20, ec, hf⟩ := bd_e hf
      refine v_callV q19 [] [.ref x3] [.int r20, .ref x3] X B 8 rfl miAL_size 9 (by decide) hk rfl rfl ⟨(iL_law _ (List.mem_of_getElem? (i := 30) rfl)), (iL_law _ (List.mem_of_getElem? (i := 31) rfl)), (iL_law _ (List.mem_of_getElem? (i := 32) rfl))⟩ (ctAL_size ec) (Or.inl ⟨rfl, rfl⟩) ⟨Nat.le_of_ble_eq_true rfl, Nat.le_of_ble_eq_true rfl⟩ rfl rfl (Nat.le_of_ble_eq_true rfl) rfl ?_
      obtain ⟨hk, hf⟩ := gkd_e hf
      obtain ⟨r21, ec, hf⟩ := bd_e hf
      refine v_callV x3 [.int r20] [] [.int r21.1] X B 9 rfl miX7_next 7 (by decide) hk rfl rfl ⟨(iL_law _ (List.mem_of_getElem? (i := 33) rfl)), (iL_law _ (List.mem_of_getElem? (i := 34) rfl)), (iL_law _ (List.mem_of_getElem? (i := 35) rfl))⟩ (ctX7_next ec) (Or.inl ⟨rfl, rfl⟩) ⟨Nat.le_of_ble_eq_true rfl, Nat.le_of_ble_eq_true rfl⟩ rfl rfl (Nat.le_of_ble_eq_true rfl) rfl ?_
      refine v_istore [(7, .int r21.1), (2, .int x2), (3, .ref x3), (4, .ref x4), (5, .ref x5), (6, .int x6)] B 10 rfl (by decide) rfl ?_
      refine v_aload_n B 11 rfl 3 2 rfl rfl ?_
      refine v_bipush 100 B 12 rfl (by decide) ?_
      obtain ⟨hk, hf⟩ := gkd_e hf
      obtain ⟨r22, ec, hf⟩ := bd_e hf
      refine v_callV x3 [.int (100 : Int32)] [] [.int r22.1] X B 13 rfl miX7_next 7 (by decide) hk rfl rfl ⟨(iL_law _ (List.mem_of_getElem? (i := 33) rfl)), (iL_law _ (List.mem_of_getElem? (i := 34) rfl)), (iL_law _ (List.mem_of_getElem? (i := 35) rfl))⟩ (ctX7_next ec) (Or.inl ⟨rfl, rfl⟩) ⟨Nat.le_of_ble_eq_true rfl, Nat.le_of_ble_eq_true rfl⟩ rfl rfl (Nat.le_of_ble_eq_true rfl) rfl ?_
      refine v_istore [(8, .int r22.1), (7, .int r21.1), (2, .int x2), (3, .ref x3), (4, .ref x4), (5, .ref x5), (6, .int x6)] B 14 rfl (by decide) rfl ?_
      refine v_iload B 15 rfl 1 rfl ?_
      by_cases hc : 0 < r21.1
      · replace hf := (if_pos hc).symm.trans hf
        refine v_if_le_f B 16 rfl 262 (by decide) hc ?_
        refine v_aload_n B 17 rfl 3 3 rfl rfl ?_
        refine v_iconst 2 B 18 rfl (by decide) ?_
        obtain ⟨hk, hf⟩ := gkd_e hf
        obtain ⟨r53, ec, hf⟩ := bd_e hf
        refine v_callV x3 [.int (2 : Int32)] [] [.int r53.1] X B 19 rfl miX7_next 7 (by decide) hk rfl rfl ⟨(iL_law _ (List.mem_of_getElem? (i := 33) rfl)), (iL_law _ (List.mem_of_getElem? (i := 34) rfl)), (iL_law _ (List.mem_of_getElem? (i := 35) rfl))⟩ (ctX7_next ec) (Or.inl ⟨rfl, rfl⟩) ⟨Nat.le_of_ble_eq_true rfl, Nat.le_of_ble_eq_true rfl⟩ rfl rfl (Nat.le_of_ble_eq_true rfl) rfl ?_
        by_cases hc : r53.1 = 0
        · replace hf := (if_pos hc).symm.trans hf
          refine v_if_ne_f B 20 rfl 262 (by decide) hc ?_
          refine v_aload_n B 21 rfl 3 3 rfl rfl ?_
          refine v_iconst 2 B 22 rfl (by decide) ?_
          obtain ⟨hk, hf⟩ := gkd_e hf
          obtain ⟨r54, ec, hf⟩ := bd_e hf
          refine v_callV x3 [.int (2 : Int32)] [] [.int r54.1] X B 23 rfl miX7_next 7 (by decide) hk rfl rfl ⟨(iL_law _ (List.mem_of_getElem? (i := 33) rfl)), (iL_law _ (List.mem_of_getElem? (i := 34) rfl)), (iL_law _ (List.mem_of_getElem? (i := 35) rfl))⟩ (ctX7_next ec) (Or.inl ⟨rfl, rfl⟩) ⟨Nat.le_of_ble_eq_true rfl, Nat.le_of_ble_eq_true rfl⟩ rfl rfl (Nat.le_of_ble_eq_true rfl) rfl ?_
          by_cases hc : r54.1 = 0
          · replace hf := (if_pos hc).symm.trans hf
            refine v_if_ne_f B 24 rfl 179 (by decide) hc ?_
            refine v_iconst 1 B 26 rfl (by decide) ?_
            refine v_goto B 27 rfl 180 (by decide) ?_
            refine v_sub [(2, .int x2), (3, .ref x3), (4, .ref x4), (5, .ref x5), (6, .int x6), (7, .int r21.1), (8, .int r22.1)] [2, 3, 4, 5, 6, 1, 0] rfl ?_
            exact bL_law_j180_ok X B0 hcd hs hz9 hend hr hk53 ih _ _ _ _ _ _ _ _ _ _ _ hf
          · replace hf := (if_neg hc).symm.trans hf
            refine v_if_ne_t B 24 rfl 179 (by decide) hc ?_
            refine v_iconst 0 B 25 rfl (by decide) ?_
            refine v_sub [(2, .int x2), (3, .ref x3), (4, .ref x4), (5, .ref x5), (6, .int x6), (7, .int r21.1), (8, .int r22.1)] [2, 3, 4, 5, 6, 1, 0] rfl ?_
            exact bL_law_j180_ok X B0 hcd hs hz9 hend hr hk53 ih _ _ _ _ _ _ _ _ _ _ _ hf
        · replace hf := (if_neg hc).symm.trans hf
          refine v_if_ne_t B 20 rfl 262 (by decide) hc ?_
          refine v_sub [(2, .int x2), (3, .ref x3), (4, .ref x4), (5, .ref x5), (6, .int x6), (7, .int r21.1), (8, .int r22.1)] [2, 3, 4, 5, 6, 1, 0] rfl ?_
          exact bL_law_j262_ok X B0 hcd hs hz9 hend hr hk53 ih _ _ _ _ _ _ _ _ _ _ hf
      · replace hf := (if_neg hc).symm.trans hf
        refine v_if_le_t B 16 rfl 262 (by decide) hc ?_
        refine v_sub [(2, .int x2), (3, .ref x3), (4, .ref x4), (5, .ref x5), (6, .int x6), (7, .int r21.1), (8, .int r22.1)] [2, 3, 4, 5, 6, 1, 0] rfl ?_
        exact bL_law_j262_ok X B0 hcd hs hz9 hend hr hk53 ih _ _ _ _ _ _ _ _ _ _ hf
    · replace hf := (if_neg hc).symm.trans hf
      refine v_icmp_ge_t B 2 rfl 480 (by decide) hc ?_
      obtain ⟨v18, ex, hf⟩ := nm_x hf
      refine v_iinc v18 [(2, .int v18), (3, .ref x3), (4, .ref x4), (5, .ref x5), (6, .int x6)] B 3 rfl 0 rfl (ex.symm) (by decide) rfl ?_
      refine v_goto B 4 rfl 53 (by decide) ?_
      refine v_sub [(2, .int v18)] [0] rfl ?_
      exact hk53 _ _ _ _ hf
def bL_law_j78 (k53 : Int32 → Mem → AS → DM → Option (Int32 × AS)) (L : Nat) (xs : Nat → Int32) (FA : AS) (x2 : Int32) (s0 : Int32) (s1 : Nat) (s2 : Nat) (mm : Mem) (A : AS) (dm : DM) : Option (Int32 × AS) := bd (bX7_init A dm s1 s0) (fun r12 => azc (fun (x : Int32 × AS) => x.2) A (fun q13 A14 => bdg (fun (x : Int32 × AS) => x.2) A14 (bL_drawn mem0 A14 r12 q13 s2) (fun (x : Nat × Mem × AS × DM) => x.2.2.1) (fun r15 => bdg (fun (x : Int32 × AS) => x.2) r15.2.2.1 (bL_areLevels r15.2.1 r15.2.2.1 r15.2.2.2 q13 r15.1 s2) (fun (x : Int32 × Mem × AS × DM) => x.2.2.1) (fun r16 => if r16.1 = 0 then some ((0 : Int32), FA) else bdg (fun (x : Int32 × AS) => x.2) r16.2.2.1 (bL_isCleared r16.2.1 r16.2.2.1 r16.2.2.2 q13 r15.1) (fun (x : Int32 × Mem × AS × DM) => x.2.2.1) (fun r17 => if r17.1 = 0 then some ((0 : Int32), FA) else bL_law_l126 k53 L xs FA FU x2 s2 q13 r15.1 (0 : Int32) r17.2.1 r17.2.2.1 r17.2.2.2)))))
def tbbL_law_j78 : Tb := [(78, .invokespecial 220, 3, 81), (81, .astore_n 3, 1, 82), (82, .new 24, 3, 85), (85, .dup, 1, 86), (86, .invokespecial 215, 3, 89), (89, .astore 4, 2, 91), (91, .aload 4, 2, 93), (93, .aload_n 3, 1, 94), (94, .aconst_null, 1, 95), (95, .invokestatic 223, 3, 98), (98, .astore 5, 2, 100), (100, .aload 4, 2, 102), (102, .aload 5, 2, 104), (104, .aload_n 3, 1, 105), (105, .invokestatic 227, 3, 108), (108, .ifCond .eq 13, 3, 111), (121, .iconst 0, 1, 122), (122, .ireturn, 1, 123), (111, .aload 4, 2, 113), (113, .aload 5, 2, 115), (115, .invokestatic 216, 3, 118), (118, .ifCond .ne 5, 3, 121), (123, .iconst 0, 1, 124), (124, .istore 6, 2, 126)]
theorem dtbL_law_j78 : ∀ q ∈ tbbL_law_j78, decode code q.1 = .ok (q.2.1, q.2.2.1) ∧ q.1 + q.2.2.1 = q.2.2.2 := by decide +kernel
theorem bL_law_j78_ok {E : Ev2} {l : Launch} {K : KF} {L : Nat} {xs : Nat → Int32} {FA : AS} {b9 : Nat} {r0 : Option Value} {mo0 : Mem} {fd0 : DM} {k53 : Int32 → Mem → AS → DM → Option (Int32 × AS)} (X : Ec2 E l K rmFL_law rmLL_law) (B0 : Bx2 E RL [] 11 (some .boolean)) (hcd : Cd2 E code) (hs : ScL E b9 L xs) (hz9 : HZ K) (hend : LEndL E b9) (hr : Rs2 E r0 mo0 FA fd0) (hk53 : ∀ (x2 : Int32) (mm : Mem) (A : AS) (dm : DM), k53 x2 mm A dm = some (1, FA) → GL E b9 11 53 [(2, .int x2)] [] mm A dm) (x2 : Int32) (s0 : Int32) (s1 : Nat) (s2 : Nat) (mm : Mem) (A : AS) (dm : DM) (hf : bL_law_j78 k53 L xs FA x2 s0 s1 s2 mm A dm = some (1, FA)) : GL E b9 11 78 [(2, .int x2)] [.int s0, .ref s1, .ref s2] mm A dm := by
  unfold bL_law_j78 at hf
  have B := B0.tab hcd dtbL_law_j78
  obtain ⟨r12, ec, hf⟩ := bd_e hf
  refine v_callI s1 [.int s0] [.ref s2] [.ref s2] X B 0 rfl miX7_init ⟨(iL_law _ (List.mem_of_getElem? (i := 19) rfl)), (iL_law _ (List.mem_of_getElem? (i := 20) rfl)), rfl⟩ (ctX7_init ec) (Or.inl ⟨rfl, rfl⟩) ⟨Nat.le_of_ble_eq_true rfl, Nat.le_of_ble_eq_true rfl⟩ rfl rfl (Nat.le_of_ble_eq_true rfl) rfl ?_
  refine v_astore_n [(3, .ref s2), (2, .int x2)] B 1 rfl 3 rfl (by decide) rfl ?_
  obtain ⟨q13, A14, hq, hA, hgd, hf⟩ := azc_e hf
  refine v_newZ X hz9 B 2 3 4 rfl rfl rfl hr hgd hq hA ⟨(iL_law _ (List.mem_of_getElem? (i := 21) rfl)), (iL_law _ (List.mem_of_getElem? (i := 22) rfl)), (iL_law _ (List.mem_of_getElem? (i := 23) rfl))⟩ ⟨(iL_law _ (List.mem_of_getElem? (i := 24) rfl)), (iL_law _ (List.mem_of_getElem? (i := 25) rfl))⟩ ⟨Nat.le_of_ble_eq_true rfl, Nat.le_of_ble_eq_true rfl⟩ (Nat.le_of_ble_eq_true rfl) ?_
  refine v_astore [(4, .ref q13), (3, .ref s2), (2, .int x2)] B 5 rfl (by decide) rfl ?_
  refine v_aload B 6 rfl 0 rfl ?_
  refine v_aload_n B 7 rfl 3 1 rfl rfl ?_
  refine v_null B 8 rfl ?_
  obtain ⟨r15, ec, hgd, hf⟩ := bdg_e hf
  refine v_callS [.ref q13, .ref s2, .null] [] [.ref r15.1] X B 9 rfl miL_drawn ⟨(iL_law _ (List.mem_of_getElem? (i := 26) rfl)), (iL_law _ (List.mem_of_getElem? (i := 27) rfl))⟩ (ctL_drawn ec) (Or.inr ⟨_, _, _, _, hr, hgd⟩) ⟨Nat.le_of_ble_eq_true rfl, Nat.le_of_ble_eq_true rfl⟩ rfl rfl (Nat.le_of_ble_eq_true rfl) rfl ?_
  refine v_astore [(5, .ref r15.1), (4, .ref q13), (3, .ref s2), (2, .int x2)] B 10 rfl (by decide) rfl ?_
  refine v_aload B 11 rfl 1 rfl ?_
  refine v_aload B 12 rfl 0 rfl ?_
  refine v_aload_n B 13 rfl 3 2 rfl rfl ?_
  obtain ⟨r16, ec, hgd, hf⟩ := bdg_e hf
  refine v_callS [.ref q13, .ref r15.1, .ref s2] [] [.int r16.1] X B 14 rfl miL_areLevels ⟨(iL_law _ (List.mem_of_getElem? (i := 28) rfl)), (iL_law _ (List.mem_of_getElem? (i := 29) rfl))⟩ (ctL_areLevels ec) (Or.inr ⟨_, _, _, _, hr, hgd⟩) ⟨Nat.le_of_ble_eq_true rfl, Nat.le_of_ble_eq_true rfl⟩ rfl rfl (Nat.le_of_ble_eq_true rfl) rfl ?_
  by_cases hc : r16.1 = 0
  · replace hf := (if_pos hc).symm.trans hf
    refine v_if_eq_t B 15 rfl 121 (by decide) hc ?_
    refine v_iconst 0 B 16 rfl (by decide) ?_
    exact absurd (congrArg Prod.fst (Option.some.inj hf)) (show ¬ (0 : Int32) = 1 by decide)
  · replace hf := (if_neg hc).symm.trans hf
    refine v_if_eq_f B 15 rfl 121 (by decide) hc ?_
    refine v_aload B 18 rfl 1 rfl ?_
    refine v_aload B 19 rfl 0 rfl ?_
    obtain ⟨r17, ec, hgd, hf⟩ := bdg_e hf
    refine v_callS [.ref q13, .ref r15.1] [] [.int r17.1] X B 20 rfl miL_isCleared ⟨(iL_law _ (List.mem_of_getElem? (i := 5) rfl)), (iL_law _ (List.mem_of_getElem? (i := 6) rfl))⟩ (ctL_isCleared ec) (Or.inr ⟨_, _, _, _, hr, hgd⟩) ⟨Nat.le_of_ble_eq_true rfl, Nat.le_of_ble_eq_true rfl⟩ rfl rfl (Nat.le_of_ble_eq_true rfl) rfl ?_
    by_cases hc : r17.1 = 0
    · replace hf := (if_pos hc).symm.trans hf
      refine v_if_ne_f B 21 rfl 123 (by decide) hc ?_
      refine v_iconst 0 B 16 rfl (by decide) ?_
      exact absurd (congrArg Prod.fst (Option.some.inj hf)) (show ¬ (0 : Int32) = 1 by decide)
    · replace hf := (if_neg hc).symm.trans hf
      refine v_if_ne_t B 21 rfl 123 (by decide) hc ?_
      refine v_iconst 0 B 22 rfl (by decide) ?_
      refine v_istore [(6, .int (0 : Int32)), (5, .ref r15.1), (4, .ref q13), (3, .ref s2), (2, .int x2)] B 23 rfl (by decide) rfl ?_
      refine v_sub [(2, .int x2), (3, .ref s2), (4, .ref q13), (5, .ref r15.1), (6, .int (0 : Int32))] [4, 3, 2, 1, 0] rfl ?_
      exact bL_law_l126_ok X B0 hcd hs hz9 hend hr hk53 FU _ _ _ _ _ _ _ _ hf
def bL_law_l53 (L : Nat) (xs : Nat → Int32) (FA : AS) : Nat → Int32 → Mem → AS → DM → Option (Int32 × AS)
  | 0, _, _, _, _ => none
  | n + 1, x2, mm, A, dm => if x2 < (5 : Int32) then alc (fun (x : Int32 × AS) => x.2) A dm 7 0 1 dfl7 (fun q9 A10 m11 => if x2 < (nI L) then gsc L x2 (bL_law_j78 (fun x2 mm9 A9 dm9 => bL_law_l53 L xs FA n x2 mm9 A9 dm9) L xs FA x2 (xs x2.toNatClampNeg) q9 q9 mm A10 m11) else bL_law_j78 (fun x2 mm9 A9 dm9 => bL_law_l53 L xs FA n x2 mm9 A9 dm9) L xs FA x2 ((37 : Int32) * x2) q9 q9 mm A10 m11) else some ((1 : Int32), FA)
def tbbL_law_l53 : Tb := [(53, .iload_n 2, 1, 54), (54, .iconst 5, 1, 55), (55, .if_icmp .ge 431, 3, 58), (486, .iconst 1, 1, 487), (487, .ireturn, 1, 488), (58, .new 50, 3, 61), (61, .dup, 1, 62), (62, .iload_n 2, 1, 63), (63, .aload_n 0, 1, 64), (64, .arraylength, 1, 65), (65, .if_icmp .ge 9, 3, 68), (74, .bipush 37, 2, 76), (76, .iload_n 2, 1, 77), (77, .imul, 1, 78), (68, .aload_n 0, 1, 69), (69, .iload_n 2, 1, 70), (70, .iaload, 1, 71), (71, .goto 7, 3, 74)]
theorem dtbL_law_l53 : ∀ q ∈ tbbL_law_l53, decode code q.1 = .ok (q.2.1, q.2.2.1) ∧ q.1 + q.2.2.1 = q.2.2.2 := by decide +kernel
theorem bL_law_l53_ok {E : Ev2} {l : Launch} {K : KF} {L : Nat} {xs : Nat → Int32} {FA : AS} {b9 : Nat} {r0 : Option Value} {mo0 : Mem} {fd0 : DM} (X : Ec2 E l K rmFL_law rmLL_law) (B0 : Bx2 E RL [] 11 (some .boolean)) (hcd : Cd2 E code) (hs : ScL E b9 L xs) (hz9 : HZ K) (hend : LEndL E b9) (hr : Rs2 E r0 mo0 FA fd0) (n : Nat) : ∀ (x2 : Int32) (mm : Mem) (A : AS) (dm : DM), bL_law_l53 L xs FA n x2 mm A dm = some (1, FA) → GL E b9 11 53 [(2, .int x2)] [] mm A dm := by
  induction n with
  | zero =>
    intro x2 mm A dm hf
    rw [bL_law_l53] at hf
    cases hf
  | succ n ih =>
    intro x2 mm A dm hf
    rw [bL_law_l53] at hf
    have B := B0.tab hcd dtbL_law_l53
    refine v_iload_n B 0 rfl 2 0 rfl rfl ?_
    refine v_iconst 5 B 1 rfl (by decide) ?_
    by_cases hc : x2 < (5 : Int32)
    · replace hf := (if_pos hc).symm.trans hf
      refine v_icmp_ge_f B 2 rfl 486 (by decide) hc ?_
      obtain ⟨q9, A10, m11, hq, hA, hM, hgd, hf⟩ := alc_e hf
      refine v_new B 5 rfl 7 dfl7 hr hgd hq hA hM (by decide) rfl ⟨(iL_law _ (List.mem_of_getElem? (i := 16) rfl)), (iL_law _ (List.mem_of_getElem? (i := 17) rfl)), (iL_law _ (List.mem_of_getElem? (i := 18) rfl))⟩ dfl7_ok dfl7_cv ?_
      refine v_dup B 6 rfl rfl ?_
      refine v_iload_n B 7 rfl 2 0 rfl rfl ?_
      refine v_slen hs B 8 9 rfl rfl ?_
      by_cases hc : x2 < (nI L)
      · replace hf := (if_pos hc).symm.trans hf
        refine v_icmp_ge_f B 10 rfl 74 (by decide) hc ?_
        obtain ⟨hx, hf⟩ := gsc_e hf
        refine v_sld hs B 14 15 16 rfl rfl rfl 2 0 rfl rfl hx ?_
        refine v_goto B 17 rfl 78 (by decide) ?_
        exact bL_law_j78_ok X B0 hcd hs hz9 hend hr ih _ _ _ _ _ _ _ hf
      · replace hf := (if_neg hc).symm.trans hf
        refine v_icmp_ge_t B 10 rfl 74 (by decide) hc ?_
        refine v_bipush 37 B 11 rfl (by decide) ?_
        refine v_iload_n B 12 rfl 2 0 rfl rfl ?_
        refine v_imul B 13 rfl ?_
        exact bL_law_j78_ok X B0 hcd hs hz9 hend hr ih _ _ _ _ _ _ _ hf
    · replace hf := (if_neg hc).symm.trans hf
      refine v_icmp_ge_t B 2 rfl 486 (by decide) hc ?_
      refine v_iconst 1 B 3 rfl (by decide) ?_
      exact hend B (List.mem_of_getElem? (i := 4) rfl)
def bL_law (L : Nat) (xs : Nat → Int32) (FA : AS) (mm : Mem) (A : AS) (dm : DM) (a1 : Nat) : Option (Int32 × AS) := alc (fun (x : Int32 × AS) => x.2) A dm 8 0 10 dfl8 (fun q1 A2 m3 => bdg (fun (x : Int32 × AS) => x.2) A2 (bX8_init A2 m3 q1) (fun (x : AS × DM) => x.1) (fun r4 => bdg (fun (x : Int32 × AS) => x.2) r4.1 (bL_isCleared mm r4.1 r4.2 a1 q1) (fun (x : Int32 × Mem × AS × DM) => x.2.2.1) (fun r5 => if r5.1 = 0 then some ((0 : Int32), FA) else gob r5.2.2.1 a1 (bd (f6_price r5.2.1 (0 : Int32)) (fun r6 => if r6.1 = 0 then gob r5.2.2.1 a1 (bd (f6_surplus r6.2) (fun r7 => if (lg_cmp r7.1 (0 : Int64)) = 0 then gob r5.2.2.1 a1 (bd (f6_taken r7.2 (0 : Int32) (-1 : Int32)) (fun r8 => if r8.1 = (-1 : Int32) then bL_law_l53 L xs FA FU (0 : Int32) r8.2 r5.2.2.1 r5.2.2.2 else some ((0 : Int32), FA))) else some ((0 : Int32), FA))) else some ((0 : Int32), FA))))))
def tbbL_law_e : Tb := [(8, .aload_n 1, 1, 9), (9, .new 46, 3, 12), (12, .dup, 1, 13), (13, .invokespecial 48, 3, 16), (16, .invokestatic 216, 3, 19), (19, .ifCond .eq 30, 3, 22), (49, .iconst 0, 1, 50), (50, .ireturn, 1, 51), (22, .aload_n 1, 1, 23), (23, .iconst 0, 1, 24), (24, .invokevirtual 170, 3, 27), (27, .ifCond .ne 22, 3, 30), (30, .aload_n 1, 1, 31), (31, .invokevirtual 208, 3, 34), (34, .lconst 0, 1, 35), (35, .lcmp, 1, 36), (36, .ifCond .ne 13, 3, 39), (39, .aload_n 1, 1, 40), (40, .iconst 0, 1, 41), (41, .iconst (-1), 1, 42), (42, .invokevirtual 187, 3, 45), (45, .iconst (-1), 1, 46), (46, .if_icmp .eq 5, 3, 49), (51, .iconst 0, 1, 52), (52, .istore_n 2, 1, 53)]
theorem dtbL_law_e : ∀ q ∈ tbbL_law_e, decode code q.1 = .ok (q.2.1, q.2.2.1) ∧ q.1 + q.2.2.1 = q.2.2.2 := by decide +kernel
theorem bL_law_ok {E : Ev2} {l : Launch} {K : KF} {L : Nat} {xs : Nat → Int32} {FA : AS} {b9 : Nat} {r0 : Option Value} {mo0 : Mem} {fd0 : DM} (X : Ec2 E l K rmFL_law rmLL_law) (B0 : Bx2 E RL [] 11 (some .boolean)) (hcd : Cd2 E code) (hs : ScL E b9 L xs) (hz9 : HZ K) (hend : LEndL E b9) (hr : Rs2 E r0 mo0 FA fd0) {mm : Mem} {A : AS} {dm : DM} {a1 : Nat} (hf : bL_law L xs FA mm A dm a1 = some (1, FA)) : GL E b9 11 8 [(1, .ref a1)] [] mm A dm := by
  have B := B0.tab hcd dtbL_law_e
  unfold bL_law at hf
  refine v_aload_n B 0 rfl 1 0 rfl rfl ?_
  obtain ⟨q1, A2, m3, hq, hA, hM, hgd, hf⟩ := alc_e hf
  refine v_new B 1 rfl 8 dfl8 hr hgd hq hA hM (by decide) rfl ⟨(iL_law _ (List.mem_of_getElem? (i := 0) rfl)), (iL_law _ (List.mem_of_getElem? (i := 1) rfl)), (iL_law _ (List.mem_of_getElem? (i := 2) rfl))⟩ dfl8_ok dfl8_cv ?_
  refine v_dup B 2 rfl rfl ?_
  obtain ⟨r4, ec, hgd, hf⟩ := bdg_e hf
  refine v_callI q1 [] [.ref q1, .ref a1] [.ref q1, .ref a1] X B 3 rfl miX8_init ⟨(iL_law _ (List.mem_of_getElem? (i := 3) rfl)), (iL_law _ (List.mem_of_getElem? (i := 4) rfl)), rfl⟩ (ctX8_init ec) (Or.inr ⟨_, _, _, _, hr, hgd⟩) ⟨Nat.le_of_ble_eq_true rfl, Nat.le_of_ble_eq_true rfl⟩ rfl rfl (Nat.le_of_ble_eq_true rfl) rfl ?_
  obtain ⟨r5, ec, hgd, hf⟩ := bdg_e hf
  refine v_callS [.ref a1, .ref q1] [] [.int r5.1] X B 4 rfl miL_isCleared ⟨(iL_law _ (List.mem_of_getElem? (i := 5) rfl)), (iL_law _ (List.mem_of_getElem? (i := 6) rfl))⟩ (ctL_isCleared ec) (Or.inr ⟨_, _, _, _, hr, hgd⟩) ⟨Nat.le_of_ble_eq_true rfl, Nat.le_of_ble_eq_true rfl⟩ rfl rfl (Nat.le_of_ble_eq_true rfl) rfl ?_
  by_cases hc : r5.1 = 0
  · replace hf := (if_pos hc).symm.trans hf
    refine v_if_eq_t B 5 rfl 49 (by decide) hc ?_
    refine v_iconst 0 B 6 rfl (by decide) ?_
    exact absurd (congrArg Prod.fst (Option.some.inj hf)) (show ¬ (0 : Int32) = 1 by decide)
  · replace hf := (if_neg hc).symm.trans hf
    refine v_if_eq_f B 5 rfl 49 (by decide) hc ?_
    refine v_aload_n B 8 rfl 1 0 rfl rfl ?_
    refine v_iconst 0 B 9 rfl (by decide) ?_
    obtain ⟨ho, hf⟩ := gob_e hf
    obtain ⟨r6, ec, hf⟩ := bd_e hf
    refine v_callC a1 [.int (0 : Int32)] [] [.int r6.1] X B 10 rfl miX6_price rfl ho ⟨(iL_law _ (List.mem_of_getElem? (i := 7) rfl)), (iL_law _ (List.mem_of_getElem? (i := 8) rfl)), (iL_law _ (List.mem_of_getElem? (i := 9) rfl))⟩ (fun hj => ctX6_price hj ec) ⟨Nat.le_of_ble_eq_true rfl, Nat.le_of_ble_eq_true rfl⟩ rfl (fun _ _ => rfl) (fun _ _ => rfl) rfl (Nat.le_of_ble_eq_true rfl) rfl ?_
    by_cases hc : r6.1 = 0
    · replace hf := (if_pos hc).symm.trans hf
      refine v_if_ne_f B 11 rfl 49 (by decide) hc ?_
      refine v_aload_n B 12 rfl 1 0 rfl rfl ?_
      obtain ⟨ho, hf⟩ := gob_e hf
      obtain ⟨r7, ec, hf⟩ := bd_e hf
      refine v_callC a1 [] [] [.long r7.1] X B 13 rfl miX6_surplus rfl ho ⟨(iL_law _ (List.mem_of_getElem? (i := 10) rfl)), (iL_law _ (List.mem_of_getElem? (i := 11) rfl)), (iL_law _ (List.mem_of_getElem? (i := 12) rfl))⟩ (fun hj => ctX6_surplus hj ec) ⟨Nat.le_of_ble_eq_true rfl, Nat.le_of_ble_eq_true rfl⟩ rfl (fun _ _ => rfl) (fun _ _ => rfl) rfl (Nat.le_of_ble_eq_true rfl) rfl ?_
      refine v_lconst 0 B 14 rfl (by decide) ?_
      refine v_lcmp B 15 rfl ?_
      by_cases hc : (lg_cmp r7.1 (0 : Int64)) = 0
      · replace hf := (if_pos hc).symm.trans hf
        refine v_if_ne_f B 16 rfl 49 (by decide) hc ?_
        refine v_aload_n B 17 rfl 1 0 rfl rfl ?_
        refine v_iconst 0 B 18 rfl (by decide) ?_
        refine v_iconst (-1) B 19 rfl (by decide) ?_
        obtain ⟨ho, hf⟩ := gob_e hf
        obtain ⟨r8, ec, hf⟩ := bd_e hf
        refine v_callC a1 [.int (0 : Int32), .int (-1 : Int32)] [] [.int r8.1] X B 20 rfl miX6_taken rfl ho ⟨(iL_law _ (List.mem_of_getElem? (i := 13) rfl)), (iL_law _ (List.mem_of_getElem? (i := 14) rfl)), (iL_law _ (List.mem_of_getElem? (i := 15) rfl))⟩ (fun hj => ctX6_taken hj ec) ⟨Nat.le_of_ble_eq_true rfl, Nat.le_of_ble_eq_true rfl⟩ rfl (fun _ _ => rfl) (fun _ _ => rfl) rfl (Nat.le_of_ble_eq_true rfl) rfl ?_
        refine v_iconst (-1) B 21 rfl (by decide) ?_
        by_cases hc : r8.1 = (-1 : Int32)
        · replace hf := (if_pos hc).symm.trans hf
          refine v_icmp_eq_t B 22 rfl 51 (by decide) hc ?_
          refine v_iconst 0 B 23 rfl (by decide) ?_
          refine v_istore_n [(2, .int (0 : Int32)), (1, .ref a1)] B 24 rfl 2 rfl (by decide) rfl ?_
          refine v_sub [(2, .int (0 : Int32))] [0] rfl ?_
          exact bL_law_l53_ok X B0 hcd hs hz9 hend hr FU _ _ _ _ hf
        · replace hf := (if_neg hc).symm.trans hf
          refine v_icmp_eq_f B 22 rfl 51 (by decide) hc ?_
          refine v_iconst 0 B 6 rfl (by decide) ?_
          exact absurd (congrArg Prod.fst (Option.some.inj hf)) (show ¬ (0 : Int32) = 1 by decide)
      · replace hf := (if_neg hc).symm.trans hf
        refine v_if_ne_t B 16 rfl 49 (by decide) hc ?_
        refine v_iconst 0 B 6 rfl (by decide) ?_
        exact absurd (congrArg Prod.fst (Option.some.inj hf)) (show ¬ (0 : Int32) = 1 by decide)
    · replace hf := (if_neg hc).symm.trans hf
      refine v_if_ne_t B 11 rfl 49 (by decide) hc ?_
      refine v_iconst 0 B 6 rfl (by decide) ?_
      exact absurd (congrArg Prod.fst (Option.some.inj hf)) (show ¬ (0 : Int32) = 1 by decide)
