/-! ZoneCapacityLaw.areLevels(LZoneCapacity;LZoneCapacityLaw$Market;LZoneCapacityLaw$Draws;)Z -/
abbrev rmFL_areLevels : Nat := 12
abbrev rmLL_areLevels : Nat := 307
def wL_areLevels : List Cond := [.methodLink "ZoneCapacityLaw" 106 yJx4a65c_size_8abf5, .instanceMethod yJx4a65c_size_8abf5, .selects "java/util/ArrayList" yJx4a65c_size_8abf5 yJx4a65c_size_8abf5, .methodLink "ZoneCapacityLaw" 146 yX6_worth, .instanceMethod yX6_worth, .selects "ZoneCapacity" yX6_worth yX6_worth, .methodLink "ZoneCapacityLaw" 149 yX6_wants, .instanceMethod yX6_wants, .selects "ZoneCapacity" yX6_wants yX6_wants, .methodLink "ZoneCapacityLaw" 153 yX6_level, .instanceMethod yX6_level, .selects "ZoneCapacity" yX6_level yX6_level, .constant "ZoneCapacityLaw" 164 (-1000000), .methodLink "ZoneCapacityLaw" 162 yX6_line, .instanceMethod yX6_line, .selects "ZoneCapacity" yX6_line yX6_line, .methodLink "ZoneCapacityLaw" 158 yX8_line, .instanceMethod yX8_line, .selects "ZoneCapacityLaw$Market" yX8_line yX8_line, .methodLink "ZoneCapacityLaw" 142 yX8_worths, .instanceMethod yX8_worths, .selects "ZoneCapacityLaw$Market" yX8_worths yX8_worths, .methodLink "ZoneCapacityLaw" 49 yX7_next, .instanceMethod yX7_next, .selects "ZoneCapacityLaw$Draws" yX7_next yX7_next, .methodLink "ZoneCapacityLaw" 152 yX8_wants, .instanceMethod yX8_wants, .selects "ZoneCapacityLaw$Market" yX8_wants yX8_wants, .methodLink "ZoneCapacityLaw" 157 yX8_level, .instanceMethod yX8_level, .selects "ZoneCapacityLaw$Market" yX8_level yX8_level]
theorem iL_areLevels : ∀ w ∈ wL_areLevels, w ∈ TW := tw_of (ids := [774, 775, 776, 821, 822, 823, 829, 830, 831, 839, 840, 841, 978, 972, 973, 974, 971, 854, 855, 810, 811, 812, 447, 448, 449, 834, 835, 836, 848, 849, 850]) (by decide +kernel)
def bL_areLevels_j319 (k241 : Nat → Nat → Int32 → Mem → AS → DM → Option (Int32 × Mem × AS × DM)) (k255 : Nat → Nat → Int32 → Int32 → Mem → AS → DM → Option (Int32 × Mem × AS × DM)) (x0 : Nat) (x1 : Nat) (x3 : Int32) (x4 : Int32) (s0 : Int32) (s1 : Int32) (mm : Mem) (A : AS) (dm : DM) : Option (Int32 × Mem × AS × DM) := if s1 = s0 then nm (x4 + 1) (fun v22 => k255 x0 x1 x3 v22 mm A dm) else some ((0 : Int32), mm, A, dm)
def tbbL_areLevels_j319 : Tb := [(319, .if_icmp .eq 5, 3, 322), (324, .iinc 4 1, 3, 327), (327, .goto (-72), 3, 330), (322, .iconst 0, 1, 323), (323, .ireturn, 1, 324)]
theorem dtbL_areLevels_j319 : ∀ q ∈ tbbL_areLevels_j319, decode cL_areLevels q.1 = .ok (q.2.1, q.2.2.1) ∧ q.1 + q.2.2.1 = q.2.2.2 := by decide +kernel
theorem bL_areLevels_j319_ok {E : Ev2} {l : Launch} {K : KF} {x : Int32 × Mem × AS × DM} {k241 : Nat → Nat → Int32 → Mem → AS → DM → Option (Int32 × Mem × AS × DM)} {k255 : Nat → Nat → Int32 → Int32 → Mem → AS → DM → Option (Int32 × Mem × AS × DM)} (X : Ec2 E l K rmFL_areLevels rmLL_areLevels) (B0 : Bx2 E RL [] 7 (some .boolean)) (hcd : Cd2 E cL_areLevels) (hQ : Rt2 E) (hr : Rs2 E (some (.int x.1)) x.2.1 x.2.2.1 x.2.2.2) (hk241 : ∀ (x0 : Nat) (x1 : Nat) (x3 : Int32) (mm : Mem) (A : AS) (dm : DM), k241 x0 x1 x3 mm A dm = some x → G2 E 7 241 [(0, .ref x0), (1, .ref x1), (3, .int x3)] [] mm A dm) (hk255 : ∀ (x0 : Nat) (x1 : Nat) (x3 : Int32) (x4 : Int32) (mm : Mem) (A : AS) (dm : DM), k255 x0 x1 x3 x4 mm A dm = some x → G2 E 7 255 [(0, .ref x0), (1, .ref x1), (3, .int x3), (4, .int x4)] [] mm A dm) (x0 : Nat) (x1 : Nat) (x3 : Int32) (x4 : Int32) (s0 : Int32) (s1 : Int32) (mm : Mem) (A : AS) (dm : DM) (hf : bL_areLevels_j319 k241 k255 x0 x1 x3 x4 s0 s1 mm A dm = some x) : G2 E 7 319 [(0, .ref x0), (1, .ref x1), (3, .int x3), (4, .int x4)] [.int s0, .int s1] mm A dm := by
  unfold bL_areLevels_j319 at hf
  have B := B0.tab hcd dtbL_areLevels_j319
  by_cases hc : s1 = s0
  · replace hf := (if_pos hc).symm.trans hf
    refine w_icmp_eq_t B 0 rfl 324 (by decide) hc ?_
    obtain ⟨v22, ex, hf⟩ := nm_x hf
    refine w_iinc v22 [(4, .int v22), (0, .ref x0), (1, .ref x1), (3, .int x3)] B 1 rfl 3 rfl (ex.symm) (by decide) rfl ?_
    refine w_goto B 2 rfl 255 (by decide) ?_
    refine w_sub [(0, .ref x0), (1, .ref x1), (3, .int x3), (4, .int v22)] [1, 2, 3, 0] rfl ?_
    exact hk255 _ _ _ _ _ _ _ hf
  · replace hf := (if_neg hc).symm.trans hf
    refine w_icmp_eq_f B 0 rfl 324 (by decide) hc ?_
    refine w_iconst 0 B 3 rfl (by decide) ?_
    cases hf
    exact w_iret B 4 rfl (by decide) hQ hr
def bL_areLevels_j293 (k241 : Nat → Nat → Int32 → Mem → AS → DM → Option (Int32 × Mem × AS × DM)) (k255 : Nat → Nat → Int32 → Int32 → Mem → AS → DM → Option (Int32 × Mem × AS × DM)) (x0 : Nat) (x1 : Nat) (x3 : Int32) (x4 : Int32) (x5 : Nat) (s0 : Int32) (s1 : Int32) (mm : Mem) (A : AS) (dm : DM) : Option (Int32 × Mem × AS × DM) := if s1 = s0 then gob A x0 (bd (f6_line mm x3 x4 (1 : Int32)) (fun r20 => gkd A x5 20 (gix A x5 (0 : Int32) (gti (dm x5 (0 : Int32).toNatClampNeg) (fun v21 => if 0 < v21 then gkd A x5 20 (gix A x5 (1 : Int32) (gti (dm x5 (1 : Int32).toNatClampNeg) (fun v23 => bL_areLevels_j319 k241 k255 x0 x1 x3 x4 v23 r20 mm A dm))) else bL_areLevels_j319 k241 k255 x0 x1 x3 x4 (-1 : Int32) r20 mm A dm))))) else some ((0 : Int32), mm, A, dm)
def tbbL_areLevels_j293 : Tb := [(293, .if_icmp .ne 29, 3, 296), (322, .iconst 0, 1, 323), (323, .ireturn, 1, 324), (296, .aload_n 0, 1, 297), (297, .iload_n 3, 1, 298), (298, .iload 4, 2, 300), (300, .iconst 1, 1, 301), (301, .invokevirtual 162, 3, 304), (304, .aload 5, 2, 306), (306, .iconst 0, 1, 307), (307, .iaload, 1, 308), (308, .ifCond .le 10, 3, 311), (318, .iconst (-1), 1, 319), (311, .aload 5, 2, 313), (313, .iconst 1, 1, 314), (314, .iaload, 1, 315), (315, .goto 4, 3, 318)]
theorem dtbL_areLevels_j293 : ∀ q ∈ tbbL_areLevels_j293, decode cL_areLevels q.1 = .ok (q.2.1, q.2.2.1) ∧ q.1 + q.2.2.1 = q.2.2.2 := by decide +kernel
theorem bL_areLevels_j293_ok {E : Ev2} {l : Launch} {K : KF} {x : Int32 × Mem × AS × DM} {k241 : Nat → Nat → Int32 → Mem → AS → DM → Option (Int32 × Mem × AS × DM)} {k255 : Nat → Nat → Int32 → Int32 → Mem → AS → DM → Option (Int32 × Mem × AS × DM)} (X : Ec2 E l K rmFL_areLevels rmLL_areLevels) (B0 : Bx2 E RL [] 7 (some .boolean)) (hcd : Cd2 E cL_areLevels) (hQ : Rt2 E) (hr : Rs2 E (some (.int x.1)) x.2.1 x.2.2.1 x.2.2.2) (hk241 : ∀ (x0 : Nat) (x1 : Nat) (x3 : Int32) (mm : Mem) (A : AS) (dm : DM), k241 x0 x1 x3 mm A dm = some x → G2 E 7 241 [(0, .ref x0), (1, .ref x1), (3, .int x3)] [] mm A dm) (hk255 : ∀ (x0 : Nat) (x1 : Nat) (x3 : Int32) (x4 : Int32) (mm : Mem) (A : AS) (dm : DM), k255 x0 x1 x3 x4 mm A dm = some x → G2 E 7 255 [(0, .ref x0), (1, .ref x1), (3, .int x3), (4, .int x4)] [] mm A dm) (x0 : Nat) (x1 : Nat) (x3 : Int32) (x4 : Int32) (x5 : Nat) (s0 : Int32) (s1 : Int32) (mm : Mem) (A : AS) (dm : DM) (hf : bL_areLevels_j293 k241 k255 x0 x1 x3 x4 x5 s0 s1 mm A dm = some x) : G2 E 7 293 [(0, .ref x0), (1, .ref x1), (3, .int x3), (4, .int x4), (5, .ref x5)] [.int s0, .int s1] mm A dm := by
  unfold bL_areLevels_j293 at hf
  have B := B0.tab hcd dtbL_areLevels_j293
  by_cases hc : s1 = s0
  · replace hf := (if_pos hc).symm.trans hf
    refine w_icmp_ne_f B 0 rfl 322 (by decide) hc ?_
    refine w_aload_n B 3 rfl 0 0 rfl rfl ?_
    refine w_iload_n B 4 rfl 3 2 rfl rfl ?_
    refine w_iload B 5 rfl 3 rfl ?_
    refine w_iconst 1 B 6 rfl (by decide) ?_
    obtain ⟨ho, hf⟩ := gob_e hf
    obtain ⟨r20, ec, hf⟩ := bd_e hf
    refine w_callC x0 [.int x3, .int x4, .int (1 : Int32)] [] [.int r20] X B 7 rfl miX6_line rfl ho ⟨(iL_areLevels _ (List.mem_of_getElem? (i := 13) rfl)), (iL_areLevels _ (List.mem_of_getElem? (i := 14) rfl)), (iL_areLevels _ (List.mem_of_getElem? (i := 15) rfl))⟩ (fun hj => ctX6_line hj ec) ⟨Nat.le_of_ble_eq_true rfl, Nat.le_of_ble_eq_true rfl⟩ rfl (fun _ _ => rfl) (fun _ _ => rfl) rfl (Nat.le_of_ble_eq_true rfl) rfl ?_
    refine w_aload B 8 rfl 4 rfl ?_
    refine w_iconst 0 B 9 rfl (by decide) ?_
    obtain ⟨hk, hf⟩ := gkd_e hf
    obtain ⟨hx, hf⟩ := gix_e hf
    obtain ⟨v21, ex, hf⟩ := gti_e hf
    refine w_iald B 10 rfl hk hx ex ?_
    by_cases hc : 0 < v21
    · replace hf := (if_pos hc).symm.trans hf
      refine w_if_le_f B 11 rfl 318 (by decide) hc ?_
      refine w_aload B 13 rfl 4 rfl ?_
      refine w_iconst 1 B 14 rfl (by decide) ?_
      obtain ⟨hk, hf⟩ := gkd_e hf
      obtain ⟨hx, hf⟩ := gix_e hf
      obtain ⟨v23, ex, hf⟩ := gti_e hf
      refine w_iald B 15 rfl hk hx ex ?_
      refine w_goto B 16 rfl 319 (by decide) ?_
      refine w_sub [(0, .ref x0), (1, .ref x1), (3, .int x3), (4, .int x4)] [0, 1, 2, 3] rfl ?_
      exact bL_areLevels_j319_ok X B0 hcd hQ hr hk241 hk255 _ _ _ _ _ _ _ _ _ hf
    · replace hf := (if_neg hc).symm.trans hf
      refine w_if_le_t B 11 rfl 318 (by decide) hc ?_
      refine w_iconst (-1) B 12 rfl (by decide) ?_
      refine w_sub [(0, .ref x0), (1, .ref x1), (3, .int x3), (4, .int x4)] [0, 1, 2, 3] rfl ?_
      exact bL_areLevels_j319_ok X B0 hcd hQ hr hk241 hk255 _ _ _ _ _ _ _ _ _ hf
  · replace hf := (if_neg hc).symm.trans hf
    refine w_icmp_ne_t B 0 rfl 322 (by decide) hc ?_
    refine w_iconst 0 B 1 rfl (by decide) ?_
    cases hf
    exact w_iret B 2 rfl (by decide) hQ hr
def bL_areLevels_l255 (k241 : Nat → Nat → Int32 → Mem → AS → DM → Option (Int32 × Mem × AS × DM)) : Nat → Nat → Nat → Int32 → Int32 → Mem → AS → DM → Option (Int32 × Mem × AS × DM)
  | 0, _, _, _, _, _, _, _ => none
  | n + 1, x0, x1, x3, x4, mm, A, dm => if x4 < (4 : Int32) then gkd A x1 8 (bdg (fun (x : Int32 × Mem × AS × DM) => x.2.2.1) A (bX8_line A dm x1 x3 x4) (fun (x : Nat × AS × DM) => x.2.1) (fun r17 => gob r17.2.1 x0 (bd (f6_line mm x3 x4 (0 : Int32)) (fun r18 => gkd r17.2.1 r17.1 20 (gix r17.2.1 r17.1 (0 : Int32) (gti (r17.2.2 r17.1 (0 : Int32).toNatClampNeg) (fun v19 => if 0 < v19 then gkd r17.2.1 r17.1 20 (gix r17.2.1 r17.1 (0 : Int32) (gti (r17.2.2 r17.1 (0 : Int32).toNatClampNeg) (fun v24 => bL_areLevels_j293 k241 (fun x0 x1 x3 x4 mm9 A9 dm9 => bL_areLevels_l255 k241 n x0 x1 x3 x4 mm9 A9 dm9) x0 x1 x3 x4 r17.1 v24 r18 mm r17.2.1 r17.2.2))) else bL_areLevels_j293 k241 (fun x0 x1 x3 x4 mm9 A9 dm9 => bL_areLevels_l255 k241 n x0 x1 x3 x4 mm9 A9 dm9) x0 x1 x3 x4 r17.1 (-1 : Int32) r18 mm r17.2.1 r17.2.2))))))) else nm (x3 + 1) (fun v16 => k241 x0 x1 v16 mm A dm)
def tbbL_areLevels_l255 : Tb := [(255, .iload 4, 2, 257), (257, .iconst 4, 1, 258), (258, .if_icmp .ge 72, 3, 261), (330, .iinc 3 1, 3, 333), (333, .goto (-92), 3, 336), (261, .aload_n 1, 1, 262), (262, .iload_n 3, 1, 263), (263, .iload 4, 2, 265), (265, .invokevirtual 158, 3, 268), (268, .astore 5, 2, 270), (270, .aload_n 0, 1, 271), (271, .iload_n 3, 1, 272), (272, .iload 4, 2, 274), (274, .iconst 0, 1, 275), (275, .invokevirtual 162, 3, 278), (278, .aload 5, 2, 280), (280, .iconst 0, 1, 281), (281, .iaload, 1, 282), (282, .ifCond .le 10, 3, 285), (292, .iconst (-1), 1, 293), (285, .aload 5, 2, 287), (287, .iconst 0, 1, 288), (288, .iaload, 1, 289), (289, .goto 4, 3, 292)]
theorem dtbL_areLevels_l255 : ∀ q ∈ tbbL_areLevels_l255, decode cL_areLevels q.1 = .ok (q.2.1, q.2.2.1) ∧ q.1 + q.2.2.1 = q.2.2.2 := by decide +kernel
theorem bL_areLevels_l255_ok {E : Ev2} {l : Launch} {K : KF} {x : Int32 × Mem × AS × DM} {k241 : Nat → Nat → Int32 → Mem → AS → DM → Option (Int32 × Mem × AS × DM)} (X : Ec2 E l K rmFL_areLevels rmLL_areLevels) (B0 : Bx2 E RL [] 7 (some .boolean)) (hcd : Cd2 E cL_areLevels) (hQ : Rt2 E) (hr : Rs2 E (some (.int x.1)) x.2.1 x.2.2.1 x.2.2.2) (hk241 : ∀ (x0 : Nat) (x1 : Nat) (x3 : Int32) (mm : Mem) (A : AS) (dm : DM), k241 x0 x1 x3 mm A dm = some x → G2 E 7 241 [(0, .ref x0), (1, .ref x1), (3, .int x3)] [] mm A dm) (n : Nat) : ∀ (x0 : Nat) (x1 : Nat) (x3 : Int32) (x4 : Int32) (mm : Mem) (A : AS) (dm : DM), bL_areLevels_l255 k241 n x0 x1 x3 x4 mm A dm = some x → G2 E 7 255 [(0, .ref x0), (1, .ref x1), (3, .int x3), (4, .int x4)] [] mm A dm := by
  induction n with
  | zero =>
    intro x0 x1 x3 x4 mm A dm hf
    rw [bL_areLevels_l255] at hf
    cases hf
  | succ n ih =>
    intro x0 x1 x3 x4 mm A dm hf
    rw [bL_areLevels_l255] at hf
    have B := B0.tab hcd dtbL_areLevels_l255
    refine w_iload B 0 rfl 3 rfl ?_
    refine w_iconst 4 B 1 rfl (by decide) ?_
    by_cases hc : x4 < (4 : Int32)
    · replace hf := (if_pos hc).symm.trans hf
      refine w_icmp_ge_f B 2 rfl 330 (by decide) hc ?_
      refine w_aload_n B 5 rfl 1 1 rfl rfl ?_
      refine w_iload_n B 6 rfl 3 2 rfl rfl ?_
      refine w_iload B 7 rfl 3 rfl ?_
      obtain ⟨hk, hf⟩ := gkd_e hf
      obtain ⟨r17, ec, hgd, hf⟩ := bdg_e hf
      refine w_callV x1 [.int x3, .int x4] [] [.ref r17.1] X B 8 rfl miX8_line 8 (by decide) hk rfl rfl ⟨(iL_areLevels _ (List.mem_of_getElem? (i := 16) rfl)), (iL_areLevels _ (List.mem_of_getElem? (i := 17) rfl)), (iL_areLevels _ (List.mem_of_getElem? (i := 18) rfl))⟩ (ctX8_line ec) (Or.inr ⟨_, _, _, _, hr, hgd⟩) ⟨Nat.le_of_ble_eq_true rfl, Nat.le_of_ble_eq_true rfl⟩ rfl rfl (Nat.le_of_ble_eq_true rfl) rfl ?_
      refine w_astore [(5, .ref r17.1), (0, .ref x0), (1, .ref x1), (3, .int x3), (4, .int x4)] B 9 rfl (by decide) rfl ?_
      refine w_aload_n B 10 rfl 0 1 rfl rfl ?_
      refine w_iload_n B 11 rfl 3 3 rfl rfl ?_
      refine w_iload B 12 rfl 4 rfl ?_
      refine w_iconst 0 B 13 rfl (by decide) ?_
      obtain ⟨ho, hf⟩ := gob_e hf
      obtain ⟨r18, ec, hf⟩ := bd_e hf
      refine w_callC x0 [.int x3, .int x4, .int (0 : Int32)] [] [.int r18] X B 14 rfl miX6_line rfl ho ⟨(iL_areLevels _ (List.mem_of_getElem? (i := 13) rfl)), (iL_areLevels _ (List.mem_of_getElem? (i := 14) rfl)), (iL_areLevels _ (List.mem_of_getElem? (i := 15) rfl))⟩ (fun hj => ctX6_line hj ec) ⟨Nat.le_of_ble_eq_true rfl, Nat.le_of_ble_eq_true rfl⟩ rfl (fun _ _ => rfl) (fun _ _ => rfl) rfl (Nat.le_of_ble_eq_true rfl) rfl ?_
      refine w_aload B 15 rfl 0 rfl ?_
      refine w_iconst 0 B 16 rfl (by decide) ?_
      obtain ⟨hk, hf⟩ := gkd_e hf
      obtain ⟨hx, hf⟩ := gix_e hf
      obtain ⟨v19, ex, hf⟩ := gti_e hf
      refine w_iald B 17 rfl hk hx ex ?_
      by_cases hc : 0 < v19
      · replace hf := (if_pos hc).symm.trans hf
        refine w_if_le_f B 18 rfl 292 (by decide) hc ?_
        refine w_aload B 20 rfl 0 rfl ?_
        refine w_iconst 0 B 21 rfl (by decide) ?_
        obtain ⟨hk, hf⟩ := gkd_e hf
        obtain ⟨hx, hf⟩ := gix_e hf
        obtain ⟨v24, ex, hf⟩ := gti_e hf
        refine w_iald B 22 rfl hk hx ex ?_
        refine w_goto B 23 rfl 293 (by decide) ?_
        refine w_sub [(0, .ref x0), (1, .ref x1), (3, .int x3), (4, .int x4), (5, .ref r17.1)] [1, 2, 3, 4, 0] rfl ?_
        exact bL_areLevels_j293_ok X B0 hcd hQ hr hk241 ih _ _ _ _ _ _ _ _ _ _ hf
      · replace hf := (if_neg hc).symm.trans hf
        refine w_if_le_t B 18 rfl 292 (by decide) hc ?_
        refine w_iconst (-1) B 19 rfl (by decide) ?_
        refine w_sub [(0, .ref x0), (1, .ref x1), (3, .int x3), (4, .int x4), (5, .ref r17.1)] [1, 2, 3, 4, 0] rfl ?_
        exact bL_areLevels_j293_ok X B0 hcd hQ hr hk241 ih _ _ _ _ _ _ _ _ _ _ hf
    · replace hf := (if_neg hc).symm.trans hf
      refine w_icmp_ge_t B 2 rfl 330 (by decide) hc ?_
      obtain ⟨v16, ex, hf⟩ := nm_x hf
      refine w_iinc v16 [(3, .int v16), (0, .ref x0), (1, .ref x1), (4, .int x4)] B 3 rfl 2 rfl (ex.symm) (by decide) rfl ?_
      refine w_goto B 4 rfl 241 (by decide) ?_
      refine w_sub [(0, .ref x0), (1, .ref x1), (3, .int v16)] [1, 2, 0] rfl ?_
      exact hk241 _ _ _ _ _ _ hf
def bL_areLevels_l241 : Nat → Nat → Nat → Int32 → Mem → AS → DM → Option (Int32 × Mem × AS × DM)
  | 0, _, _, _, _, _, _ => none
  | n + 1, x0, x1, x3, mm, A, dm => gkd A x1 8 (gtr (dm x1 2) (fun q3 => gkd A q3 9 (bd (bAL_size A dm q3) (fun r4 => if x3 < r4 then bL_areLevels_l255 (fun x0 x1 x3 mm9 A9 dm9 => bL_areLevels_l241 n x0 x1 x3 mm9 A9 dm9) FU x0 x1 x3 (0 : Int32) mm A dm else gkd A x1 8 (gtr (dm x1 0) (fun q5 => gkd A q5 9 (bd (bAL_size A dm q5) (fun r6 => gob A x0 (bd (f6_worth mm r6 (1 : Int32)) (fun r7 => if r7 = (-1 : Int32) then gob A x0 (bd (f6_wants mm r6 (1 : Int32)) (fun r8 => if r8 = (-1 : Int32) then gob A x0 (bd (f6_wants mm (0 : Int32) (10000 : Int32)) (fun r9 => if r9 = (-1 : Int32) then gob A x0 (bd (f6_level mm r6 (1 : Int32) (1 : Int32)) (fun r10 => if r10.1 = (-1000000 : Int32) then gob A x0 (bd (f6_level r10.2 (0 : Int32) (-1 : Int32) (1 : Int32)) (fun r11 => if r11.1 = (-1000000 : Int32) then gkd A x1 8 (gtr (dm x1 2) (fun q12 => gkd A q12 9 (bd (bAL_size A dm q12) (fun r13 => gob A x0 (bd (f6_line r11.2 r13 (0 : Int32) (0 : Int32)) (fun r14 => if r14 = (-1 : Int32) then gob A x0 (bd (f6_line r11.2 (0 : Int32) (4 : Int32) (0 : Int32)) (fun r15 => if r15 = (-1 : Int32) then some ((1 : Int32), r11.2, A, dm) else some ((0 : Int32), r11.2, A, dm))) else some ((0 : Int32), r11.2, A, dm))))))) else some ((0 : Int32), r11.2, A, dm))) else some ((0 : Int32), r10.2, A, dm))) else some ((0 : Int32), mm, A, dm))) else some ((0 : Int32), mm, A, dm))) else some ((0 : Int32), mm, A, dm)))))))))))
def tbbL_areLevels_l241 : Tb := [(241, .iload_n 3, 1, 242), (242, .aload_n 1, 1, 243), (243, .getfield 100, 3, 246), (246, .invokevirtual 106, 3, 249), (249, .if_icmp .ge 87, 3, 252), (336, .aload_n 1, 1, 337), (337, .getfield 55, 3, 340), (340, .invokevirtual 106, 3, 343), (343, .istore_n 3, 1, 344), (344, .aload_n 0, 1, 345), (345, .iload_n 3, 1, 346), (346, .iconst 1, 1, 347), (347, .invokevirtual 146, 3, 350), (350, .iconst (-1), 1, 351), (351, .if_icmp .ne 81, 3, 354), (432, .iconst 0, 1, 433), (433, .ireturn, 1, 434), (354, .aload_n 0, 1, 355), (355, .iload_n 3, 1, 356), (356, .iconst 1, 1, 357), (357, .invokevirtual 149, 3, 360), (360, .iconst (-1), 1, 361), (361, .if_icmp .ne 71, 3, 364), (364, .aload_n 0, 1, 365), (365, .iconst 0, 1, 366), (366, .sipush 10000, 3, 369), (369, .invokevirtual 149, 3, 372), (372, .iconst (-1), 1, 373), (373, .if_icmp .ne 59, 3, 376), (376, .aload_n 0, 1, 377), (377, .iload_n 3, 1, 378), (378, .iconst 1, 1, 379), (379, .iconst 1, 1, 380), (380, .invokevirtual 153, 3, 383), (383, .ldc 164, 2, 385), (385, .if_icmp .ne 47, 3, 388), (388, .aload_n 0, 1, 389), (389, .iconst 0, 1, 390), (390, .iconst (-1), 1, 391), (391, .iconst 1, 1, 392), (392, .invokevirtual 153, 3, 395), (395, .ldc 164, 2, 397), (397, .if_icmp .ne 35, 3, 400), (400, .aload_n 0, 1, 401), (401, .aload_n 1, 1, 402), (402, .getfield 100, 3, 405), (405, .invokevirtual 106, 3, 408), (408, .iconst 0, 1, 409), (409, .iconst 0, 1, 410), (410, .invokevirtual 162, 3, 413), (413, .iconst (-1), 1, 414), (414, .if_icmp .ne 18, 3, 417), (417, .aload_n 0, 1, 418), (418, .iconst 0, 1, 419), (419, .iconst 4, 1, 420), (420, .iconst 0, 1, 421), (421, .invokevirtual 162, 3, 424), (424, .iconst (-1), 1, 425), (425, .if_icmp .ne 7, 3, 428), (428, .iconst 1, 1, 429), (429, .goto 4, 3, 432), (252, .iconst 0, 1, 253), (253, .istore 4, 2, 255)]
theorem dtbL_areLevels_l241 : ∀ q ∈ tbbL_areLevels_l241, decode cL_areLevels q.1 = .ok (q.2.1, q.2.2.1) ∧ q.1 + q.2.2.1 = q.2.2.2 := by decide +kernel
theorem bL_areLevels_l241_ok {E : Ev2} {l : Launch} {K : KF} {x : Int32 × Mem × AS × DM} (X : Ec2 E l K rmFL_areLevels rmLL_areLevels) (B0 : Bx2 E RL [] 7 (some .boolean)) (hcd : Cd2 E cL_areLevels) (hQ : Rt2 E) (hr : Rs2 E (some (.int x.1)) x.2.1 x.2.2.1 x.2.2.2) (n : Nat) : ∀ (x0 : Nat) (x1 : Nat) (x3 : Int32) (mm : Mem) (A : AS) (dm : DM), bL_areLevels_l241 n x0 x1 x3 mm A dm = some x → G2 E 7 241 [(0, .ref x0), (1, .ref x1), (3, .int x3)] [] mm A dm := by
  induction n with
  | zero =>
    intro x0 x1 x3 mm A dm hf
    rw [bL_areLevels_l241] at hf
    cases hf
  | succ n ih =>
    intro x0 x1 x3 mm A dm hf
    rw [bL_areLevels_l241] at hf
    have B := B0.tab hcd dtbL_areLevels_l241
    refine w_iload_n B 0 rfl 3 2 rfl rfl ?_
    refine w_aload_n B 1 rfl 1 1 rfl rfl ?_
    obtain ⟨hk, hf⟩ := gkd_e hf
    obtain ⟨q3, ex, hf⟩ := gtr_e hf
    refine w_getrN B 2 rfl 8 2 x1 (by decide) hk rfl (List.mem_of_getElem? (i := 3) rfl) (Or.inl rfl) ex ?_
    obtain ⟨hk, hf⟩ := gkd_e hf
    obtain ⟨r4, ec, hf⟩ := bd_e hf
    refine w_callV q3 [] [.int x3] [.int r4, .int x3] X B 3 rfl miAL_size 9 (by decide) hk rfl rfl ⟨(iL_areLevels _ (List.mem_of_getElem? (i := 0) rfl)), (iL_areLevels _ (List.mem_of_getElem? (i := 1) rfl)), (iL_areLevels _ (List.mem_of_getElem? (i := 2) rfl))⟩ (ctAL_size ec) (Or.inl ⟨rfl, rfl⟩) ⟨Nat.le_of_ble_eq_true rfl, Nat.le_of_ble_eq_true rfl⟩ rfl rfl (Nat.le_of_ble_eq_true rfl) rfl ?_
    by_cases hc : x3 < r4
    · replace hf := (if_pos hc).symm.trans hf
      refine w_icmp_ge_f B 4 rfl 336 (by decide) hc ?_
      refine w_iconst 0 B 61 rfl (by decide) ?_
      refine w_istore [(4, .int (0 : Int32)), (0, .ref x0), (1, .ref x1), (3, .int x3)] B 62 rfl (by decide) rfl ?_
      refine w_sub [(0, .ref x0), (1, .ref x1), (3, .int x3), (4, .int (0 : Int32))] [1, 2, 3, 0] rfl ?_
      exact bL_areLevels_l255_ok X B0 hcd hQ hr ih FU _ _ _ _ _ _ _ hf
    · replace hf := (if_neg hc).symm.trans hf
      refine w_icmp_ge_t B 4 rfl 336 (by decide) hc ?_
      refine w_aload_n B 5 rfl 1 1 rfl rfl ?_
      obtain ⟨hk, hf⟩ := gkd_e hf
      obtain ⟨q5, ex, hf⟩ := gtr_e hf
      refine w_getrN B 6 rfl 8 0 x1 (by decide) hk rfl (List.mem_of_getElem? (i := 1) rfl) (Or.inl rfl) ex ?_
      obtain ⟨hk, hf⟩ := gkd_e hf
      obtain ⟨r6, ec, hf⟩ := bd_e hf
      refine w_callV q5 [] [] [.int r6] X B 7 rfl miAL_size 9 (by decide) hk rfl rfl ⟨(iL_areLevels _ (List.mem_of_getElem? (i := 0) rfl)), (iL_areLevels _ (List.mem_of_getElem? (i := 1) rfl)), (iL_areLevels _ (List.mem_of_getElem? (i := 2) rfl))⟩ (ctAL_size ec) (Or.inl ⟨rfl, rfl⟩) ⟨Nat.le_of_ble_eq_true rfl, Nat.le_of_ble_eq_true rfl⟩ rfl rfl (Nat.le_of_ble_eq_true rfl) rfl ?_
      refine w_istore_n [(3, .int r6), (0, .ref x0), (1, .ref x1)] B 8 rfl 3 rfl (by decide) rfl ?_
      refine w_aload_n B 9 rfl 0 1 rfl rfl ?_
      refine w_iload_n B 10 rfl 3 0 rfl rfl ?_
      refine w_iconst 1 B 11 rfl (by decide) ?_
      obtain ⟨ho, hf⟩ := gob_e hf
      obtain ⟨r7, ec, hf⟩ := bd_e hf
      refine w_callC x0 [.int r6, .int (1 : Int32)] [] [.int r7] X B 12 rfl miX6_worth rfl ho ⟨(iL_areLevels _ (List.mem_of_getElem? (i := 3) rfl)), (iL_areLevels _ (List.mem_of_getElem? (i := 4) rfl)), (iL_areLevels _ (List.mem_of_getElem? (i := 5) rfl))⟩ (fun hj => ctX6_worth hj ec) ⟨Nat.le_of_ble_eq_true rfl, Nat.le_of_ble_eq_true rfl⟩ rfl (fun _ _ => rfl) (fun _ _ => rfl) rfl (Nat.le_of_ble_eq_true rfl) rfl ?_
      refine w_iconst (-1) B 13 rfl (by decide) ?_
      by_cases hc : r7 = (-1 : Int32)
      · replace hf := (if_pos hc).symm.trans hf
        refine w_icmp_ne_f B 14 rfl 432 (by decide) hc ?_
        refine w_aload_n B 17 rfl 0 1 rfl rfl ?_
        refine w_iload_n B 18 rfl 3 0 rfl rfl ?_
        refine w_iconst 1 B 19 rfl (by decide) ?_
        obtain ⟨ho, hf⟩ := gob_e hf
        obtain ⟨r8, ec, hf⟩ := bd_e hf
        refine w_callC x0 [.int r6, .int (1 : Int32)] [] [.int r8] X B 20 rfl miX6_wants rfl ho ⟨(iL_areLevels _ (List.mem_of_getElem? (i := 6) rfl)), (iL_areLevels _ (List.mem_of_getElem? (i := 7) rfl)), (iL_areLevels _ (List.mem_of_getElem? (i := 8) rfl))⟩ (fun hj => ctX6_wants hj ec) ⟨Nat.le_of_ble_eq_true rfl, Nat.le_of_ble_eq_true rfl⟩ rfl (fun _ _ => rfl) (fun _ _ => rfl) rfl (Nat.le_of_ble_eq_true rfl) rfl ?_
        refine w_iconst (-1) B 21 rfl (by decide) ?_
        by_cases hc : r8 = (-1 : Int32)
        · replace hf := (if_pos hc).symm.trans hf
          refine w_icmp_ne_f B 22 rfl 432 (by decide) hc ?_
          refine w_aload_n B 23 rfl 0 1 rfl rfl ?_
          refine w_iconst 0 B 24 rfl (by decide) ?_
          refine w_sipush 10000 B 25 rfl (by decide) ?_
          obtain ⟨ho, hf⟩ := gob_e hf
          obtain ⟨r9, ec, hf⟩ := bd_e hf
          refine w_callC x0 [.int (0 : Int32), .int (10000 : Int32)] [] [.int r9] X B 26 rfl miX6_wants rfl ho ⟨(iL_areLevels _ (List.mem_of_getElem? (i := 6) rfl)), (iL_areLevels _ (List.mem_of_getElem? (i := 7) rfl)), (iL_areLevels _ (List.mem_of_getElem? (i := 8) rfl))⟩ (fun hj => ctX6_wants hj ec) ⟨Nat.le_of_ble_eq_true rfl, Nat.le_of_ble_eq_true rfl⟩ rfl (fun _ _ => rfl) (fun _ _ => rfl) rfl (Nat.le_of_ble_eq_true rfl) rfl ?_
          refine w_iconst (-1) B 27 rfl (by decide) ?_
          by_cases hc : r9 = (-1 : Int32)
          · replace hf := (if_pos hc).symm.trans hf
            refine w_icmp_ne_f B 28 rfl 432 (by decide) hc ?_
            refine w_aload_n B 29 rfl 0 1 rfl rfl ?_
            refine w_iload_n B 30 rfl 3 0 rfl rfl ?_
            refine w_iconst 1 B 31 rfl (by decide) ?_
            refine w_iconst 1 B 32 rfl (by decide) ?_
            obtain ⟨ho, hf⟩ := gob_e hf
            obtain ⟨r10, ec, hf⟩ := bd_e hf
            refine w_callC x0 [.int r6, .int (1 : Int32), .int (1 : Int32)] [] [.int r10.1] X B 33 rfl miX6_level rfl ho ⟨(iL_areLevels _ (List.mem_of_getElem? (i := 9) rfl)), (iL_areLevels _ (List.mem_of_getElem? (i := 10) rfl)), (iL_areLevels _ (List.mem_of_getElem? (i := 11) rfl))⟩ (fun hj => ctX6_level hj ec) ⟨Nat.le_of_ble_eq_true rfl, Nat.le_of_ble_eq_true rfl⟩ rfl (fun _ _ => rfl) (fun _ _ => rfl) rfl (Nat.le_of_ble_eq_true rfl) rfl ?_
            refine w_ldc (-1000000) B 34 rfl (iL_areLevels _ (List.mem_of_getElem? (i := 12) rfl)) ?_
            by_cases hc : r10.1 = (-1000000 : Int32)
            · replace hf := (if_pos hc).symm.trans hf
              refine w_icmp_ne_f B 35 rfl 432 (by decide) hc ?_
              refine w_aload_n B 36 rfl 0 1 rfl rfl ?_
              refine w_iconst 0 B 37 rfl (by decide) ?_
              refine w_iconst (-1) B 38 rfl (by decide) ?_
              refine w_iconst 1 B 39 rfl (by decide) ?_
              obtain ⟨ho, hf⟩ := gob_e hf
              obtain ⟨r11, ec, hf⟩ := bd_e hf
              refine w_callC x0 [.int (0 : Int32), .int (-1 : Int32), .int (1 : Int32)] [] [.int r11.1] X B 40 rfl miX6_level rfl ho ⟨(iL_areLevels _ (List.mem_of_getElem? (i := 9) rfl)), (iL_areLevels _ (List.mem_of_getElem? (i := 10) rfl)), (iL_areLevels _ (List.mem_of_getElem? (i := 11) rfl))⟩ (fun hj => ctX6_level hj ec) ⟨Nat.le_of_ble_eq_true rfl, Nat.le_of_ble_eq_true rfl⟩ rfl (fun _ _ => rfl) (fun _ _ => rfl) rfl (Nat.le_of_ble_eq_true rfl) rfl ?_
              refine w_ldc (-1000000) B 41 rfl (iL_areLevels _ (List.mem_of_getElem? (i := 12) rfl)) ?_
              by_cases hc : r11.1 = (-1000000 : Int32)
              · replace hf := (if_pos hc).symm.trans hf
                refine w_icmp_ne_f B 42 rfl 432 (by decide) hc ?_
                refine w_aload_n B 43 rfl 0 1 rfl rfl ?_
                refine w_aload_n B 44 rfl 1 2 rfl rfl ?_
                obtain ⟨hk, hf⟩ := gkd_e hf
                obtain ⟨q12, ex, hf⟩ := gtr_e hf
                refine w_getrN B 45 rfl 8 2 x1 (by decide) hk rfl (List.mem_of_getElem? (i := 3) rfl) (Or.inl rfl) ex ?_
                obtain ⟨hk, hf⟩ := gkd_e hf
                obtain ⟨r13, ec, hf⟩ := bd_e hf
                refine w_callV q12 [] [.ref x0] [.int r13, .ref x0] X B 46 rfl miAL_size 9 (by decide) hk rfl rfl ⟨(iL_areLevels _ (List.mem_of_getElem? (i := 0) rfl)), (iL_areLevels _ (List.mem_of_getElem? (i := 1) rfl)), (iL_areLevels _ (List.mem_of_getElem? (i := 2) rfl))⟩ (ctAL_size ec) (Or.inl ⟨rfl, rfl⟩) ⟨Nat.le_of_ble_eq_true rfl, Nat.le_of_ble_eq_true rfl⟩ rfl rfl (Nat.le_of_ble_eq_true rfl) rfl ?_
                refine w_iconst 0 B 47 rfl (by decide) ?_
                refine w_iconst 0 B 48 rfl (by decide) ?_
                obtain ⟨ho, hf⟩ := gob_e hf
                obtain ⟨r14, ec, hf⟩ := bd_e hf
                refine w_callC x0 [.int r13, .int (0 : Int32), .int (0 : Int32)] [] [.int r14] X B 49 rfl miX6_line rfl ho ⟨(iL_areLevels _ (List.mem_of_getElem? (i := 13) rfl)), (iL_areLevels _ (List.mem_of_getElem? (i := 14) rfl)), (iL_areLevels _ (List.mem_of_getElem? (i := 15) rfl))⟩ (fun hj => ctX6_line hj ec) ⟨Nat.le_of_ble_eq_true rfl, Nat.le_of_ble_eq_true rfl⟩ rfl (fun _ _ => rfl) (fun _ _ => rfl) rfl (Nat.le_of_ble_eq_true rfl) rfl ?_
                refine w_iconst (-1) B 50 rfl (by decide) ?_
                by_cases hc : r14 = (-1 : Int32)
                · replace hf := (if_pos hc).symm.trans hf
                  refine w_icmp_ne_f B 51 rfl 432 (by decide) hc ?_
                  refine w_aload_n B 52 rfl 0 1 rfl rfl ?_
                  refine w_iconst 0 B 53 rfl (by decide) ?_
                  refine w_iconst 4 B 54 rfl (by decide) ?_
                  refine w_iconst 0 B 55 rfl (by decide) ?_
                  obtain ⟨ho, hf⟩ := gob_e hf
                  obtain ⟨r15, ec, hf⟩ := bd_e hf
                  refine w_callC x0 [.int (0 : Int32), .int (4 : Int32), .int (0 : Int32)] [] [.int r15] X B 56 rfl miX6_line rfl ho ⟨(iL_areLevels _ (List.mem_of_getElem? (i := 13) rfl)), (iL_areLevels _ (List.mem_of_getElem? (i := 14) rfl)), (iL_areLevels _ (List.mem_of_getElem? (i := 15) rfl))⟩ (fun hj => ctX6_line hj ec) ⟨Nat.le_of_ble_eq_true rfl, Nat.le_of_ble_eq_true rfl⟩ rfl (fun _ _ => rfl) (fun _ _ => rfl) rfl (Nat.le_of_ble_eq_true rfl) rfl ?_
                  refine w_iconst (-1) B 57 rfl (by decide) ?_
                  by_cases hc : r15 = (-1 : Int32)
                  · replace hf := (if_pos hc).symm.trans hf
                    refine w_icmp_ne_f B 58 rfl 432 (by decide) hc ?_
                    refine w_iconst 1 B 59 rfl (by decide) ?_
                    refine w_goto B 60 rfl 433 (by decide) ?_
                    cases hf
                    exact w_iret B 16 rfl (by decide) hQ hr
                  · replace hf := (if_neg hc).symm.trans hf
                    refine w_icmp_ne_t B 58 rfl 432 (by decide) hc ?_
                    refine w_iconst 0 B 15 rfl (by decide) ?_
                    cases hf
                    exact w_iret B 16 rfl (by decide) hQ hr
                · replace hf := (if_neg hc).symm.trans hf
                  refine w_icmp_ne_t B 51 rfl 432 (by decide) hc ?_
                  refine w_iconst 0 B 15 rfl (by decide) ?_
                  cases hf
                  exact w_iret B 16 rfl (by decide) hQ hr
              · replace hf := (if_neg hc).symm.trans hf
                refine w_icmp_ne_t B 42 rfl 432 (by decide) hc ?_
                refine w_iconst 0 B 15 rfl (by decide) ?_
                cases hf
                exact w_iret B 16 rfl (by decide) hQ hr
            · replace hf := (if_neg hc).symm.trans hf
              refine w_icmp_ne_t B 35 rfl 432 (by decide) hc ?_
              refine w_iconst 0 B 15 rfl (by decide) ?_
              cases hf
              exact w_iret B 16 rfl (by decide) hQ hr
          · replace hf := (if_neg hc).symm.trans hf
            refine w_icmp_ne_t B 28 rfl 432 (by decide) hc ?_
            refine w_iconst 0 B 15 rfl (by decide) ?_
            cases hf
            exact w_iret B 16 rfl (by decide) hQ hr
        · replace hf := (if_neg hc).symm.trans hf
          refine w_icmp_ne_t B 22 rfl 432 (by decide) hc ?_
          refine w_iconst 0 B 15 rfl (by decide) ?_
          cases hf
          exact w_iret B 16 rfl (by decide) hQ hr
      · replace hf := (if_neg hc).symm.trans hf
        refine w_icmp_ne_t B 14 rfl 432 (by decide) hc ?_
        refine w_iconst 0 B 15 rfl (by decide) ?_
        cases hf
        exact w_iret B 16 rfl (by decide) hQ hr
def bL_areLevels_j168 (k2 : Nat → Nat → Nat → Int32 → Mem → AS → DM → Option (Int32 × Mem × AS × DM)) (k108 : Nat → Nat → Nat → Int32 → Nat → Int32 → Mem → AS → DM → Option (Int32 × Mem × AS × DM)) (x0 : Nat) (x1 : Nat) (x2 : Nat) (x3 : Int32) (x4 : Nat) (x5 : Int32) (s0 : Int32) (mm : Mem) (A : AS) (dm : DM) : Option (Int32 × Mem × AS × DM) := gob A x0 (bd (f6_wants mm x3 s0) (fun r30 => gkd A x1 8 (bdg (fun (x : Int32 × Mem × AS × DM) => x.2.2.1) A (bX8_wants A dm x1 x3 s0) (fun (x : Int32 × AS × DM) => x.2.1) (fun r31 => if r30 = r31.1 then gob r31.2.1 x0 (bd (f6_level mm x3 s0 (0 : Int32)) (fun r32 => gkd r31.2.1 x1 8 (bdg (fun (x : Int32 × Mem × AS × DM) => x.2.2.1) r31.2.1 (bX8_level 6 r31.2.1 r31.2.2 x1 x3 s0 (0 : Int32)) (fun (x : Int32 × AS × DM) => x.2.1) (fun r33 => if r32.1 = r33.1 then gob r33.2.1 x0 (bd (f6_level r32.2 x3 s0 (1 : Int32)) (fun r34 => gkd r33.2.1 x1 8 (bdg (fun (x : Int32 × Mem × AS × DM) => x.2.2.1) r33.2.1 (bX8_level 6 r33.2.1 r33.2.2 x1 x3 s0 (1 : Int32)) (fun (x : Int32 × AS × DM) => x.2.1) (fun r35 => if r34.1 = r35.1 then nm (x5 + 1) (fun v36 => k108 x0 x1 x2 x3 x4 v36 r34.2 r35.2.1 r35.2.2) else some ((0 : Int32), r34.2, r35.2.1, r35.2.2))))) else some ((0 : Int32), r32.2, r33.2.1, r33.2.2))))) else some ((0 : Int32), mm, r31.2.1, r31.2.2)))))
def tbbL_areLevels_j168 : Tb := [(168, .istore 6, 2, 170), (170, .aload_n 0, 1, 171), (171, .iload_n 3, 1, 172), (172, .iload 6, 2, 174), (174, .invokevirtual 149, 3, 177), (177, .aload_n 1, 1, 178), (178, .iload_n 3, 1, 179), (179, .iload 6, 2, 181), (181, .invokevirtual 152, 3, 184), (184, .if_icmp .ne 41, 3, 187), (225, .iconst 0, 1, 226), (226, .ireturn, 1, 227), (187, .aload_n 0, 1, 188), (188, .iload_n 3, 1, 189), (189, .iload 6, 2, 191), (191, .iconst 0, 1, 192), (192, .invokevirtual 153, 3, 195), (195, .aload_n 1, 1, 196), (196, .iload_n 3, 1, 197), (197, .iload 6, 2, 199), (199, .iconst 0, 1, 200), (200, .invokevirtual 157, 3, 203), (203, .if_icmp .ne 22, 3, 206), (206, .aload_n 0, 1, 207), (207, .iload_n 3, 1, 208), (208, .iload 6, 2, 210), (210, .iconst 1, 1, 211), (211, .invokevirtual 153, 3, 214), (214, .aload_n 1, 1, 215), (215, .iload_n 3, 1, 216), (216, .iload 6, 2, 218), (218, .iconst 1, 1, 219), (219, .invokevirtual 157, 3, 222), (222, .if_icmp .eq 5, 3, 225), (227, .iinc 5 1, 3, 230), (230, .goto (-122), 3, 233)]
theorem dtbL_areLevels_j168 : ∀ q ∈ tbbL_areLevels_j168, decode cL_areLevels q.1 = .ok (q.2.1, q.2.2.1) ∧ q.1 + q.2.2.1 = q.2.2.2 := by decide +kernel
theorem bL_areLevels_j168_ok {E : Ev2} {l : Launch} {K : KF} {x : Int32 × Mem × AS × DM} {k2 : Nat → Nat → Nat → Int32 → Mem → AS → DM → Option (Int32 × Mem × AS × DM)} {k108 : Nat → Nat → Nat → Int32 → Nat → Int32 → Mem → AS → DM → Option (Int32 × Mem × AS × DM)} (X : Ec2 E l K rmFL_areLevels rmLL_areLevels) (B0 : Bx2 E RL [] 7 (some .boolean)) (hcd : Cd2 E cL_areLevels) (hQ : Rt2 E) (hr : Rs2 E (some (.int x.1)) x.2.1 x.2.2.1 x.2.2.2) (hk2 : ∀ (x0 : Nat) (x1 : Nat) (x2 : Nat) (x3 : Int32) (mm : Mem) (A : AS) (dm : DM), k2 x0 x1 x2 x3 mm A dm = some x → G2 E 7 2 [(0, .ref x0), (1, .ref x1), (2, .ref x2), (3, .int x3)] [] mm A dm) (hk108 : ∀ (x0 : Nat) (x1 : Nat) (x2 : Nat) (x3 : Int32) (x4 : Nat) (x5 : Int32) (mm : Mem) (A : AS) (dm : DM), k108 x0 x1 x2 x3 x4 x5 mm A dm = some x → G2 E 7 108 [(0, .ref x0), (1, .ref x1), (2, .ref x2), (3, .int x3), (4, .ref x4), (5, .int x5)] [] mm A dm) (x0 : Nat) (x1 : Nat) (x2 : Nat) (x3 : Int32) (x4 : Nat) (x5 : Int32) (s0 : Int32) (mm : Mem) (A : AS) (dm : DM) (hf : bL_areLevels_j168 k2 k108 x0 x1 x2 x3 x4 x5 s0 mm A dm = some x) : G2 E 7 168 [(0, .ref x0), (1, .ref x1), (2, .ref x2), (3, .int x3), (4, .ref x4), (5, .int x5)] [.int s0] mm A dm := by
  unfold bL_areLevels_j168 at hf
  have B := B0.tab hcd dtbL_areLevels_j168
  refine w_istore [(6, .int s0), (0, .ref x0), (1, .ref x1), (2, .ref x2), (3, .int x3), (4, .ref x4), (5, .int x5)] B 0 rfl (by decide) rfl ?_
  refine w_aload_n B 1 rfl 0 1 rfl rfl ?_
  refine w_iload_n B 2 rfl 3 4 rfl rfl ?_
  refine w_iload B 3 rfl 0 rfl ?_
  obtain ⟨ho, hf⟩ := gob_e hf
  obtain ⟨r30, ec, hf⟩ := bd_e hf
  refine w_callC x0 [.int x3, .int s0] [] [.int r30] X B 4 rfl miX6_wants rfl ho ⟨(iL_areLevels _ (List.mem_of_getElem? (i := 6) rfl)), (iL_areLevels _ (List.mem_of_getElem? (i := 7) rfl)), (iL_areLevels _ (List.mem_of_getElem? (i := 8) rfl))⟩ (fun hj => ctX6_wants hj ec) ⟨Nat.le_of_ble_eq_true rfl, Nat.le_of_ble_eq_true rfl⟩ rfl (fun _ _ => rfl) (fun _ _ => rfl) rfl (Nat.le_of_ble_eq_true rfl) rfl ?_
  refine w_aload_n B 5 rfl 1 2 rfl rfl ?_
  refine w_iload_n B 6 rfl 3 4 rfl rfl ?_
  refine w_iload B 7 rfl 0 rfl ?_
  obtain ⟨hk, hf⟩ := gkd_e hf
  obtain ⟨r31, ec, hgd, hf⟩ := bdg_e hf
  refine w_callV x1 [.int x3, .int s0] [.int r30] [.int r31.1, .int r30] X B 8 rfl miX8_wants 8 (by decide) hk rfl rfl ⟨(iL_areLevels _ (List.mem_of_getElem? (i := 25) rfl)), (iL_areLevels _ (List.mem_of_getElem? (i := 26) rfl)), (iL_areLevels _ (List.mem_of_getElem? (i := 27) rfl))⟩ (ctX8_wants ec) (Or.inr ⟨_, _, _, _, hr, hgd⟩) ⟨Nat.le_of_ble_eq_true rfl, Nat.le_of_ble_eq_true rfl⟩ rfl rfl (Nat.le_of_ble_eq_true rfl) rfl ?_
  by_cases hc : r30 = r31.1
  · replace hf := (if_pos hc).symm.trans hf
    refine w_icmp_ne_f B 9 rfl 225 (by decide) hc ?_
    refine w_aload_n B 12 rfl 0 1 rfl rfl ?_
    refine w_iload_n B 13 rfl 3 4 rfl rfl ?_
    refine w_iload B 14 rfl 0 rfl ?_
    refine w_iconst 0 B 15 rfl (by decide) ?_
    obtain ⟨ho, hf⟩ := gob_e hf
    obtain ⟨r32, ec, hf⟩ := bd_e hf
    refine w_callC x0 [.int x3, .int s0, .int (0 : Int32)] [] [.int r32.1] X B 16 rfl miX6_level rfl ho ⟨(iL_areLevels _ (List.mem_of_getElem? (i := 9) rfl)), (iL_areLevels _ (List.mem_of_getElem? (i := 10) rfl)), (iL_areLevels _ (List.mem_of_getElem? (i := 11) rfl))⟩ (fun hj => ctX6_level hj ec) ⟨Nat.le_of_ble_eq_true rfl, Nat.le_of_ble_eq_true rfl⟩ rfl (fun _ _ => rfl) (fun _ _ => rfl) rfl (Nat.le_of_ble_eq_true rfl) rfl ?_
    refine w_aload_n B 17 rfl 1 2 rfl rfl ?_
    refine w_iload_n B 18 rfl 3 4 rfl rfl ?_
    refine w_iload B 19 rfl 0 rfl ?_
    refine w_iconst 0 B 20 rfl (by decide) ?_
    obtain ⟨hk, hf⟩ := gkd_e hf
    obtain ⟨r33, ec, hgd, hf⟩ := bdg_e hf
    refine w_callV x1 [.int x3, .int s0, .int (0 : Int32)] [.int r32.1] [.int r33.1, .int r32.1] X B 21 rfl miX8_level 8 (by decide) hk rfl rfl ⟨(iL_areLevels _ (List.mem_of_getElem? (i := 28) rfl)), (iL_areLevels _ (List.mem_of_getElem? (i := 29) rfl)), (iL_areLevels _ (List.mem_of_getElem? (i := 30) rfl))⟩ (ctX8_level ec) (Or.inr ⟨_, _, _, _, hr, hgd⟩) ⟨Nat.le_of_ble_eq_true rfl, Nat.le_of_ble_eq_true rfl⟩ rfl rfl (Nat.le_of_ble_eq_true rfl) rfl ?_
    by_cases hc : r32.1 = r33.1
    · replace hf := (if_pos hc).symm.trans hf
      refine w_icmp_ne_f B 22 rfl 225 (by decide) hc ?_
      refine w_aload_n B 23 rfl 0 1 rfl rfl ?_
      refine w_iload_n B 24 rfl 3 4 rfl rfl ?_
      refine w_iload B 25 rfl 0 rfl ?_
      refine w_iconst 1 B 26 rfl (by decide) ?_
      obtain ⟨ho, hf⟩ := gob_e hf
      obtain ⟨r34, ec, hf⟩ := bd_e hf
      refine w_callC x0 [.int x3, .int s0, .int (1 : Int32)] [] [.int r34.1] X B 27 rfl miX6_level rfl ho ⟨(iL_areLevels _ (List.mem_of_getElem? (i := 9) rfl)), (iL_areLevels _ (List.mem_of_getElem? (i := 10) rfl)), (iL_areLevels _ (List.mem_of_getElem? (i := 11) rfl))⟩ (fun hj => ctX6_level hj ec) ⟨Nat.le_of_ble_eq_true rfl, Nat.le_of_ble_eq_true rfl⟩ rfl (fun _ _ => rfl) (fun _ _ => rfl) rfl (Nat.le_of_ble_eq_true rfl) rfl ?_
      refine w_aload_n B 28 rfl 1 2 rfl rfl ?_
      refine w_iload_n B 29 rfl 3 4 rfl rfl ?_
      refine w_iload B 30 rfl 0 rfl ?_
      refine w_iconst 1 B 31 rfl (by decide) ?_
      obtain ⟨hk, hf⟩ := gkd_e hf
      obtain ⟨r35, ec, hgd, hf⟩ := bdg_e hf
      refine w_callV x1 [.int x3, .int s0, .int (1 : Int32)] [.int r34.1] [.int r35.1, .int r34.1] X B 32 rfl miX8_level 8 (by decide) hk rfl rfl ⟨(iL_areLevels _ (List.mem_of_getElem? (i := 28) rfl)), (iL_areLevels _ (List.mem_of_getElem? (i := 29) rfl)), (iL_areLevels _ (List.mem_of_getElem? (i := 30) rfl))⟩ (ctX8_level ec) (Or.inr ⟨_, _, _, _, hr, hgd⟩) ⟨Nat.le_of_ble_eq_true rfl, Nat.le_of_ble_eq_true rfl⟩ rfl rfl (Nat.le_of_ble_eq_true rfl) rfl ?_
      by_cases hc : r34.1 = r35.1
      · replace hf := (if_pos hc).symm.trans hf
        refine w_icmp_eq_t B 33 rfl 227 (by decide) hc ?_
        obtain ⟨v36, ex, hf⟩ := nm_x hf
        refine w_iinc v36 [(5, .int v36), (6, .int s0), (0, .ref x0), (1, .ref x1), (2, .ref x2), (3, .int x3), (4, .ref x4)] B 34 rfl 6 rfl (ex.symm) (by decide) rfl ?_
        refine w_goto B 35 rfl 108 (by decide) ?_
        refine w_sub [(0, .ref x0), (1, .ref x1), (2, .ref x2), (3, .int x3), (4, .ref x4), (5, .int v36)] [2, 3, 4, 5, 6, 0] rfl ?_
        exact hk108 _ _ _ _ _ _ _ _ _ hf
      · replace hf := (if_neg hc).symm.trans hf
        refine w_icmp_eq_f B 33 rfl 227 (by decide) hc ?_
        refine w_iconst 0 B 10 rfl (by decide) ?_
        cases hf
        exact w_iret B 11 rfl (by decide) hQ hr
    · replace hf := (if_neg hc).symm.trans hf
      refine w_icmp_ne_t B 22 rfl 225 (by decide) hc ?_
      refine w_iconst 0 B 10 rfl (by decide) ?_
      cases hf
      exact w_iret B 11 rfl (by decide) hQ hr
  · replace hf := (if_neg hc).symm.trans hf
    refine w_icmp_ne_t B 9 rfl 225 (by decide) hc ?_
    refine w_iconst 0 B 10 rfl (by decide) ?_
    cases hf
    exact w_iret B 11 rfl (by decide) hQ hr
def bL_areLevels_j161 (k2 : Nat → Nat → Nat → Int32 → Mem → AS → DM → Option (Int32 × Mem × AS × DM)) (k108 : Nat → Nat → Nat → Int32 → Nat → Int32 → Mem → AS → DM → Option (Int32 × Mem × AS × DM)) (x0 : Nat) (x1 : Nat) (x2 : Nat) (x3 : Int32) (x4 : Nat) (x5 : Int32) (mm : Mem) (A : AS) (dm : DM) : Option (Int32 × Mem × AS × DM) := gkd A x2 7 (bd (bX7_next A dm x2 (1000 : Int32)) (fun r29 => bL_areLevels_j168 k2 k108 x0 x1 x2 x3 x4 x5 r29.1 mm A r29.2))
def tbbL_areLevels_j161 : Tb := [(161, .aload_n 2, 1, 162), (162, .sipush 1000, 3, 165), (165, .invokevirtual 49, 3, 168)]
theorem dtbL_areLevels_j161 : ∀ q ∈ tbbL_areLevels_j161, decode cL_areLevels q.1 = .ok (q.2.1, q.2.2.1) ∧ q.1 + q.2.2.1 = q.2.2.2 := by decide +kernel
theorem bL_areLevels_j161_ok {E : Ev2} {l : Launch} {K : KF} {x : Int32 × Mem × AS × DM} {k2 : Nat → Nat → Nat → Int32 → Mem → AS → DM → Option (Int32 × Mem × AS × DM)} {k108 : Nat → Nat → Nat → Int32 → Nat → Int32 → Mem → AS → DM → Option (Int32 × Mem × AS × DM)} (X : Ec2 E l K rmFL_areLevels rmLL_areLevels) (B0 : Bx2 E RL [] 7 (some .boolean)) (hcd : Cd2 E cL_areLevels) (hQ : Rt2 E) (hr : Rs2 E (some (.int x.1)) x.2.1 x.2.2.1 x.2.2.2) (hk2 : ∀ (x0 : Nat) (x1 : Nat) (x2 : Nat) (x3 : Int32) (mm : Mem) (A : AS) (dm : DM), k2 x0 x1 x2 x3 mm A dm = some x → G2 E 7 2 [(0, .ref x0), (1, .ref x1), (2, .ref x2), (3, .int x3)] [] mm A dm) (hk108 : ∀ (x0 : Nat) (x1 : Nat) (x2 : Nat) (x3 : Int32) (x4 : Nat) (x5 : Int32) (mm : Mem) (A : AS) (dm : DM), k108 x0 x1 x2 x3 x4 x5 mm A dm = some x → G2 E 7 108 [(0, .ref x0), (1, .ref x1), (2, .ref x2), (3, .int x3), (4, .ref x4), (5, .int x5)] [] mm A dm) (x0 : Nat) (x1 : Nat) (x2 : Nat) (x3 : Int32) (x4 : Nat) (x5 : Int32) (mm : Mem) (A : AS) (dm : DM) (hf : bL_areLevels_j161 k2 k108 x0 x1 x2 x3 x4 x5 mm A dm = some x) : G2 E 7 161 [(0, .ref x0), (1, .ref x1), (2, .ref x2), (3, .int x3), (4, .ref x4), (5, .int x5)] [] mm A dm := by
  unfold bL_areLevels_j161 at hf
  have B := B0.tab hcd dtbL_areLevels_j161
  refine w_aload_n B 0 rfl 2 2 rfl rfl ?_
  refine w_sipush 1000 B 1 rfl (by decide) ?_
  obtain ⟨hk, hf⟩ := gkd_e hf
  obtain ⟨r29, ec, hf⟩ := bd_e hf
  refine w_callV x2 [.int (1000 : Int32)] [] [.int r29.1] X B 2 rfl miX7_next 7 (by decide) hk rfl rfl ⟨(iL_areLevels _ (List.mem_of_getElem? (i := 22) rfl)), (iL_areLevels _ (List.mem_of_getElem? (i := 23) rfl)), (iL_areLevels _ (List.mem_of_getElem? (i := 24) rfl))⟩ (ctX7_next ec) (Or.inl ⟨rfl, rfl⟩) ⟨Nat.le_of_ble_eq_true rfl, Nat.le_of_ble_eq_true rfl⟩ rfl rfl (Nat.le_of_ble_eq_true rfl) rfl ?_
  exact bL_areLevels_j168_ok X B0 hcd hQ hr hk2 hk108 _ _ _ _ _ _ _ _ _ _ hf
def bL_areLevels_l108 (k2 : Nat → Nat → Nat → Int32 → Mem → AS → DM → Option (Int32 × Mem × AS × DM)) : Nat → Nat → Nat → Nat → Int32 → Nat → Int32 → Mem → AS → DM → Option (Int32 × Mem × AS × DM)
  | 0, _, _, _, _, _, _, _, _, _ => none
  | n + 1, x0, x1, x2, x3, x4, x5, mm, A, dm => if x5 < (6 : Int32) then if x5 = 0 then bL_areLevels_j168 k2 (fun x0 x1 x2 x3 x4 x5 mm9 A9 dm9 => bL_areLevels_l108 k2 n x0 x1 x2 x3 x4 x5 mm9 A9 dm9) x0 x1 x2 x3 x4 x5 (0 : Int32) mm A dm else if x5 = (1 : Int32) then bL_areLevels_j168 k2 (fun x0 x1 x2 x3 x4 x5 mm9 A9 dm9 => bL_areLevels_l108 k2 n x0 x1 x2 x3 x4 x5 mm9 A9 dm9) x0 x1 x2 x3 x4 x5 (9999 : Int32) mm A dm else gal A x4 (if 0 < (nI (lenA A x4)) then if x5 < (4 : Int32) then gal A x4 (gkd A x2 7 (bd (bX7_next A dm x2 (nI (lenA A x4))) (fun r37 => gkd A x4 20 (gix A x4 r37.1 (gti (r37.2 x4 r37.1.toNatClampNeg) (fun v38 => bL_areLevels_j168 k2 (fun x0 x1 x2 x3 x4 x5 mm9 A9 dm9 => bL_areLevels_l108 k2 n x0 x1 x2 x3 x4 x5 mm9 A9 dm9) x0 x1 x2 x3 x4 x5 v38 mm A r37.2)))))) else bL_areLevels_j161 k2 (fun x0 x1 x2 x3 x4 x5 mm9 A9 dm9 => bL_areLevels_l108 k2 n x0 x1 x2 x3 x4 x5 mm9 A9 dm9) x0 x1 x2 x3 x4 x5 mm A dm else bL_areLevels_j161 k2 (fun x0 x1 x2 x3 x4 x5 mm9 A9 dm9 => bL_areLevels_l108 k2 n x0 x1 x2 x3 x4 x5 mm9 A9 dm9) x0 x1 x2 x3 x4 x5 mm A dm) else nm (x3 + 1) (fun v28 => k2 x0 x1 x2 v28 mm A dm)
def tbbL_areLevels_l108 : Tb := [(108, .iload 5, 2, 110), (110, .bipush 6, 2, 112), (112, .if_icmp .ge 121, 3, 115), (233, .iinc 3 1, 3, 236), (236, .goto (-234), 3, 239), (115, .iload 5, 2, 117), (117, .ifCond .ne 7, 3, 120), (124, .iload 5, 2, 126), (126, .iconst 1, 1, 127), (127, .if_icmp .ne 9, 3, 130), (136, .aload 4, 2, 138), (138, .arraylength, 1, 139), (139, .ifCond .le 22, 3, 142), (142, .iload 5, 2, 144), (144, .iconst 4, 1, 145), (145, .if_icmp .ge 16, 3, 148), (148, .aload 4, 2, 150), (150, .aload_n 2, 1, 151), (151, .aload 4, 2, 153), (153, .arraylength, 1, 154), (154, .invokevirtual 49, 3, 157), (157, .iaload, 1, 158), (158, .goto 10, 3, 161), (130, .sipush 9999, 3, 133), (133, .goto 35, 3, 136), (120, .iconst 0, 1, 121), (121, .goto 47, 3, 124)]
theorem dtbL_areLevels_l108 : ∀ q ∈ tbbL_areLevels_l108, decode cL_areLevels q.1 = .ok (q.2.1, q.2.2.1) ∧ q.1 + q.2.2.1 = q.2.2.2 := by decide +kernel
theorem bL_areLevels_l108_ok {E : Ev2} {l : Launch} {K : KF} {x : Int32 × Mem × AS × DM} {k2 : Nat → Nat → Nat → Int32 → Mem → AS → DM → Option (Int32 × Mem × AS × DM)} (X : Ec2 E l K rmFL_areLevels rmLL_areLevels) (B0 : Bx2 E RL [] 7 (some .boolean)) (hcd : Cd2 E cL_areLevels) (hQ : Rt2 E) (hr : Rs2 E (some (.int x.1)) x.2.1 x.2.2.1 x.2.2.2) (hk2 : ∀ (x0 : Nat) (x1 : Nat) (x2 : Nat) (x3 : Int32) (mm : Mem) (A : AS) (dm : DM), k2 x0 x1 x2 x3 mm A dm = some x → G2 E 7 2 [(0, .ref x0), (1, .ref x1), (2, .ref x2), (3, .int x3)] [] mm A dm) (n : Nat) : ∀ (x0 : Nat) (x1 : Nat) (x2 : Nat) (x3 : Int32) (x4 : Nat) (x5 : Int32) (mm : Mem) (A : AS) (dm : DM), bL_areLevels_l108 k2 n x0 x1 x2 x3 x4 x5 mm A dm = some x → G2 E 7 108 [(0, .ref x0), (1, .ref x1), (2, .ref x2), (3, .int x3), (4, .ref x4), (5, .int x5)] [] mm A dm := by
  induction n with
  | zero =>
    intro x0 x1 x2 x3 x4 x5 mm A dm hf
    rw [bL_areLevels_l108] at hf
    cases hf
  | succ n ih =>
    intro x0 x1 x2 x3 x4 x5 mm A dm hf
    rw [bL_areLevels_l108] at hf
    have B := B0.tab hcd dtbL_areLevels_l108
    refine w_iload B 0 rfl 5 rfl ?_
    refine w_bipush 6 B 1 rfl (by decide) ?_
    by_cases hc : x5 < (6 : Int32)
    · replace hf := (if_pos hc).symm.trans hf
      refine w_icmp_ge_f B 2 rfl 233 (by decide) hc ?_
      refine w_iload B 5 rfl 5 rfl ?_
      by_cases hc : x5 = 0
      · replace hf := (if_pos hc).symm.trans hf
        refine w_if_ne_f B 6 rfl 124 (by decide) hc ?_
        refine w_iconst 0 B 25 rfl (by decide) ?_
        refine w_goto B 26 rfl 168 (by decide) ?_
        exact bL_areLevels_j168_ok X B0 hcd hQ hr hk2 ih _ _ _ _ _ _ _ _ _ _ hf
      · replace hf := (if_neg hc).symm.trans hf
        refine w_if_ne_t B 6 rfl 124 (by decide) hc ?_
        refine w_iload B 7 rfl 5 rfl ?_
        refine w_iconst 1 B 8 rfl (by decide) ?_
        by_cases hc : x5 = (1 : Int32)
        · replace hf := (if_pos hc).symm.trans hf
          refine w_icmp_ne_f B 9 rfl 136 (by decide) hc ?_
          refine w_sipush 9999 B 23 rfl (by decide) ?_
          refine w_goto B 24 rfl 168 (by decide) ?_
          exact bL_areLevels_j168_ok X B0 hcd hQ hr hk2 ih _ _ _ _ _ _ _ _ _ _ hf
        · replace hf := (if_neg hc).symm.trans hf
          refine w_icmp_ne_t B 9 rfl 136 (by decide) hc ?_
          refine w_aload B 10 rfl 4 rfl ?_
          obtain ⟨hk, hf⟩ := gal_e hf
          refine w_alen B 11 rfl hk ?_
          by_cases hc : 0 < (nI (lenA A x4))
          · replace hf := (if_pos hc).symm.trans hf
            refine w_if_le_f B 12 rfl 161 (by decide) hc ?_
            refine w_iload B 13 rfl 5 rfl ?_
            refine w_iconst 4 B 14 rfl (by decide) ?_
            by_cases hc : x5 < (4 : Int32)
            · replace hf := (if_pos hc).symm.trans hf
              refine w_icmp_ge_f B 15 rfl 161 (by decide) hc ?_
              refine w_aload B 16 rfl 4 rfl ?_
              refine w_aload_n B 17 rfl 2 2 rfl rfl ?_
              refine w_aload B 18 rfl 4 rfl ?_
              obtain ⟨hk, hf⟩ := gal_e hf
              refine w_alen B 19 rfl hk ?_
              obtain ⟨hk, hf⟩ := gkd_e hf
              obtain ⟨r37, ec, hf⟩ := bd_e hf
              refine w_callV x2 [.int (nI (lenA A x4))] [.ref x4] [.int r37.1, .ref x4] X B 20 rfl miX7_next 7 (by decide) hk rfl rfl ⟨(iL_areLevels _ (List.mem_of_getElem? (i := 22) rfl)), (iL_areLevels _ (List.mem_of_getElem? (i := 23) rfl)), (iL_areLevels _ (List.mem_of_getElem? (i := 24) rfl))⟩ (ctX7_next ec) (Or.inl ⟨rfl, rfl⟩) ⟨Nat.le_of_ble_eq_true rfl, Nat.le_of_ble_eq_true rfl⟩ rfl rfl (Nat.le_of_ble_eq_true rfl) rfl ?_
              obtain ⟨hk, hf⟩ := gkd_e hf
              obtain ⟨hx, hf⟩ := gix_e hf
              obtain ⟨v38, ex, hf⟩ := gti_e hf
              refine w_iald B 21 rfl hk hx ex ?_
              refine w_goto B 22 rfl 168 (by decide) ?_
              exact bL_areLevels_j168_ok X B0 hcd hQ hr hk2 ih _ _ _ _ _ _ _ _ _ _ hf
            · replace hf := (if_neg hc).symm.trans hf
              refine w_icmp_ge_t B 15 rfl 161 (by decide) hc ?_
              exact bL_areLevels_j161_ok X B0 hcd hQ hr hk2 ih _ _ _ _ _ _ _ _ _ hf
          · replace hf := (if_neg hc).symm.trans hf
            refine w_if_le_t B 12 rfl 161 (by decide) hc ?_
            exact bL_areLevels_j161_ok X B0 hcd hQ hr hk2 ih _ _ _ _ _ _ _ _ _ hf
    · replace hf := (if_neg hc).symm.trans hf
      refine w_icmp_ge_t B 2 rfl 233 (by decide) hc ?_
      obtain ⟨v28, ex, hf⟩ := nm_x hf
      refine w_iinc v28 [(3, .int v28), (0, .ref x0), (1, .ref x1), (2, .ref x2), (4, .ref x4), (5, .int x5)] B 3 rfl 3 rfl (ex.symm) (by decide) rfl ?_
      refine w_goto B 4 rfl 2 (by decide) ?_
      refine w_sub [(0, .ref x0), (1, .ref x1), (2, .ref x2), (3, .int v28)] [1, 2, 3, 0] rfl ?_
      exact hk2 _ _ _ _ _ _ _ hf
def bL_areLevels_j73 (k2 : Nat → Nat → Nat → Int32 → Mem → AS → DM → Option (Int32 × Mem × AS × DM)) (k23 : Nat → Nat → Nat → Int32 → Nat → Int32 → Mem → AS → DM → Option (Int32 × Mem × AS × DM)) (x0 : Nat) (x1 : Nat) (x2 : Nat) (x3 : Int32) (x4 : Nat) (x5 : Int32) (mm : Mem) (A : AS) (dm : DM) : Option (Int32 × Mem × AS × DM) := nm (x5 + 1) (fun v41 => k23 x0 x1 x2 x3 x4 v41 mm A dm)
def tbbL_areLevels_j73 : Tb := [(73, .iinc 5 1, 3, 76), (76, .goto (-53), 3, 79)]
theorem dtbL_areLevels_j73 : ∀ q ∈ tbbL_areLevels_j73, decode cL_areLevels q.1 = .ok (q.2.1, q.2.2.1) ∧ q.1 + q.2.2.1 = q.2.2.2 := by decide +kernel
theorem bL_areLevels_j73_ok {E : Ev2} {l : Launch} {K : KF} {x : Int32 × Mem × AS × DM} {k2 : Nat → Nat → Nat → Int32 → Mem → AS → DM → Option (Int32 × Mem × AS × DM)} {k23 : Nat → Nat → Nat → Int32 → Nat → Int32 → Mem → AS → DM → Option (Int32 × Mem × AS × DM)} (X : Ec2 E l K rmFL_areLevels rmLL_areLevels) (B0 : Bx2 E RL [] 7 (some .boolean)) (hcd : Cd2 E cL_areLevels) (hQ : Rt2 E) (hr : Rs2 E (some (.int x.1)) x.2.1 x.2.2.1 x.2.2.2) (hk2 : ∀ (x0 : Nat) (x1 : Nat) (x2 : Nat) (x3 : Int32) (mm : Mem) (A : AS) (dm : DM), k2 x0 x1 x2 x3 mm A dm = some x → G2 E 7 2 [(0, .ref x0), (1, .ref x1), (2, .ref x2), (3, .int x3)] [] mm A dm) (hk23 : ∀ (x0 : Nat) (x1 : Nat) (x2 : Nat) (x3 : Int32) (x4 : Nat) (x5 : Int32) (mm : Mem) (A : AS) (dm : DM), k23 x0 x1 x2 x3 x4 x5 mm A dm = some x → G2 E 7 23 [(0, .ref x0), (1, .ref x1), (2, .ref x2), (3, .int x3), (4, .ref x4), (5, .int x5)] [] mm A dm) (x0 : Nat) (x1 : Nat) (x2 : Nat) (x3 : Int32) (x4 : Nat) (x5 : Int32) (mm : Mem) (A : AS) (dm : DM) (hf : bL_areLevels_j73 k2 k23 x0 x1 x2 x3 x4 x5 mm A dm = some x) : G2 E 7 73 [(0, .ref x0), (1, .ref x1), (2, .ref x2), (3, .int x3), (4, .ref x4), (5, .int x5)] [] mm A dm := by
  unfold bL_areLevels_j73 at hf
  have B := B0.tab hcd dtbL_areLevels_j73
  obtain ⟨v41, ex, hf⟩ := nm_x hf
  refine w_iinc v41 [(5, .int v41), (0, .ref x0), (1, .ref x1), (2, .ref x2), (3, .int x3), (4, .ref x4)] B 0 rfl 5 rfl (ex.symm) (by decide) rfl ?_
  refine w_goto B 1 rfl 23 (by decide) ?_
  refine w_sub [(0, .ref x0), (1, .ref x1), (2, .ref x2), (3, .int x3), (4, .ref x4), (5, .int v41)] [1, 2, 3, 4, 5, 0] rfl ?_
  exact hk23 _ _ _ _ _ _ _ _ _ hf
def bL_areLevels_l23 (k2 : Nat → Nat → Nat → Int32 → Mem → AS → DM → Option (Int32 × Mem × AS × DM)) : Nat → Nat → Nat → Nat → Int32 → Nat → Int32 → Mem → AS → DM → Option (Int32 × Mem × AS × DM)
  | 0, _, _, _, _, _, _, _, _, _ => none
  | n + 1, x0, x1, x2, x3, x4, x5, mm, A, dm => gal A x4 (if (nI (lenA A x4)) < x5 then gob A x0 (bd (f6_worth mm x3 (0 : Int32)) (fun r26 => if r26 = (-1 : Int32) then gal A x4 (gob A x0 (bd (f6_worth mm x3 ((nI (lenA A x4)) + (1 : Int32))) (fun r27 => if r27 = (-1 : Int32) then bL_areLevels_l108 k2 FU x0 x1 x2 x3 x4 (0 : Int32) mm A dm else some ((0 : Int32), mm, A, dm)))) else some ((0 : Int32), mm, A, dm))) else gob A x0 (bd (f6_worth mm x3 x5) (fun r39 => gkd A x4 20 (gix A x4 (x5 - (1 : Int32)) (gti (dm x4 (x5 - (1 : Int32)).toNatClampNeg) (fun v40 => if r39 = v40 then if (1 : Int32) < x5 then gkd A x4 20 (gix A x4 (x5 - (1 : Int32)) (gti (dm x4 (x5 - (1 : Int32)).toNatClampNeg) (fun v42 => gkd A x4 20 (gix A x4 (x5 - (2 : Int32)) (gti (dm x4 (x5 - (2 : Int32)).toNatClampNeg) (fun v43 => if v43 < v42 then some ((0 : Int32), mm, A, dm) else bL_areLevels_j73 k2 (fun x0 x1 x2 x3 x4 x5 mm9 A9 dm9 => bL_areLevels_l23 k2 n x0 x1 x2 x3 x4 x5 mm9 A9 dm9) x0 x1 x2 x3 x4 x5 mm A dm)))))) else bL_areLevels_j73 k2 (fun x0 x1 x2 x3 x4 x5 mm9 A9 dm9 => bL_areLevels_l23 k2 n x0 x1 x2 x3 x4 x5 mm9 A9 dm9) x0 x1 x2 x3 x4 x5 mm A dm else some ((0 : Int32), mm, A, dm)))))))
def tbbL_areLevels_l23 : Tb := [(23, .iload 5, 2, 25), (25, .aload 4, 2, 27), (27, .arraylength, 1, 28), (28, .if_icmp .gt 51, 3, 31), (79, .aload_n 0, 1, 80), (80, .iload_n 3, 1, 81), (81, .iconst 0, 1, 82), (82, .invokevirtual 146, 3, 85), (85, .iconst (-1), 1, 86), (86, .if_icmp .ne 17, 3, 89), (103, .iconst 0, 1, 104), (104, .ireturn, 1, 105), (89, .aload_n 0, 1, 90), (90, .iload_n 3, 1, 91), (91, .aload 4, 2, 93), (93, .arraylength, 1, 94), (94, .iconst 1, 1, 95), (95, .iadd, 1, 96), (96, .invokevirtual 146, 3, 99), (99, .iconst (-1), 1, 100), (100, .if_icmp .eq 5, 3, 103), (105, .iconst 0, 1, 106), (106, .istore 5, 2, 108), (31, .aload_n 0, 1, 32), (32, .iload_n 3, 1, 33), (33, .iload 5, 2, 35), (35, .invokevirtual 146, 3, 38), (38, .aload 4, 2, 40), (40, .iload 5, 2, 42), (42, .iconst 1, 1, 43), (43, .isub, 1, 44), (44, .iaload, 1, 45), (45, .if_icmp .ne 26, 3, 48), (71, .iconst 0, 1, 72), (72, .ireturn, 1, 73), (48, .iload 5, 2, 50), (50, .iconst 1, 1, 51), (51, .if_icmp .le 22, 3, 54), (54, .aload 4, 2, 56), (56, .iload 5, 2, 58), (58, .iconst 1, 1, 59), (59, .isub, 1, 60), (60, .iaload, 1, 61), (61, .aload 4, 2, 63), (63, .iload 5, 2, 65), (65, .iconst 2, 1, 66), (66, .isub, 1, 67), (67, .iaload, 1, 68), (68, .if_icmp .le 5, 3, 71)]
theorem dtbL_areLevels_l23 : ∀ q ∈ tbbL_areLevels_l23, decode cL_areLevels q.1 = .ok (q.2.1, q.2.2.1) ∧ q.1 + q.2.2.1 = q.2.2.2 := by decide +kernel
theorem bL_areLevels_l23_ok {E : Ev2} {l : Launch} {K : KF} {x : Int32 × Mem × AS × DM} {k2 : Nat → Nat → Nat → Int32 → Mem → AS → DM → Option (Int32 × Mem × AS × DM)} (X : Ec2 E l K rmFL_areLevels rmLL_areLevels) (B0 : Bx2 E RL [] 7 (some .boolean)) (hcd : Cd2 E cL_areLevels) (hQ : Rt2 E) (hr : Rs2 E (some (.int x.1)) x.2.1 x.2.2.1 x.2.2.2) (hk2 : ∀ (x0 : Nat) (x1 : Nat) (x2 : Nat) (x3 : Int32) (mm : Mem) (A : AS) (dm : DM), k2 x0 x1 x2 x3 mm A dm = some x → G2 E 7 2 [(0, .ref x0), (1, .ref x1), (2, .ref x2), (3, .int x3)] [] mm A dm) (n : Nat) : ∀ (x0 : Nat) (x1 : Nat) (x2 : Nat) (x3 : Int32) (x4 : Nat) (x5 : Int32) (mm : Mem) (A : AS) (dm : DM), bL_areLevels_l23 k2 n x0 x1 x2 x3 x4 x5 mm A dm = some x → G2 E 7 23 [(0, .ref x0), (1, .ref x1), (2, .ref x2), (3, .int x3), (4, .ref x4), (5, .int x5)] [] mm A dm := by
  induction n with
  | zero =>
    intro x0 x1 x2 x3 x4 x5 mm A dm hf
    rw [bL_areLevels_l23] at hf
    cases hf
  | succ n ih =>
    intro x0 x1 x2 x3 x4 x5 mm A dm hf
    rw [bL_areLevels_l23] at hf
    have B := B0.tab hcd dtbL_areLevels_l23
    refine w_iload B 0 rfl 5 rfl ?_
    refine w_aload B 1 rfl 4 rfl ?_
    obtain ⟨hk, hf⟩ := gal_e hf
    refine w_alen B 2 rfl hk ?_
    by_cases hc : (nI (lenA A x4)) < x5
    · replace hf := (if_pos hc).symm.trans hf
      refine w_icmp_gt_t B 3 rfl 79 (by decide) hc ?_
      refine w_aload_n B 4 rfl 0 0 rfl rfl ?_
      refine w_iload_n B 5 rfl 3 3 rfl rfl ?_
      refine w_iconst 0 B 6 rfl (by decide) ?_
      obtain ⟨ho, hf⟩ := gob_e hf
      obtain ⟨r26, ec, hf⟩ := bd_e hf
      refine w_callC x0 [.int x3, .int (0 : Int32)] [] [.int r26] X B 7 rfl miX6_worth rfl ho ⟨(iL_areLevels _ (List.mem_of_getElem? (i := 3) rfl)), (iL_areLevels _ (List.mem_of_getElem? (i := 4) rfl)), (iL_areLevels _ (List.mem_of_getElem? (i := 5) rfl))⟩ (fun hj => ctX6_worth hj ec) ⟨Nat.le_of_ble_eq_true rfl, Nat.le_of_ble_eq_true rfl⟩ rfl (fun _ _ => rfl) (fun _ _ => rfl) rfl (Nat.le_of_ble_eq_true rfl) rfl ?_
      refine w_iconst (-1) B 8 rfl (by decide) ?_
      by_cases hc : r26 = (-1 : Int32)
      · replace hf := (if_pos hc).symm.trans hf
        refine w_icmp_ne_f B 9 rfl 103 (by decide) hc ?_
        refine w_aload_n B 12 rfl 0 0 rfl rfl ?_
        refine w_iload_n B 13 rfl 3 3 rfl rfl ?_
        refine w_aload B 14 rfl 4 rfl ?_
        obtain ⟨hk, hf⟩ := gal_e hf
        refine w_alen B 15 rfl hk ?_
        refine w_iconst 1 B 16 rfl (by decide) ?_
        refine w_iadd B 17 rfl ?_
        obtain ⟨ho, hf⟩ := gob_e hf
        obtain ⟨r27, ec, hf⟩ := bd_e hf
        refine w_callC x0 [.int x3, .int ((nI (lenA A x4)) + (1 : Int32))] [] [.int r27] X B 18 rfl miX6_worth rfl ho ⟨(iL_areLevels _ (List.mem_of_getElem? (i := 3) rfl)), (iL_areLevels _ (List.mem_of_getElem? (i := 4) rfl)), (iL_areLevels _ (List.mem_of_getElem? (i := 5) rfl))⟩ (fun hj => ctX6_worth hj ec) ⟨Nat.le_of_ble_eq_true rfl, Nat.le_of_ble_eq_true rfl⟩ rfl (fun _ _ => rfl) (fun _ _ => rfl) rfl (Nat.le_of_ble_eq_true rfl) rfl ?_
        refine w_iconst (-1) B 19 rfl (by decide) ?_
        by_cases hc : r27 = (-1 : Int32)
        · replace hf := (if_pos hc).symm.trans hf
          refine w_icmp_eq_t B 20 rfl 105 (by decide) hc ?_
          refine w_iconst 0 B 21 rfl (by decide) ?_
          refine w_istore [(5, .int (0 : Int32)), (0, .ref x0), (1, .ref x1), (2, .ref x2), (3, .int x3), (4, .ref x4)] B 22 rfl (by decide) rfl ?_
          refine w_sub [(0, .ref x0), (1, .ref x1), (2, .ref x2), (3, .int x3), (4, .ref x4), (5, .int (0 : Int32))] [1, 2, 3, 4, 5, 0] rfl ?_
          exact bL_areLevels_l108_ok X B0 hcd hQ hr hk2 FU _ _ _ _ _ _ _ _ _ hf
        · replace hf := (if_neg hc).symm.trans hf
          refine w_icmp_eq_f B 20 rfl 105 (by decide) hc ?_
          refine w_iconst 0 B 10 rfl (by decide) ?_
          cases hf
          exact w_iret B 11 rfl (by decide) hQ hr
      · replace hf := (if_neg hc).symm.trans hf
        refine w_icmp_ne_t B 9 rfl 103 (by decide) hc ?_
        refine w_iconst 0 B 10 rfl (by decide) ?_
        cases hf
        exact w_iret B 11 rfl (by decide) hQ hr
    · replace hf := (if_neg hc).symm.trans hf
      refine w_icmp_gt_f B 3 rfl 79 (by decide) hc ?_
      refine w_aload_n B 23 rfl 0 0 rfl rfl ?_
      refine w_iload_n B 24 rfl 3 3 rfl rfl ?_
      refine w_iload B 25 rfl 5 rfl ?_
      obtain ⟨ho, hf⟩ := gob_e hf
      obtain ⟨r39, ec, hf⟩ := bd_e hf
      refine w_callC x0 [.int x3, .int x5] [] [.int r39] X B 26 rfl miX6_worth rfl ho ⟨(iL_areLevels _ (List.mem_of_getElem? (i := 3) rfl)), (iL_areLevels _ (List.mem_of_getElem? (i := 4) rfl)), (iL_areLevels _ (List.mem_of_getElem? (i := 5) rfl))⟩ (fun hj => ctX6_worth hj ec) ⟨Nat.le_of_ble_eq_true rfl, Nat.le_of_ble_eq_true rfl⟩ rfl (fun _ _ => rfl) (fun _ _ => rfl) rfl (Nat.le_of_ble_eq_true rfl) rfl ?_
      refine w_aload B 27 rfl 4 rfl ?_
      refine w_iload B 28 rfl 5 rfl ?_
      refine w_iconst 1 B 29 rfl (by decide) ?_
      refine w_isub B 30 rfl ?_
      obtain ⟨hk, hf⟩ := gkd_e hf
      obtain ⟨hx, hf⟩ := gix_e hf
      obtain ⟨v40, ex, hf⟩ := gti_e hf
      refine w_iald B 31 rfl hk hx ex ?_
      by_cases hc : r39 = v40
      · replace hf := (if_pos hc).symm.trans hf
        refine w_icmp_ne_f B 32 rfl 71 (by decide) hc ?_
        refine w_iload B 35 rfl 5 rfl ?_
        refine w_iconst 1 B 36 rfl (by decide) ?_
        by_cases hc : (1 : Int32) < x5
        · replace hf := (if_pos hc).symm.trans hf
          refine w_icmp_le_f B 37 rfl 73 (by decide) hc ?_
          refine w_aload B 38 rfl 4 rfl ?_
          refine w_iload B 39 rfl 5 rfl ?_
          refine w_iconst 1 B 40 rfl (by decide) ?_
          refine w_isub B 41 rfl ?_
          obtain ⟨hk, hf⟩ := gkd_e hf
          obtain ⟨hx, hf⟩ := gix_e hf
          obtain ⟨v42, ex, hf⟩ := gti_e hf
          refine w_iald B 42 rfl hk hx ex ?_
          refine w_aload B 43 rfl 4 rfl ?_
          refine w_iload B 44 rfl 5 rfl ?_
          refine w_iconst 2 B 45 rfl (by decide) ?_
          refine w_isub B 46 rfl ?_
          obtain ⟨hk, hf⟩ := gkd_e hf
          obtain ⟨hx, hf⟩ := gix_e hf
          obtain ⟨v43, ex, hf⟩ := gti_e hf
          refine w_iald B 47 rfl hk hx ex ?_
          by_cases hc : v43 < v42
          · replace hf := (if_pos hc).symm.trans hf
            refine w_icmp_le_f B 48 rfl 73 (by decide) hc ?_
            refine w_iconst 0 B 33 rfl (by decide) ?_
            cases hf
            exact w_iret B 34 rfl (by decide) hQ hr
          · replace hf := (if_neg hc).symm.trans hf
            refine w_icmp_le_t B 48 rfl 73 (by decide) hc ?_
            exact bL_areLevels_j73_ok X B0 hcd hQ hr hk2 ih _ _ _ _ _ _ _ _ _ hf
        · replace hf := (if_neg hc).symm.trans hf
          refine w_icmp_le_t B 37 rfl 73 (by decide) hc ?_
          exact bL_areLevels_j73_ok X B0 hcd hQ hr hk2 ih _ _ _ _ _ _ _ _ _ hf
      · replace hf := (if_neg hc).symm.trans hf
        refine w_icmp_ne_t B 32 rfl 71 (by decide) hc ?_
        refine w_iconst 0 B 33 rfl (by decide) ?_
        cases hf
        exact w_iret B 34 rfl (by decide) hQ hr
def bL_areLevels_l2 : Nat → Nat → Nat → Nat → Int32 → Mem → AS → DM → Option (Int32 × Mem × AS × DM)
  | 0, _, _, _, _, _, _, _ => none
  | n + 1, x0, x1, x2, x3, mm, A, dm => gkd A x1 8 (gtr (dm x1 0) (fun q1 => gkd A q1 9 (bd (bAL_size A dm q1) (fun r2 => if x3 < r2 then gkd A x1 8 (bdg (fun (x : Int32 × Mem × AS × DM) => x.2.2.1) A (bX8_worths A dm x1 x3) (fun (x : Nat × AS × DM) => x.2.1) (fun r25 => bL_areLevels_l23 (fun x0 x1 x2 x3 mm9 A9 dm9 => bL_areLevels_l2 n x0 x1 x2 x3 mm9 A9 dm9) FU x0 x1 x2 x3 r25.1 (1 : Int32) mm r25.2.1 r25.2.2)) else bL_areLevels_l241 FU x0 x1 (0 : Int32) mm A dm))))
def tbbL_areLevels_l2 : Tb := [(2, .iload_n 3, 1, 3), (3, .aload_n 1, 1, 4), (4, .getfield 55, 3, 7), (7, .invokevirtual 106, 3, 10), (10, .if_icmp .ge 229, 3, 13), (239, .iconst 0, 1, 240), (240, .istore_n 3, 1, 241), (13, .aload_n 1, 1, 14), (14, .iload_n 3, 1, 15), (15, .invokevirtual 142, 3, 18), (18, .astore 4, 2, 20), (20, .iconst 1, 1, 21), (21, .istore 5, 2, 23)]
theorem dtbL_areLevels_l2 : ∀ q ∈ tbbL_areLevels_l2, decode cL_areLevels q.1 = .ok (q.2.1, q.2.2.1) ∧ q.1 + q.2.2.1 = q.2.2.2 := by decide +kernel
theorem bL_areLevels_l2_ok {E : Ev2} {l : Launch} {K : KF} {x : Int32 × Mem × AS × DM} (X : Ec2 E l K rmFL_areLevels rmLL_areLevels) (B0 : Bx2 E RL [] 7 (some .boolean)) (hcd : Cd2 E cL_areLevels) (hQ : Rt2 E) (hr : Rs2 E (some (.int x.1)) x.2.1 x.2.2.1 x.2.2.2) (n : Nat) : ∀ (x0 : Nat) (x1 : Nat) (x2 : Nat) (x3 : Int32) (mm : Mem) (A : AS) (dm : DM), bL_areLevels_l2 n x0 x1 x2 x3 mm A dm = some x → G2 E 7 2 [(0, .ref x0), (1, .ref x1), (2, .ref x2), (3, .int x3)] [] mm A dm := by
  induction n with
  | zero =>
    intro x0 x1 x2 x3 mm A dm hf
    rw [bL_areLevels_l2] at hf
    cases hf
  | succ n ih =>
    intro x0 x1 x2 x3 mm A dm hf
    rw [bL_areLevels_l2] at hf
    have B := B0.tab hcd dtbL_areLevels_l2
    refine w_iload_n B 0 rfl 3 3 rfl rfl ?_
    refine w_aload_n B 1 rfl 1 1 rfl rfl ?_
    obtain ⟨hk, hf⟩ := gkd_e hf
    obtain ⟨q1, ex, hf⟩ := gtr_e hf
    refine w_getrN B 2 rfl 8 0 x1 (by decide) hk rfl (List.mem_of_getElem? (i := 1) rfl) (Or.inl rfl) ex ?_
    obtain ⟨hk, hf⟩ := gkd_e hf
    obtain ⟨r2, ec, hf⟩ := bd_e hf
    refine w_callV q1 [] [.int x3] [.int r2, .int x3] X B 3 rfl miAL_size 9 (by decide) hk rfl rfl ⟨(iL_areLevels _ (List.mem_of_getElem? (i := 0) rfl)), (iL_areLevels _ (List.mem_of_getElem? (i := 1) rfl)), (iL_areLevels _ (List.mem_of_getElem? (i := 2) rfl))⟩ (ctAL_size ec) (Or.inl ⟨rfl, rfl⟩) ⟨Nat.le_of_ble_eq_true rfl, Nat.le_of_ble_eq_true rfl⟩ rfl rfl (Nat.le_of_ble_eq_true rfl) rfl ?_
    by_cases hc : x3 < r2
    · replace hf := (if_pos hc).symm.trans hf
      refine w_icmp_ge_f B 4 rfl 239 (by decide) hc ?_
      refine w_aload_n B 7 rfl 1 1 rfl rfl ?_
      refine w_iload_n B 8 rfl 3 3 rfl rfl ?_
      obtain ⟨hk, hf⟩ := gkd_e hf
      obtain ⟨r25, ec, hgd, hf⟩ := bdg_e hf
      refine w_callV x1 [.int x3] [] [.ref r25.1] X B 9 rfl miX8_worths 8 (by decide) hk rfl rfl ⟨(iL_areLevels _ (List.mem_of_getElem? (i := 19) rfl)), (iL_areLevels _ (List.mem_of_getElem? (i := 20) rfl)), (iL_areLevels _ (List.mem_of_getElem? (i := 21) rfl))⟩ (ctX8_worths ec) (Or.inr ⟨_, _, _, _, hr, hgd⟩) ⟨Nat.le_of_ble_eq_true rfl, Nat.le_of_ble_eq_true rfl⟩ rfl rfl (Nat.le_of_ble_eq_true rfl) rfl ?_
      refine w_astore [(4, .ref r25.1), (0, .ref x0), (1, .ref x1), (2, .ref x2), (3, .int x3)] B 10 rfl (by decide) rfl ?_
      refine w_iconst 1 B 11 rfl (by decide) ?_
      refine w_istore [(5, .int (1 : Int32)), (4, .ref r25.1), (0, .ref x0), (1, .ref x1), (2, .ref x2), (3, .int x3)] B 12 rfl (by decide) rfl ?_
      refine w_sub [(0, .ref x0), (1, .ref x1), (2, .ref x2), (3, .int x3), (4, .ref r25.1), (5, .int (1 : Int32))] [2, 3, 4, 5, 1, 0] rfl ?_
      exact bL_areLevels_l23_ok X B0 hcd hQ hr ih FU _ _ _ _ _ _ _ _ _ hf
    · replace hf := (if_neg hc).symm.trans hf
      refine w_icmp_ge_t B 4 rfl 239 (by decide) hc ?_
      refine w_iconst 0 B 5 rfl (by decide) ?_
      refine w_istore_n [(3, .int (0 : Int32)), (0, .ref x0), (1, .ref x1), (2, .ref x2)] B 6 rfl 3 rfl (by decide) rfl ?_
      refine w_sub [(0, .ref x0), (1, .ref x1), (3, .int (0 : Int32))] [1, 2, 0] rfl ?_
      exact bL_areLevels_l241_ok X B0 hcd hQ hr FU _ _ _ _ _ _ hf
def bL_areLevels (mm : Mem) (A : AS) (dm : DM) (a0 : Nat) (a1 : Nat) (a2 : Nat) : Option (Int32 × Mem × AS × DM) := bL_areLevels_l2 FU a0 a1 a2 (0 : Int32) mm A dm
def tbbL_areLevels_e : Tb := [(0, .iconst 0, 1, 1), (1, .istore_n 3, 1, 2)]
theorem dtbL_areLevels_e : ∀ q ∈ tbbL_areLevels_e, decode cL_areLevels q.1 = .ok (q.2.1, q.2.2.1) ∧ q.1 + q.2.2.1 = q.2.2.2 := by decide +kernel
theorem ctL_areLevels {l : Launch} {K : KF} {mm : Mem} {A : AS} {dm : DM} {a0 : Nat} {a1 : Nat} {a2 : Nat} {x : Int32 × Mem × AS × DM} (hf : bL_areLevels mm A dm a0 a1 a2 = some x) : Ct2 l K yL_areLevels cL_areLevels 7 (some .boolean) 12 307 [.ref a0, .ref a1, .ref a2] mm A dm (some (.int x.1)) x.2.1 x.2.2.1 x.2.2.2 := by
  refine Ct2.of (tb := []) miL_areLevels.2.1 miL_areLevels.1 (fun _ h => absurd h List.not_mem_nil) (Nat.le_of_ble_eq_true rfl) ?_
  intro E B hQ hr X hI hcd
  clear hI
  have B0 := B
  have B := B0.tab hcd dtbL_areLevels_e
  unfold bL_areLevels at hf
  show G2 E 7 0 [(0, .ref a0), (1, .ref a1), (2, .ref a2)] [] mm A dm
  refine w_iconst 0 B 0 rfl (by decide) ?_
  refine w_istore_n [(3, .int (0 : Int32)), (0, .ref a0), (1, .ref a1), (2, .ref a2)] B 1 rfl 3 rfl (by decide) rfl ?_
  refine w_sub [(0, .ref a0), (1, .ref a1), (2, .ref a2), (3, .int (0 : Int32))] [1, 2, 3, 0] rfl ?_
  exact bL_areLevels_l2_ok X B0 hcd hQ hr FU _ _ _ _ _ _ _ hf
