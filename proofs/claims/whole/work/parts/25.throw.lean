/-! ZoneCapacity.zoneOf(II)I -/
abbrev rmX6_zoneOfT : Room := { frames := 6, cells := 1, slots := 6, locals := 150 }
def wX6_zoneOfT : List Cond := [.fieldLink "ZoneCapacity" 10 "ZoneCapacity" "now" "LZoneCapacity$Auction;", .fieldLink "ZoneCapacity" 57 "ZoneCapacity$Auction" "market" "LZoneCapacity$Market;", .fieldLink "ZoneCapacity" 71 "ZoneCapacity$Market" "zones" "LZoneCapacity$Zones;", .methodLink "ZoneCapacity" 80 yX5_has, .instanceMethod yX5_has, .selects "ZoneCapacity$Zones" yX5_has yX5_has, .fieldLink "ZoneCapacity" 168 "ZoneCapacity$Zones" "outer" "[I", .methodLink "ZoneCapacity" 92 yX6_at, .static yX6_at, .fieldLink "ZoneCapacity" 146 "ZoneCapacity$Zones" "in" "[I", .fieldLink "ZoneCapacity" 149 "ZoneCapacity$Zones" "out" "[I", .fieldLink "ZoneCapacity" 88 "ZoneCapacity$Zones" "points" "[I", .methodLink "ZoneCapacity" 96 yX5_wanted, .instanceMethod yX5_wanted, .selects "ZoneCapacity$Zones" yX5_wanted yX5_wanted, .fieldLink "ZoneCapacity" 106 "ZoneCapacity$Market" "offers" "LZoneCapacity$Offers;", .methodLink "ZoneCapacity" 171 yX2_bitsIn, .instanceMethod yX2_bitsIn, .selects "ZoneCapacity$Offers" yX2_bitsIn yX2_bitsIn]
theorem iX6_zoneOfT : ∀ w ∈ wX6_zoneOfT, w ∈ TW := tw_of (ids := [317, 222, 211, 561, 562, 563, 120, 570, 386, 123, 127, 130, 571, 487, 488, 215, 921, 922, 923]) (by decide +kernel)
def t6_zoneOf (mm : Mem) (a1 : Int32) (a2 : Int32) : Option Unit := bd (f5_has mm 17 a1) (fun r1 => if r1 = 0 then some () else if a2 = 0 then if a1 = 0 then none else bd (f6_at mm 18 a1) (fun r2 => none) else if a2 = 1 then bd (f6_at mm 19 a1) (fun r3 => none) else if a2 = 2 then bd (f6_at mm 20 a1) (fun r4 => none) else if a2 = 3 then bd (f6_at mm 21 a1) (fun r5 => none) else if a2 = 4 then bd (f5_wanted mm 17 a1) (fun r6 => none) else if a2 = 5 then bd (f2_bitsIn mm 24 a1) (fun r7 => none) else some ())
theorem cxX6_zoneOf {l : Launch} {C : Cfg} (hj : Dj C) (hfl : l.stackTraces = false) {mm : Mem} {a1 : Int32} {a2 : Int32} {x : Unit} (hf : t6_zoneOf mm a1 a2 = some x) : Cx l C yX6_zoneOf cX6_zoneOf 4 (some .int) 6 150 [.ref 14, .int a1, .int a2] mm := by
  have hr := trivial
  refine Cx.of (tb := tbX6_zoneOf) hj hfl miX6_zoneOf.2.1 miX6_zoneOf.1 dtX6_zoneOf (Nat.le_of_ble_eq_true rfl) ?_
  intro E B hQ X
  unfold t6_zoneOf at hf
  show G E 4 0 [(0, .ref 14), (1, .int a1), (2, .int a2)] [] mm
  refine z_aload_n B 0 rfl 0 0 rfl rfl ?_
  refine z_getr 6 0 14 B 1 rfl ob_14 rfl (iX6_zoneOfT _ (List.mem_of_getElem? (i := 0) rfl)) rfl ?_
  refine z_getr 0 0 15 B 2 rfl ob_15 rfl (iX6_zoneOfT _ (List.mem_of_getElem? (i := 1) rfl)) rfl ?_
  refine z_getr 1 0 16 B 3 rfl ob_16 rfl (iX6_zoneOfT _ (List.mem_of_getElem? (i := 2) rfl)) rfl ?_
  refine z_astore_n [(3, .ref 17), (0, .ref 14), (1, .int a1), (2, .int a2)] B 4 rfl 3 rfl (by decide) rfl ?_
  refine z_aload_n B 5 rfl 3 0 rfl rfl ?_
  refine z_iload_n B 6 rfl 1 2 rfl rfl ?_
  obtain ⟨r1, ec, hf⟩ := bd_e hf
  refine z_callV 17 5 [.int a1] [] [.int r1] X B 7 rfl ob_17 rfl rfl miX5_has ⟨(iX6_zoneOfT _ (List.mem_of_getElem? (i := 3) rfl)), (iX6_zoneOfT _ (List.mem_of_getElem? (i := 4) rfl)), (iX6_zoneOfT _ (List.mem_of_getElem? (i := 5) rfl))⟩ (ctX5_has hj ob_17 ec) ⟨Nat.le_of_ble_eq_true rfl, Nat.le_of_ble_eq_true rfl⟩ rfl rfl (Nat.le_of_ble_eq_true rfl) rfl ?_
  by_cases hc : r1 = 0
  · replace hf := (if_pos hc).symm.trans hf
    refine z_if_ne_f B 8 rfl 27 (by decide) hc ?_
    cases hf
    exact z_throw X B hQ 9 10 11 12 rfl rfl rfl rfl ⟨Nat.le_of_ble_eq_true rfl, Nat.le_of_ble_eq_true rfl, Nat.le_of_ble_eq_true rfl, Nat.le_of_ble_eq_true rfl⟩ (Nat.le_of_ble_eq_true rfl)
  · replace hf := (if_neg hc).symm.trans hf
    refine z_if_ne_t B 8 rfl 27 (by decide) hc ?_
    refine z_iload_n B 13 rfl 2 3 rfl rfl ?_
    by_cases hc : a2 = 0
    · replace hf := (if_pos hc).symm.trans hf
      refine z_tswi B 14 rfl 0 (40) 68 (by rw [hc]; decide) (by decide) rfl (by decide) ?_
      refine z_iload_n B 15 rfl 1 2 rfl rfl ?_
      by_cases hc : a1 = 0
      · replace hf := (if_pos hc).symm.trans hf
        refine z_if_ne_f B 16 rfl 76 (by decide) hc ?_
        refine z_iconst (-1) B 17 rfl (by decide) ?_
        refine z_goto B 18 rfl 84 (by decide) ?_
        cases hf
      · replace hf := (if_neg hc).symm.trans hf
        refine z_if_ne_t B 16 rfl 76 (by decide) hc ?_
        refine z_aload_n B 19 rfl 3 0 rfl rfl ?_
        refine z_getr 5 1 17 B 20 rfl ob_17 rfl (iX6_zoneOfT _ (List.mem_of_getElem? (i := 6) rfl)) rfl ?_
        refine z_iload_n B 21 rfl 1 2 rfl rfl ?_
        obtain ⟨r2, ec, hf⟩ := bd_e hf
        refine z_callS [.ref 18, .int a1] [] [.int r2] X B 22 rfl miX6_at ⟨(iX6_zoneOfT _ (List.mem_of_getElem? (i := 7) rfl)), (iX6_zoneOfT _ (List.mem_of_getElem? (i := 8) rfl))⟩ (ctX6_at hj ob_18 ec) ⟨Nat.le_of_ble_eq_true rfl, Nat.le_of_ble_eq_true rfl⟩ rfl rfl (Nat.le_of_ble_eq_true rfl) rfl ?_
        cases hf
    · replace hf := (if_neg hc).symm.trans hf
      have hc0 := hc
      by_cases hc : a2 = 1
      · replace hf := (if_pos hc).symm.trans hf
        refine z_tswi B 14 rfl 1 (57) 85 (by rw [hc]; decide) (by decide) rfl (by decide) ?_
        refine z_aload_n B 24 rfl 3 0 rfl rfl ?_
        refine z_getr 5 2 17 B 25 rfl ob_17 rfl (iX6_zoneOfT _ (List.mem_of_getElem? (i := 9) rfl)) rfl ?_
        refine z_iload_n B 26 rfl 1 2 rfl rfl ?_
        obtain ⟨r3, ec, hf⟩ := bd_e hf
        refine z_callS [.ref 19, .int a1] [] [.int r3] X B 27 rfl miX6_at ⟨(iX6_zoneOfT _ (List.mem_of_getElem? (i := 7) rfl)), (iX6_zoneOfT _ (List.mem_of_getElem? (i := 8) rfl))⟩ (ctX6_at hj ob_19 ec) ⟨Nat.le_of_ble_eq_true rfl, Nat.le_of_ble_eq_true rfl⟩ rfl rfl (Nat.le_of_ble_eq_true rfl) rfl ?_
        cases hf
      · replace hf := (if_neg hc).symm.trans hf
        have hc1 := hc
        by_cases hc : a2 = 2
        · replace hf := (if_pos hc).symm.trans hf
          refine z_tswi B 14 rfl 2 (66) 94 (by rw [hc]; decide) (by decide) rfl (by decide) ?_
          refine z_aload_n B 29 rfl 3 0 rfl rfl ?_
          refine z_getr 5 3 17 B 30 rfl ob_17 rfl (iX6_zoneOfT _ (List.mem_of_getElem? (i := 10) rfl)) rfl ?_
          refine z_iload_n B 31 rfl 1 2 rfl rfl ?_
          obtain ⟨r4, ec, hf⟩ := bd_e hf
          refine z_callS [.ref 20, .int a1] [] [.int r4] X B 32 rfl miX6_at ⟨(iX6_zoneOfT _ (List.mem_of_getElem? (i := 7) rfl)), (iX6_zoneOfT _ (List.mem_of_getElem? (i := 8) rfl))⟩ (ctX6_at hj ob_20 ec) ⟨Nat.le_of_ble_eq_true rfl, Nat.le_of_ble_eq_true rfl⟩ rfl rfl (Nat.le_of_ble_eq_true rfl) rfl ?_
          cases hf
        · replace hf := (if_neg hc).symm.trans hf
          have hc2 := hc
          by_cases hc : a2 = 3
          · replace hf := (if_pos hc).symm.trans hf
            refine z_tswi B 14 rfl 3 (75) 103 (by rw [hc]; decide) (by decide) rfl (by decide) ?_
            refine z_aload_n B 34 rfl 3 0 rfl rfl ?_
            refine z_getr 5 4 17 B 35 rfl ob_17 rfl (iX6_zoneOfT _ (List.mem_of_getElem? (i := 11) rfl)) rfl ?_
            refine z_iload_n B 36 rfl 1 2 rfl rfl ?_
            obtain ⟨r5, ec, hf⟩ := bd_e hf
            refine z_callS [.ref 21, .int a1] [] [.int r5] X B 37 rfl miX6_at ⟨(iX6_zoneOfT _ (List.mem_of_getElem? (i := 7) rfl)), (iX6_zoneOfT _ (List.mem_of_getElem? (i := 8) rfl))⟩ (ctX6_at hj ob_21 ec) ⟨Nat.le_of_ble_eq_true rfl, Nat.le_of_ble_eq_true rfl⟩ rfl rfl (Nat.le_of_ble_eq_true rfl) rfl ?_
            cases hf
          · replace hf := (if_neg hc).symm.trans hf
            have hc3 := hc
            by_cases hc : a2 = 4
            · replace hf := (if_pos hc).symm.trans hf
              refine z_tswi B 14 rfl 4 (84) 112 (by rw [hc]; decide) (by decide) rfl (by decide) ?_
              refine z_aload_n B 39 rfl 3 0 rfl rfl ?_
              refine z_iload_n B 40 rfl 1 2 rfl rfl ?_
              obtain ⟨r6, ec, hf⟩ := bd_e hf
              refine z_callV 17 5 [.int a1] [] [.int r6] X B 41 rfl ob_17 rfl rfl miX5_wanted ⟨(iX6_zoneOfT _ (List.mem_of_getElem? (i := 12) rfl)), (iX6_zoneOfT _ (List.mem_of_getElem? (i := 13) rfl)), (iX6_zoneOfT _ (List.mem_of_getElem? (i := 14) rfl))⟩ (ctX5_wanted hj ob_17 ec) ⟨Nat.le_of_ble_eq_true rfl, Nat.le_of_ble_eq_true rfl⟩ rfl rfl (Nat.le_of_ble_eq_true rfl) rfl ?_
              cases hf
            · replace hf := (if_neg hc).symm.trans hf
              have hc4 := hc
              by_cases hc : a2 = 5
              · replace hf := (if_pos hc).symm.trans hf
                refine z_tswi B 14 rfl 5 (90) 118 (by rw [hc]; decide) (by decide) rfl (by decide) ?_
                refine z_aload_n B 43 rfl 0 1 rfl rfl ?_
                refine z_getr 6 0 14 B 44 rfl ob_14 rfl (iX6_zoneOfT _ (List.mem_of_getElem? (i := 0) rfl)) rfl ?_
                refine z_getr 0 0 15 B 45 rfl ob_15 rfl (iX6_zoneOfT _ (List.mem_of_getElem? (i := 1) rfl)) rfl ?_
                refine z_getr 1 1 16 B 46 rfl ob_16 rfl (iX6_zoneOfT _ (List.mem_of_getElem? (i := 15) rfl)) rfl ?_
                refine z_iload_n B 47 rfl 1 2 rfl rfl ?_
                obtain ⟨r7, ec, hf⟩ := bd_e hf
                refine z_callV 24 2 [.int a1] [] [.int r7] X B 48 rfl ob_24 rfl rfl miX2_bitsIn ⟨(iX6_zoneOfT _ (List.mem_of_getElem? (i := 16) rfl)), (iX6_zoneOfT _ (List.mem_of_getElem? (i := 17) rfl)), (iX6_zoneOfT _ (List.mem_of_getElem? (i := 18) rfl))⟩ (ctX2_bitsIn hj ob_24 ec) ⟨Nat.le_of_ble_eq_true rfl, Nat.le_of_ble_eq_true rfl⟩ rfl rfl (Nat.le_of_ble_eq_true rfl) rfl ?_
                cases hf
              · replace hf := (if_neg hc).symm.trans hf
                have hc5 := hc
                refine z_tswo B 14 rfl 133 (tsw_out6 hc0 hc1 hc2 hc3 hc4 hc5) (by decide) ?_
                cases hf
                exact z_throw X B hQ 50 51 52 53 rfl rfl rfl rfl ⟨Nat.le_of_ble_eq_true rfl, Nat.le_of_ble_eq_true rfl, Nat.le_of_ble_eq_true rfl, Nat.le_of_ble_eq_true rfl⟩ (Nat.le_of_ble_eq_true rfl)
/-! ZoneCapacity.resourceOf(II)I -/
abbrev rmX6_resourceOfT : Room := { frames := 6, cells := 1, slots := 6, locals := 150 }
def wX6_resourceOfT : List Cond := [.fieldLink "ZoneCapacity" 10 "ZoneCapacity" "now" "LZoneCapacity$Auction;", .fieldLink "ZoneCapacity" 57 "ZoneCapacity$Auction" "market" "LZoneCapacity$Market;", .fieldLink "ZoneCapacity" 106 "ZoneCapacity$Market" "offers" "LZoneCapacity$Offers;", .methodLink "ZoneCapacity" 116 yX2_has, .instanceMethod yX2_has, .selects "ZoneCapacity$Offers" yX2_has yX2_has, .fieldLink "ZoneCapacity" 174 "ZoneCapacity$Offers" "zones" "[I", .methodLink "ZoneCapacity" 92 yX6_at, .static yX6_at, .fieldLink "ZoneCapacity" 176 "ZoneCapacity$Offers" "sizes" "[I", .fieldLink "ZoneCapacity" 179 "ZoneCapacity$Offers" "kinds" "[I", .fieldLink "ZoneCapacity" 182 "ZoneCapacity$Offers" "owners" "[I", .fieldLink "ZoneCapacity" 185 "ZoneCapacity$Offers" "must" "[I", .fieldLink "ZoneCapacity" 152 "ZoneCapacity$Offers" "free" "[I", .fieldLink "ZoneCapacity" 117 "ZoneCapacity$Offers" "steps" "[I"]
theorem iX6_resourceOfT : ∀ w ∈ wX6_resourceOfT, w ∈ TW := tw_of (ids := [317, 222, 215, 583, 584, 585, 167, 570, 386, 169, 171, 173, 176, 178, 180]) (by decide +kernel)
def t6_resourceOf (mm : Mem) (a1 : Int32) (a2 : Int32) : Option Unit := bd (f2_has mm 24 a1) (fun r1 => if r1 = 0 then some () else if a2 = 0 then bd (f6_at mm 26 a1) (fun r2 => none) else if a2 = 1 then bd (f6_at mm 27 a1) (fun r3 => none) else if a2 = 2 then bd (f6_at mm 28 a1) (fun r4 => none) else if a2 = 3 then bd (f6_at mm 29 a1) (fun r5 => none) else if a2 = 4 then bd (f6_at mm 30 a1) (fun r6 => none) else if a2 = 5 then bd (f6_at mm 31 a1) (fun r7 => none) else if a2 = 6 then bd (f6_at mm 32 a1) (fun r8 => none) else some ())
theorem cxX6_resourceOf {l : Launch} {C : Cfg} (hj : Dj C) (hfl : l.stackTraces = false) {mm : Mem} {a1 : Int32} {a2 : Int32} {x : Unit} (hf : t6_resourceOf mm a1 a2 = some x) : Cx l C yX6_resourceOf cX6_resourceOf 4 (some .int) 6 150 [.ref 14, .int a1, .int a2] mm := by
  have hr := trivial
  refine Cx.of (tb := tbX6_resourceOf) hj hfl miX6_resourceOf.2.1 miX6_resourceOf.1 dtX6_resourceOf (Nat.le_of_ble_eq_true rfl) ?_
  intro E B hQ X
  unfold t6_resourceOf at hf
  show G E 4 0 [(0, .ref 14), (1, .int a1), (2, .int a2)] [] mm
  refine z_aload_n B 0 rfl 0 0 rfl rfl ?_
  refine z_getr 6 0 14 B 1 rfl ob_14 rfl (iX6_resourceOfT _ (List.mem_of_getElem? (i := 0) rfl)) rfl ?_
  refine z_getr 0 0 15 B 2 rfl ob_15 rfl (iX6_resourceOfT _ (List.mem_of_getElem? (i := 1) rfl)) rfl ?_
  refine z_getr 1 1 16 B 3 rfl ob_16 rfl (iX6_resourceOfT _ (List.mem_of_getElem? (i := 2) rfl)) rfl ?_
  refine z_astore_n [(3, .ref 24), (0, .ref 14), (1, .int a1), (2, .int a2)] B 4 rfl 3 rfl (by decide) rfl ?_
  refine z_aload_n B 5 rfl 3 0 rfl rfl ?_
  refine z_iload_n B 6 rfl 1 2 rfl rfl ?_
  obtain ⟨r1, ec, hf⟩ := bd_e hf
  refine z_callV 24 2 [.int a1] [] [.int r1] X B 7 rfl ob_24 rfl rfl miX2_has ⟨(iX6_resourceOfT _ (List.mem_of_getElem? (i := 3) rfl)), (iX6_resourceOfT _ (List.mem_of_getElem? (i := 4) rfl)), (iX6_resourceOfT _ (List.mem_of_getElem? (i := 5) rfl))⟩ (ctX2_has hj ob_24 ec) ⟨Nat.le_of_ble_eq_true rfl, Nat.le_of_ble_eq_true rfl⟩ rfl rfl (Nat.le_of_ble_eq_true rfl) rfl ?_
  by_cases hc : r1 = 0
  · replace hf := (if_pos hc).symm.trans hf
    refine z_if_ne_f B 8 rfl 27 (by decide) hc ?_
    cases hf
    exact z_throw X B hQ 9 10 11 12 rfl rfl rfl rfl ⟨Nat.le_of_ble_eq_true rfl, Nat.le_of_ble_eq_true rfl, Nat.le_of_ble_eq_true rfl, Nat.le_of_ble_eq_true rfl⟩ (Nat.le_of_ble_eq_true rfl)
  · replace hf := (if_neg hc).symm.trans hf
    refine z_if_ne_t B 8 rfl 27 (by decide) hc ?_
    refine z_iload_n B 13 rfl 2 3 rfl rfl ?_
    by_cases hc : a2 = 0
    · replace hf := (if_pos hc).symm.trans hf
      refine z_tswi B 14 rfl 0 (44) 72 (by rw [hc]; decide) (by decide) rfl (by decide) ?_
      refine z_aload_n B 15 rfl 3 0 rfl rfl ?_
      refine z_getr 2 3 24 B 16 rfl ob_24 rfl (iX6_resourceOfT _ (List.mem_of_getElem? (i := 6) rfl)) rfl ?_
      refine z_iload_n B 17 rfl 1 2 rfl rfl ?_
      obtain ⟨r2, ec, hf⟩ := bd_e hf
      refine z_callS [.ref 26, .int a1] [] [.int r2] X B 18 rfl miX6_at ⟨(iX6_resourceOfT _ (List.mem_of_getElem? (i := 7) rfl)), (iX6_resourceOfT _ (List.mem_of_getElem? (i := 8) rfl))⟩ (ctX6_at hj ob_26 ec) ⟨Nat.le_of_ble_eq_true rfl, Nat.le_of_ble_eq_true rfl⟩ rfl rfl (Nat.le_of_ble_eq_true rfl) rfl ?_
      cases hf
    · replace hf := (if_neg hc).symm.trans hf
      have hc0 := hc
      by_cases hc : a2 = 1
      · replace hf := (if_pos hc).symm.trans hf
        refine z_tswi B 14 rfl 1 (53) 81 (by rw [hc]; decide) (by decide) rfl (by decide) ?_
        refine z_aload_n B 20 rfl 3 0 rfl rfl ?_
        refine z_getr 2 4 24 B 21 rfl ob_24 rfl (iX6_resourceOfT _ (List.mem_of_getElem? (i := 9) rfl)) rfl ?_
        refine z_iload_n B 22 rfl 1 2 rfl rfl ?_
        obtain ⟨r3, ec, hf⟩ := bd_e hf
        refine z_callS [.ref 27, .int a1] [] [.int r3] X B 23 rfl miX6_at ⟨(iX6_resourceOfT _ (List.mem_of_getElem? (i := 7) rfl)), (iX6_resourceOfT _ (List.mem_of_getElem? (i := 8) rfl))⟩ (ctX6_at hj ob_27 ec) ⟨Nat.le_of_ble_eq_true rfl, Nat.le_of_ble_eq_true rfl⟩ rfl rfl (Nat.le_of_ble_eq_true rfl) rfl ?_
        cases hf
      · replace hf := (if_neg hc).symm.trans hf
        have hc1 := hc
        by_cases hc : a2 = 2
        · replace hf := (if_pos hc).symm.trans hf
          refine z_tswi B 14 rfl 2 (62) 90 (by rw [hc]; decide) (by decide) rfl (by decide) ?_
          refine z_aload_n B 25 rfl 3 0 rfl rfl ?_
          refine z_getr 2 5 24 B 26 rfl ob_24 rfl (iX6_resourceOfT _ (List.mem_of_getElem? (i := 10) rfl)) rfl ?_
          refine z_iload_n B 27 rfl 1 2 rfl rfl ?_
          obtain ⟨r4, ec, hf⟩ := bd_e hf
          refine z_callS [.ref 28, .int a1] [] [.int r4] X B 28 rfl miX6_at ⟨(iX6_resourceOfT _ (List.mem_of_getElem? (i := 7) rfl)), (iX6_resourceOfT _ (List.mem_of_getElem? (i := 8) rfl))⟩ (ctX6_at hj ob_28 ec) ⟨Nat.le_of_ble_eq_true rfl, Nat.le_of_ble_eq_true rfl⟩ rfl rfl (Nat.le_of_ble_eq_true rfl) rfl ?_
          cases hf
        · replace hf := (if_neg hc).symm.trans hf
          have hc2 := hc
          by_cases hc : a2 = 3
          · replace hf := (if_pos hc).symm.trans hf
            refine z_tswi B 14 rfl 3 (71) 99 (by rw [hc]; decide) (by decide) rfl (by decide) ?_
            refine z_aload_n B 30 rfl 3 0 rfl rfl ?_
            refine z_getr 2 6 24 B 31 rfl ob_24 rfl (iX6_resourceOfT _ (List.mem_of_getElem? (i := 11) rfl)) rfl ?_
            refine z_iload_n B 32 rfl 1 2 rfl rfl ?_
            obtain ⟨r5, ec, hf⟩ := bd_e hf
            refine z_callS [.ref 29, .int a1] [] [.int r5] X B 33 rfl miX6_at ⟨(iX6_resourceOfT _ (List.mem_of_getElem? (i := 7) rfl)), (iX6_resourceOfT _ (List.mem_of_getElem? (i := 8) rfl))⟩ (ctX6_at hj ob_29 ec) ⟨Nat.le_of_ble_eq_true rfl, Nat.le_of_ble_eq_true rfl⟩ rfl rfl (Nat.le_of_ble_eq_true rfl) rfl ?_
            cases hf
          · replace hf := (if_neg hc).symm.trans hf
            have hc3 := hc
            by_cases hc : a2 = 4
            · replace hf := (if_pos hc).symm.trans hf
              refine z_tswi B 14 rfl 4 (80) 108 (by rw [hc]; decide) (by decide) rfl (by decide) ?_
              refine z_aload_n B 35 rfl 3 0 rfl rfl ?_
              refine z_getr 2 7 24 B 36 rfl ob_24 rfl (iX6_resourceOfT _ (List.mem_of_getElem? (i := 12) rfl)) rfl ?_
              refine z_iload_n B 37 rfl 1 2 rfl rfl ?_
              obtain ⟨r6, ec, hf⟩ := bd_e hf
              refine z_callS [.ref 30, .int a1] [] [.int r6] X B 38 rfl miX6_at ⟨(iX6_resourceOfT _ (List.mem_of_getElem? (i := 7) rfl)), (iX6_resourceOfT _ (List.mem_of_getElem? (i := 8) rfl))⟩ (ctX6_at hj ob_30 ec) ⟨Nat.le_of_ble_eq_true rfl, Nat.le_of_ble_eq_true rfl⟩ rfl rfl (Nat.le_of_ble_eq_true rfl) rfl ?_
              cases hf
            · replace hf := (if_neg hc).symm.trans hf
              have hc4 := hc
              by_cases hc : a2 = 5
              · replace hf := (if_pos hc).symm.trans hf
                refine z_tswi B 14 rfl 5 (89) 117 (by rw [hc]; decide) (by decide) rfl (by decide) ?_
                refine z_aload_n B 40 rfl 3 0 rfl rfl ?_
                refine z_getr 2 8 24 B 41 rfl ob_24 rfl (iX6_resourceOfT _ (List.mem_of_getElem? (i := 13) rfl)) rfl ?_
                refine z_iload_n B 42 rfl 1 2 rfl rfl ?_
                obtain ⟨r7, ec, hf⟩ := bd_e hf
                refine z_callS [.ref 31, .int a1] [] [.int r7] X B 43 rfl miX6_at ⟨(iX6_resourceOfT _ (List.mem_of_getElem? (i := 7) rfl)), (iX6_resourceOfT _ (List.mem_of_getElem? (i := 8) rfl))⟩ (ctX6_at hj ob_31 ec) ⟨Nat.le_of_ble_eq_true rfl, Nat.le_of_ble_eq_true rfl⟩ rfl rfl (Nat.le_of_ble_eq_true rfl) rfl ?_
                cases hf
              · replace hf := (if_neg hc).symm.trans hf
                have hc5 := hc
                by_cases hc : a2 = 6
                · replace hf := (if_pos hc).symm.trans hf
                  refine z_tswi B 14 rfl 6 (98) 126 (by rw [hc]; decide) (by decide) rfl (by decide) ?_
                  refine z_aload_n B 45 rfl 3 0 rfl rfl ?_
                  refine z_getr 2 9 24 B 46 rfl ob_24 rfl (iX6_resourceOfT _ (List.mem_of_getElem? (i := 14) rfl)) rfl ?_
                  refine z_iload_n B 47 rfl 1 2 rfl rfl ?_
                  obtain ⟨r8, ec, hf⟩ := bd_e hf
                  refine z_callS [.ref 32, .int a1] [] [.int r8] X B 48 rfl miX6_at ⟨(iX6_resourceOfT _ (List.mem_of_getElem? (i := 7) rfl)), (iX6_resourceOfT _ (List.mem_of_getElem? (i := 8) rfl))⟩ (ctX6_at hj ob_32 ec) ⟨Nat.le_of_ble_eq_true rfl, Nat.le_of_ble_eq_true rfl⟩ rfl rfl (Nat.le_of_ble_eq_true rfl) rfl ?_
                  cases hf
                · replace hf := (if_neg hc).symm.trans hf
                  have hc6 := hc
                  refine z_tswo B 14 rfl 135 (tsw_out7 hc0 hc1 hc2 hc3 hc4 hc5 hc6) (by decide) ?_
                  cases hf
                  exact z_throw X B hQ 50 51 52 53 rfl rfl rfl rfl ⟨Nat.le_of_ble_eq_true rfl, Nat.le_of_ble_eq_true rfl, Nat.le_of_ble_eq_true rfl, Nat.le_of_ble_eq_true rfl⟩ (Nat.le_of_ble_eq_true rfl)
