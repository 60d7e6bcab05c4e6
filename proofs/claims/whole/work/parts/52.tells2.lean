section
variable {mm m' : Mem} {s : ST}
theorem r_addPoint (h : RI mm s) {z : Nat} (hw : ZW (sM s) z) (hz : z < 6) (hn : npt (sM s) z < 4) (u p : Int) : ∃ m', f7_addPoint mm (ii z) (ii u) (ii p) = some m' ∧ FrQ 1 mm m' ∧ RI m' (sset s (padd (sM s) z u p)) := by
  have w1 := h.w1 (11 + 12 * z + 2 * npt (sM s) z) u
  have w2 := w1.w1 (12 + 12 * z + 2 * npt (sM s) z) p
  have w3 := w2.w1 (10 + 12 * z) ((npt (sM s) z : Int) + 1)
  refine ⟨_, ?_, (((FrQ.rf 1 mm).u (11 + 12 * z + 2 * npt (sM s) z) (ii u)).u (12 + 12 * z + 2 * npt (sM s) z) (ii p)).u (10 + 12 * z) (ii ((npt (sM s) z : Int) + 1)), w3⟩
  unfold f7_addPoint
  have e : up (up (sM s) (11 + 12 * z + 2 * npt (sM s) z) u) (12 + 12 * z + 2 * npt (sM s) z) p (10 + 12 * z) = (npt (sM s) z : Int) := by
    rw [up_ne _ _ (by omega), up_ne _ _ (by omega), npt_c hw]
  rw [l3, f7_npt h.1 hw hz rfl, bd_some, l1, l2, l4, l5, l7, l12, ii_mul, ii_mul, ii_add, ii_add, ii_add, ii_add, ii_add, ii_add, wrq _ lnR.1 (k := 11 + 12 * z + 2 * npt (sM s) z) (by omega) (by omega) (by omega), wrq _ lnR.1 (k := 12 + 12 * z + 2 * npt (sM s) z) (by omega) (by omega) (by omega), rd1 w2.1 (k := 10 + 12 * z) (by omega) (by omega)]
  show rdc 1 _ (nm (up2 _ 1 _ (ii (up (up (sM s) (11 + 12 * z + 2 * npt (sM s) z) u) (12 + 12 * z + 2 * npt (sM s) z) p (10 + 12 * z)) + ii 1)) _) = _
  rw [e, ii_add, wrq _ lnR.1 (k := 10 + 12 * z) (by omega) (by omega) (by omega)]
theorem r_addStep (h : RI mm s) {r : Nat} (hw : RW (sM s) r) (hr : r < 12) (hn : stp (sM s) r < 3) (u p : Int) : ∃ m', f7_addStep mm (ii r) (ii u) (ii p) = some m' ∧ FrQ 1 mm m' ∧ RI m' (sset s (sadd (sM s) r u p)) := by
  have w1 := h.w1 (86 + 13 * r + 2 * stp (sM s) r) u
  have w2 := w1.w1 (87 + 13 * r + 2 * stp (sM s) r) p
  have w3 := w2.w1 (85 + 13 * r) ((stp (sM s) r : Int) + 1)
  refine ⟨_, ?_, (((FrQ.rf 1 mm).u (86 + 13 * r + 2 * stp (sM s) r) (ii u)).u (87 + 13 * r + 2 * stp (sM s) r) (ii p)).u (85 + 13 * r) (ii ((stp (sM s) r : Int) + 1)), w3⟩
  unfold f7_addStep
  have e : up (up (sM s) (86 + 13 * r + 2 * stp (sM s) r) u) (87 + 13 * r + 2 * stp (sM s) r) p (85 + 13 * r) = (stp (sM s) r : Int) := by
    rw [up_ne _ _ (by omega), up_ne _ _ (by omega), stp_c hw]
  rw [l6, f7_stp h.1 hw hr rfl, bd_some, l1, l2, l7, l8, l13, l79, ii_mul, ii_mul, ii_add, ii_add, ii_add, ii_add, ii_add, ii_add, wrq _ lnR.1 (k := 86 + 13 * r + 2 * stp (sM s) r) (by omega) (by omega) (by omega), wrq _ lnR.1 (k := 87 + 13 * r + 2 * stp (sM s) r) (by omega) (by omega) (by omega), rd1 w2.1 (k := 85 + 13 * r) (by omega) (by omega)]
  show rdc 1 _ (nm (up2 _ 1 _ (ii (up (up (sM s) (86 + 13 * r + 2 * stp (sM s) r) u) (87 + 13 * r + 2 * stp (sM s) r) p (85 + 13 * r)) + ii 1)) _) = _
  rw [e, ii_add, wrq _ lnR.1 (k := 85 + 13 * r) (by omega) (by omega) (by omega)]
theorem r_addResource (h : RI mm s) (hM : WW (sM s)) (hn : rn (sM s) < 12) (z sz kd ow mu fr : Int) : ∃ m', f7_addResource mm (ii z) (ii sz) (ii kd) (ii ow) (ii mu) (ii fr) = some (ii (rn (sM s)), m') ∧ FrQ 1 mm m' ∧ RI m' (sset s (radd (sM s) z sz kd ow mu fr)) := by
  have rc := rn_c hM
  have w1 := h.w1 (79 + 13 * rn (sM s)) z
  have w2 := w1.w1 (80 + 13 * rn (sM s)) sz
  have w3 := w2.w1 (81 + 13 * rn (sM s)) kd
  have w4 := w3.w1 (82 + 13 * rn (sM s)) ow
  have w5 := w4.w1 (83 + 13 * rn (sM s)) mu
  have w6 := w5.w1 (84 + 13 * rn (sM s)) fr
  have w7 := w6.w1 (85 + 13 * rn (sM s)) 0
  have w8 := w7.w1 1 ((rn (sM s) : Int) + 1)
  refine ⟨_, ?_, ((((((((FrQ.rf 1 mm).u (79 + 13 * rn (sM s)) (ii z)).u (80 + 13 * rn (sM s)) (ii sz)).u (81 + 13 * rn (sM s)) (ii kd)).u (82 + 13 * rn (sM s)) (ii ow)).u (83 + 13 * rn (sM s)) (ii mu)).u (84 + 13 * rn (sM s)) (ii fr)).u (85 + 13 * rn (sM s)) (ii 0)).u 1 (ii ((rn (sM s) : Int) + 1)), w8⟩
  unfold f7_addResource
  have e : up (up (up (up (up (up (up (sM s) (79 + 13 * rn (sM s)) z) (80 + 13 * rn (sM s)) sz) (81 + 13 * rn (sM s)) kd) (82 + 13 * rn (sM s)) ow) (83 + 13 * rn (sM s)) mu) (84 + 13 * rn (sM s)) fr) (85 + 13 * rn (sM s)) 0 1 = (rn (sM s) : Int) := by
    rw [up_ne _ _ (by omega), up_ne _ _ (by omega), up_ne _ _ (by omega), up_ne _ _ (by omega), up_ne _ _ (by omega), up_ne _ _ (by omega), up_ne _ _ (by omega), rc]
  rw [l1, rd1 h.1 (k := 1) (by omega) (by omega), rc, l0, l2, l3, l4, l5, l6, l13, l79, ii_mul, ii_add, nm_eq, ii_add, ii_add, ii_add, ii_add, ii_add, ii_add, wrq _ lnR.1 (k := 79 + 13 * rn (sM s)) (by omega) (by omega) (by omega), wrq _ lnR.1 (k := 80 + 13 * rn (sM s)) (by omega) (by omega) (by omega), wrq _ lnR.1 (k := 81 + 13 * rn (sM s)) (by omega) (by omega) (by omega), wrq _ lnR.1 (k := 82 + 13 * rn (sM s)) (by omega) (by omega) (by omega), wrq _ lnR.1 (k := 83 + 13 * rn (sM s)) (by omega) (by omega) (by omega), wrq _ lnR.1 (k := 84 + 13 * rn (sM s)) (by omega) (by omega) (by omega), wrq _ lnR.1 (k := 85 + 13 * rn (sM s)) (by omega) (by omega) (by omega), rd1 w7.1 (k := 1) (by omega) (by omega)]
  show rdc 1 _ (nm (up2 _ 1 _ (ii (up (up (up (up (up (up (up (sM s) (79 + 13 * rn (sM s)) z) (80 + 13 * rn (sM s)) sz) (81 + 13 * rn (sM s)) kd) (82 + 13 * rn (sM s)) ow) (83 + 13 * rn (sM s)) mu) (84 + 13 * rn (sM s)) fr) (85 + 13 * rn (sM s)) 0 1) + ii 1)) _) = _
  rw [e, ii_add, wrq _ lnR.1 (k := 1) (by omega) (by omega) (by omega)]
theorem fq1 (hf : FrQ 1 mm m') : Frf mm m' := fun c hc => hf c (by omega)
theorem padd_oj {M : WM} {z : Nat} {u p : Int} (hz : z < 6) (hn : npt M z < 4) : ∀ j, oj j = true → padd M z u p j = M j := fun j hj => by
  have := oj_z hj
  exact padd_o (by omega) hn
theorem sadd_zj {M : WM} {r : Nat} {u p : Int} (hn : stp M r < 3) : ∀ j, zj j = true → sadd M r u p j = M j := fun j hj => by
  have := zj_o hj
  exact sadd_o (by omega) hn
theorem radd_zj {M : WM} {z sz kd ow mu fr : Int} : ∀ j, zj j = true → radd M z sz kd ow mu fr j = M j := fun j hj => by
  have := zj_o hj
  exact radd_o (by omega) (by omega)
/-! point -/
def lst (M : WM) (z : Nat) : Int := if npt M z = 0 then 9999 else pp M z (npt M z - 1)
theorem lst_bd {M : WM} {z : Nat} (hw : ZW M z) : 0 ≤ lst M z ∧ lst M z ≤ 9999 := by
  unfold lst
  by_cases e : npt M z = 0
  · rw [if_pos e]; omega
  · rw [if_neg e]
    have := hw.pt (k := npt M z - 1) (by omega)
    omega
def okp (M : WM) (a u p : Int) : Prop := (0 ≤ a ∧ a < M 0) ∧ npt M a.toNat < 4 ∧ (wan M a.toNat + 1 ≤ u ∧ u ≤ 2000) ∧ (0 ≤ p ∧ p ≤ lst M a.toNat)
theorem c_point_n (h : CI mm s) (hs : SW s) {a u p : Int} (h1 : -2147483648 ≤ a) (h2 : a < 2147483648) (h3 : -2147483648 ≤ u) (h4 : u < 2147483648) (h5 : -2147483648 ≤ p) (h6 : p < 2147483648) (hn : ¬ okp (sM s) a u p) : f6_point mm (ii a) (ii u) (ii p) = some (ii (-1), mm) := by
  have hz := hs.1.1.zn
  have zc := zn_c hs.1.1
  unfold f6_point
  rw [f5_has_ok h.z hz h1 h2, bd_some, l0, l1, l4, l2000, ii_neg]
  by_cases c : 0 ≤ a ∧ a < sM s 0
  · obtain ⟨z, rfl⟩ := Int.eq_ofNat_of_zero_le c.1
    have hw := wwz hs.1.1 (z := z) (by omega)
    have np := npt_le hw
    have wl := wan_le hw
    have lb := lst_bd hw
    have q : f6_at mm 21 (ii z) = _ := z_npt h.z hw (by omega)
    rw [if_pos c, if_neg (ine (by omega) (by omega) (by omega) (by omega) (by omega)), q, bd_some]
    by_cases d : npt (sM s) z < 4
    · rw [if_pos (ilt (by omega) (by omega) (by omega)), f5_wanted_ok h.z hw (by omega), bd_some, ii_add, f6_within_ok h3 h4 (by omega) (by omega) (by omega) (by omega), bd_some]
      by_cases e : wan (sM s) z + 1 ≤ u ∧ u ≤ 2000
      · rw [if_pos e, if_neg (ine (by omega) (by omega) (by omega) (by omega) (by omega)), f5_lastPrice_ok h.z hw (by omega), bd_some]
        show bd (f6_within mm (ii p) (ii 0) (ii (lst (sM s) z))) _ = _
        rw [f6_within_ok h5 h6 (by omega) (by omega) (by omega) (by omega), bd_some]
        by_cases f : 0 ≤ p ∧ p ≤ lst (sM s) z
        · exact absurd ⟨c, d, e, f⟩ hn
        · rw [if_neg f, if_pos rfl]
      · rw [if_neg e, if_pos rfl]
    · rw [if_neg (inlt (by omega) (by omega) (by omega))]
  · rw [if_neg c, if_pos rfl]
theorem c_point_y (h : CI mm s) (hs : SW s) {a u p : Int} (hy : okp (sM s) a u p) : ∃ m', f6_point mm (ii a) (ii u) (ii p) = some (ii ((npt (sM s) a.toNat : Int) + 1), m') ∧ Fcl mm m' ∧ CI m' (sset s (padd (sM s) a.toNat u p)) := by
  have hz := hs.1.1.zn
  have zc := zn_c hs.1.1
  obtain ⟨c, d, e, f⟩ := hy
  obtain ⟨z, rfl⟩ := Int.eq_ofNat_of_zero_le c.1
  simp only [Int.toNat_natCast] at d e f ⊢
  have hw := wwz hs.1.1 (z := z) (by omega)
  have wl := wan_le hw
  have lb := lst_bd hw
  obtain ⟨m1, g1, g2, g3⟩ := f5_addPoint_ok h.z hw (by omega) d u p
  refine ⟨m1, ?_, fz_cl g1, h.uz g1 g2 (padd_oj (by omega) d)⟩
  unfold f6_point
  have q : f6_at mm 21 (ii z) = _ := z_npt h.z hw (by omega)
  rw [f5_has_ok h.z hz (by omega) (by omega), bd_some, l0, l1, l4, l2000, if_pos c, if_neg (ine (by omega) (by omega) (by omega) (by omega) (by omega)), q, bd_some, if_pos (ilt (by omega) (by omega) (by omega)), f5_wanted_ok h.z hw (by omega), bd_some, ii_add, f6_within_ok (by omega) (by omega) (by omega) (by omega) (by omega) (by omega), bd_some, if_pos e, if_neg (ine (by omega) (by omega) (by omega) (by omega) (by omega)), f5_lastPrice_ok h.z hw (by omega), bd_some]
  show bd (f6_within mm (ii p) (ii 0) (ii (lst (sM s) z))) _ = _
  rw [f6_within_ok (by omega) (by omega) (by omega) (by omega) (by omega) (by omega), bd_some, if_pos f, if_neg (ine (by omega) (by omega) (by omega) (by omega) (by omega)), g3, bd_some]
theorem r_canPoint (h : RI mm s) (hs : WW (sM s)) {z : Nat} (hz : z < zn (sM s)) {u p : Int} (h3 : -2147483648 ≤ u) (h4 : u < 2147483648) (h5 : -2147483648 ≤ p) (h6 : p < 2147483648) : f7_canPoint mm (ii z) (ii u) (ii p) = some (ii (if (wan (sM s) z + 1 ≤ u ∧ u ≤ 2000) ∧ (0 ≤ p ∧ p ≤ lst (sM s) z) then 1 else 0)) := by
  have zb := zn_bd hs
  have hw := wwz hs hz
  have np := npt_le hw
  have wl := wan_le hw
  have lb := lst_bd hw
  have J60 : ∀ q : Int, q = lst (sM s) z → f7_canPoint_j60 mm (ii q) (ii 0) (ii p) = some (ii (if 0 ≤ p ∧ p ≤ lst (sM s) z then 1 else 0)) := by
    intro q hq
    subst hq
    unfold f7_canPoint_j60
    rw [f7_in_ok h5 h6 (by omega) (by omega) (by omega) (by omega), bd_some, l0, l1]
    by_cases f : 0 ≤ p ∧ p ≤ lst (sM s) z
    · rw [if_pos f, if_neg (ine (by omega) (by omega) (by omega) (by omega) (by omega))]
    · rw [if_neg f, if_pos rfl]
  have J29 : ∀ q : Int, q = wan (sM s) z + 1 → f7_canPoint_j29 mm (ii z) (ii p) (ii (npt (sM s) z)) (ii q) (ii u) = some (ii (if (wan (sM s) z + 1 ≤ u ∧ u ≤ 2000) ∧ (0 ≤ p ∧ p ≤ lst (sM s) z) then 1 else 0)) := by
    intro q hq
    subst hq
    unfold f7_canPoint_j29
    rw [l2000, f7_in_ok h3 h4 (by omega) (by omega) (by omega) (by omega), bd_some, l0, l1, l9999]
    by_cases e : wan (sM s) z + 1 ≤ u ∧ u ≤ 2000
    · rw [if_pos e, if_neg (ine (by omega) (by omega) (by omega) (by omega) (by omega))]
      have fin : some (ii (if 0 ≤ p ∧ p ≤ lst (sM s) z then 1 else 0)) = some (ii (if (wan (sM s) z + 1 ≤ u ∧ u ≤ 2000) ∧ (0 ≤ p ∧ p ≤ lst (sM s) z) then 1 else 0)) := by
        by_cases f : 0 ≤ p ∧ p ≤ lst (sM s) z
        · rw [if_pos f, if_pos ⟨e, f⟩]
        · rw [if_neg f, if_neg (fun x => f x.2)]
      by_cases k : npt (sM s) z = 0
      · rw [if_pos (by rw [k]; rfl), J60 9999 (by unfold lst; rw [if_pos k])]
        exact fin
      · rw [if_neg (ine (by omega) (by omega) (by omega) (by omega) (by omega)), ii_sub, f7_pointPrice_ok h.1 (z := z) (by omega) (k := npt (sM s) z - 1) (by omega) (by omega), bd_some, J60 _ (by unfold lst; rw [if_neg k])]
        exact fin
    · rw [if_neg e, if_pos rfl, if_neg (fun x => e x.1)]
  unfold f7_canPoint
  rw [l3, f7_npt h.1 hw (by omega) rfl, bd_some, l0, l1]
  by_cases k : npt (sM s) z = 0
  · rw [if_pos (by rw [k]; rfl), J29 1 (by unfold wan; rw [if_pos k]; rfl)]
  · rw [if_neg (ine (by omega) (by omega) (by omega) (by omega) (by omega)), ii_sub, f7_pointUnits_ok h.1 (z := z) (by omega) (k := npt (sM s) z - 1) (by omega) (by omega), bd_some, ii_add, J29 _ (by unfold wan; rw [if_neg k])]
theorem r_point_n (h : RI mm s) (hs : SW s) {a u p : Int} (h1 : -2147483648 ≤ a) (h2 : a < 2147483648) (h3 : -2147483648 ≤ u) (h4 : u < 2147483648) (h5 : -2147483648 ≤ p) (h6 : p < 2147483648) (hn : ¬ okp (sM s) a u p) : ∃ m', f7_point mm (ii a) (ii u) (ii p) = some (ii (-1), m') ∧ Frf mm m' ∧ RI m' s := by
  have hz := hs.1.1.zn
  have zc := zn_c hs.1.1
  have h0 := h.u0 (k := 0) (by omega) (ii 0)
  refine ⟨_, ?_, frf_u0 mm 0 (ii 0), h0⟩
  unfold f7_point
  rw [l0, nm_eq, f7_isZone_ok h0.1 hz h1 h2, bd_some, l1, l3, l4, ii_neg]
  by_cases c : 0 ≤ a ∧ a < sM s 0
  · obtain ⟨z, rfl⟩ := Int.eq_ofNat_of_zero_le c.1
    have hw := wwz hs.1.1 (z := z) (by omega)
    have np := npt_le hw
    rw [if_pos c, if_neg (ine (by omega) (by omega) (by omega) (by omega) (by omega)), f7_npt h0.1 hw (by omega) rfl, bd_some]
    by_cases d : npt (sM s) z < 4
    · rw [if_neg (ine (by omega) (by omega) (by omega) (by omega) (by omega)), r_canPoint h0 hs.1.1 (by omega) h3 h4 h5 h6, bd_some, if_neg (show ¬ ((wan (sM s) z + 1 ≤ u ∧ u ≤ 2000) ∧ (0 ≤ p ∧ p ≤ lst (sM s) z)) from fun x => hn ⟨c, d, x.1, x.2⟩), if_pos rfl]
    · rw [if_pos (by congr 1; omega)]
  · rw [if_neg c, if_pos rfl]
theorem r_point_y (h : RI mm s) (hs : SW s) {a u p : Int} (hy : okp (sM s) a u p) : ∃ m', f7_point mm (ii a) (ii u) (ii p) = some (ii ((npt (sM s) a.toNat : Int) + 1), m') ∧ Frf mm m' ∧ RI m' (sset s (padd (sM s) a.toNat u p)) := by
  have hz := hs.1.1.zn
  have zc := zn_c hs.1.1
  have h0 := h.u0 (k := 0) (by omega) (ii 0)
  obtain ⟨c, d, e, f⟩ := hy
  obtain ⟨z, rfl⟩ := Int.eq_ofNat_of_zero_le c.1
  simp only [Int.toNat_natCast] at d e f ⊢
  have hw := wwz hs.1.1 (z := z) (by omega)
  have wl := wan_le hw
  have lb := lst_bd hw
  obtain ⟨m1, g1, g2, g3⟩ := r_addPoint h0 hw (by omega) d u p
  have p10 : padd (sM s) z u p (10 + 12 * z) = (npt (sM s) z : Int) + 1 := by
    unfold padd up
    rw [if_pos rfl]
  refine ⟨m1, ?_, (frf_u0 mm 0 (ii 0)).tr (fq1 g2), g3⟩
  unfold f7_point
  rw [l0, nm_eq, f7_isZone_ok h0.1 hz (by omega) (by omega), bd_some, l3, l4, if_pos c, if_neg (ine (by omega) (by omega) (by omega) (by omega) (by omega)), f7_npt h0.1 hw (by omega) rfl, bd_some, if_neg (ine (by omega) (by omega) (by omega) (by omega) (by omega)), r_canPoint h0 hs.1.1 (by omega) (by omega) (by omega) (by omega) (by omega), bd_some, if_pos (show (wan (sM s) z + 1 ≤ u ∧ u ≤ 2000) ∧ (0 ≤ p ∧ p ≤ lst (sM s) z) from ⟨e, f⟩), if_neg (ine (by omega) (by omega) (by omega) (by omega) (by omega)), g1, bd_some, f7_ofZone_ok g3.1 (z := z) (by omega) (k := 3) (by omega) (j := 10 + 12 * z) (by omega) (by omega), bd_some]
  show some (ii (padd (sM s) z u p (10 + 12 * z)), m1) = _
  rw [p10]
theorem t_point (h : CI mm s) (hr : RI mm s) (hs : SW s) {a u p : Int} (h1 : -2147483648 ≤ a) (h2 : a < 2147483648) (h3 : -2147483648 ≤ u) (h4 : u < 2147483648) (h5 : -2147483648 ≤ p) (h6 : p < 2147483648) : Stq mm (f6_point mm (ii a) (ii u) (ii p)) (fun m => f7_point m (ii a) (ii u) (ii p)) := by
  by_cases hy : okp (sM s) a u p
  · have zc := zn_c hs.1.1
    have c := hy.1
    exact stp_mk hr (hs.ups (padd_WF hs.1 (by omega) hy.2.1 hy.2.2.1 hy.2.2.2)) (c_point_y h hs hy) (fun m hm => r_point_y hm hs hy)
  · exact stp_mk hr hs ⟨mm, c_point_n h hs h1 h2 h3 h4 h5 h6 hy, Fcl.rf mm, h⟩ (fun m hm => r_point_n hm hs h1 h2 h3 h4 h5 h6 hy)
/-! resource -/
def okr (M : WM) (a sz kd ow : Int) : Prop := M 1 < 12 ∧ (0 ≤ a ∧ a < M 0) ∧ (1 ≤ sz ∧ sz ≤ 500) ∧ (0 ≤ kd ∧ kd ≤ 3) ∧ (0 ≤ ow ∧ ow ≤ 5)
theorem t_resource (h : CI mm s) (hr : RI mm s) (hs : SW s) {a sz kd ow mu : Int} (h1 : -2147483648 ≤ a) (h2 : a < 2147483648) (h3 : -2147483648 ≤ sz) (h4 : sz < 2147483648) (h5 : -2147483648 ≤ kd) (h6 : kd < 2147483648) (h7 : -2147483648 ≤ ow) (h8 : ow < 2147483648) (hmu : mu = 0 ∨ mu = 1) : Stq mm (f6_resource mm (ii a) (ii sz) (ii kd) (ii ow) (ii mu)) (fun m => f7_resource m (ii a) (ii sz) (ii kd) (ii ow) (ii mu)) := by
  have hz := hs.1.1.zn
  have hrn := hs.1.1.rn
  have rc := rn_c hs.1.1
  by_cases hy : okr (sM s) a sz kd ow
  · obtain ⟨e1, e2, e3, e4, e5⟩ := hy
    refine stp_mk (v := ii (rn (sM s))) (s' := sset s (radd (sM s) a sz kd ow mu 0)) hr (hs.ups (radd_WF hs.1 (by omega) e2 e3 e4 e5 hmu (Or.inl rfl))) ?_ (fun m hm => ?_)
    · obtain ⟨m1, g1, g2, g3⟩ := f2_add_ok h.o hs.1.1 (by omega) a sz kd ow hmu (Or.inl rfl : (0 : Int) = 0 ∨ (0 : Int) = 1)
      refine ⟨m1, ?_, fo_cl g1, h.uo g1 g2 radd_zj⟩
      have ho := h.o
      unfold f6_resource
      rw [ho.n, f5_has_ok h.z hz h1 h2, bd_some, l0, l1, l3, l5, l12, l500, f6_within_ok h3 h4 (by omega) (by omega) (by omega) (by omega), bd_some, f6_within_ok h5 h6 (by omega) (by omega) (by omega) (by omega), bd_some, f6_within_ok h7 h8 (by omega) (by omega) (by omega) (by omega), bd_some, if_pos (ilt e1 (by omega) (by omega)), if_pos e2, if_neg (ine (by omega) (by omega) (by omega) (by omega) (by omega)), if_pos e3, if_neg (ine (by omega) (by omega) (by omega) (by omega) (by omega)), if_pos e4, if_neg (ine (by omega) (by omega) (by omega) (by omega) (by omega)), if_pos e5, if_neg (ine (by omega) (by omega) (by omega) (by omega) (by omega)), g3, bd_some]
    · have h0 := hm.u0 (k := 0) (by omega) (ii 0)
      obtain ⟨m1, g1, g2, g3⟩ := r_addResource h0 hs.1.1 (by omega) a sz kd ow mu 0
      refine ⟨m1, ?_, (frf_u0 m 0 (ii 0)).tr (fq1 g2), g3⟩
      show f7_resource m (ii a) (ii sz) (ii kd) (ii ow) (ii mu) = _
      unfold f7_resource f7_resource_j72
      rw [l0, nm_eq, l1, rd1 h0.1 (k := 1) (by omega) (by omega), f7_isZone_ok h0.1 hz h1 h2, bd_some, l3, l5, l12, l500, f7_in_ok h3 h4 (by omega) (by omega) (by omega) (by omega), bd_some, f7_in_ok h5 h6 (by omega) (by omega) (by omega) (by omega), bd_some, f7_in_ok h7 h8 (by omega) (by omega) (by omega) (by omega), bd_some, if_neg (ine (by omega) (by omega) (by omega) (by omega) (by omega)), if_pos e2, if_neg (ine (by omega) (by omega) (by omega) (by omega) (by omega)), if_pos e3, if_neg (ine (by omega) (by omega) (by omega) (by omega) (by omega)), if_pos e4, if_neg (ine (by omega) (by omega) (by omega) (by omega) (by omega)), if_pos e5, if_neg (ine (by omega) (by omega) (by omega) (by omega) (by omega))]
      rcases hmu with rfl | rfl
      · rw [if_pos rfl, g1, bd_some]
      · rw [if_neg (by decide), g1, bd_some]
  · refine stp_mk (v := ii (-1)) (s' := s) hr hs ⟨mm, ?_, Fcl.rf mm, h⟩ (fun m hm => ⟨_, ?_, frf_u0 m 0 (ii 0), hm.u0 (k := 0) (by omega) (ii 0)⟩)
    · have ho := h.o
      unfold f6_resource
      rw [ho.n, f5_has_ok h.z hz h1 h2, bd_some, l0, l1, l3, l5, l12, l500, ii_neg, f6_within_ok h3 h4 (by omega) (by omega) (by omega) (by omega), bd_some, f6_within_ok h5 h6 (by omega) (by omega) (by omega) (by omega), bd_some, f6_within_ok h7 h8 (by omega) (by omega) (by omega) (by omega), bd_some]
      by_cases e1 : sM s 1 < 12
      · rw [if_pos (ilt e1 (by omega) (by omega))]
        by_cases e2 : 0 ≤ a ∧ a < sM s 0
        · rw [if_pos e2, if_neg (ine (by omega) (by omega) (by omega) (by omega) (by omega))]
          by_cases e3 : 1 ≤ sz ∧ sz ≤ 500
          · rw [if_pos e3, if_neg (ine (by omega) (by omega) (by omega) (by omega) (by omega))]
            by_cases e4 : 0 ≤ kd ∧ kd ≤ 3
            · rw [if_pos e4, if_neg (ine (by omega) (by omega) (by omega) (by omega) (by omega))]
              by_cases e5 : 0 ≤ ow ∧ ow ≤ 5
              · exact absurd ⟨e1, e2, e3, e4, e5⟩ hy
              · rw [if_neg e5, if_pos rfl]
            · rw [if_neg e4, if_pos rfl]
          · rw [if_neg e3, if_pos rfl]
        · rw [if_neg e2, if_pos rfl]
      · rw [if_neg (inlt (by omega) (by omega) (by omega))]
    · have h0 := hm.u0 (k := 0) (by omega) (ii 0)
      show f7_resource m (ii a) (ii sz) (ii kd) (ii ow) (ii mu) = _
      unfold f7_resource
      rw [l0, nm_eq, l1, rd1 h0.1 (k := 1) (by omega) (by omega), f7_isZone_ok h0.1 hz h1 h2, bd_some, l3, l5, l12, l500, ii_neg, f7_in_ok h3 h4 (by omega) (by omega) (by omega) (by omega), bd_some, f7_in_ok h5 h6 (by omega) (by omega) (by omega) (by omega), bd_some, f7_in_ok h7 h8 (by omega) (by omega) (by omega) (by omega), bd_some]
      by_cases e1 : sM s 1 < 12
      · rw [if_neg (ine (by omega) (by omega) (by omega) (by omega) (by omega))]
        by_cases e2 : 0 ≤ a ∧ a < sM s 0
        · rw [if_pos e2, if_neg (ine (by omega) (by omega) (by omega) (by omega) (by omega))]
          by_cases e3 : 1 ≤ sz ∧ sz ≤ 500
          · rw [if_pos e3, if_neg (ine (by omega) (by omega) (by omega) (by omega) (by omega))]
            by_cases e4 : 0 ≤ kd ∧ kd ≤ 3
            · rw [if_pos e4, if_neg (ine (by omega) (by omega) (by omega) (by omega) (by omega))]
              by_cases e5 : 0 ≤ ow ∧ ow ≤ 5
              · exact absurd ⟨e1, e2, e3, e4, e5⟩ hy
              · rw [if_neg e5, if_pos rfl]
            · rw [if_neg e4, if_pos rfl]
          · rw [if_neg e3, if_pos rfl]
        · rw [if_neg e2, if_pos rfl]
      · rw [if_pos (by congr 1; omega)]
end
