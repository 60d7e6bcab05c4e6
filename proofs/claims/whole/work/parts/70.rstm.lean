/-! statements, by the reference -/
section
variable {mm : Mem} {s : ST} {q : Nat} {W : WM}
theorem rd13 (m : Mem) {k : Nat} (hk : k < 6) {i : Int} (hi : i = k) {β : Type} (K : Int32 → Option β) : rdc 13 (ii i) (nm (m 13 (ii i).toNatClampNeg) K) = K (m 13 k) := rdq m lnR.2.2.2.2.2.2.2.2.2.2.2.2.1 hk (by omega) hi K
theorem wr13 (m : Mem) {k : Nat} (hk : k < 6) {i : Int} (hi : i = k) (v : Int32) {β : Type} (K : Mem → Option β) : rdc 13 (ii i) (nm (up2 m 13 (ii i).toNatClampNeg v) K) = K (up2 m 13 k v) := wrq m lnR.2.2.2.2.2.2.2.2.2.2.2.2.1 hk (by omega) hi v K
/-- the token behind the word -/
def nxt (s : ST) (q : Nat) : Nat := skp (stp' s) (stl s) (tnx (stp' s) (stl s) q)
theorem RP.sw (h : RP mm s W q) (hs : SW s) (hw : WF W) : SW (sset s W) := ⟨hw, hs.2⟩
theorem r_zone_p (h : RP mm s W q) (hs : SW s) (hw : WF W) {a b c : Int} (hy : okz W a b c) : ∃ m', f7_zone mm (ii a) (ii b) (ii c) = some (ii (zn W), m') ∧ Frp mm m' ∧ RP m' s (zoa W a b c) q := by
  have hz := hw.1.zn
  have zc := zn_c hw.1
  obtain ⟨e1, e2, e3, e4⟩ := hy
  have h0 : RP (up2 mm 0 0 (ii 0)) s W q := by
    obtain ⟨p, p1, p2⟩ := h.2.1
    exact ⟨h.1.u0 (by omega) _, ⟨p, by rw [up2_k _ _ _ _ (by omega)]; exact p1, p2⟩, by rw [up2_k _ _ _ _ (by omega)]; exact h.2.2⟩
  have F0 : Frp mm (up2 mm 0 0 (ii 0)) := ⟨fun c h1 _ _ => by funext j; exact up2_c _ _ _ _ h1, up2_k _ _ _ _ (by omega)⟩
  have w1 := h0.w1 (7 + 12 * zn W) a
  have w2 := w1.1.w1 (8 + 12 * zn W) b
  have w3 := w2.1.w1 (9 + 12 * zn W) c
  have w4 := w3.1.w1 (10 + 12 * zn W) 0
  have w5 := w4.1.w1 0 ((zn W : Int) + 1)
  refine ⟨_, ?_, ((((F0.tr w1.2).tr w2.2).tr w3.2).tr w4.2).tr w5.2, w5.1⟩
  unfold f7_zone
  have k0 : RK (up2 mm 0 0 (ii 0)) W := h0.1.1
  rw [l0, nm_eq, rd1 k0 (k := 0) (by omega) (by omega), f7_isZone_ok k0 hz (by omega) (by omega), bd_some, l1, l2, l3, l6, l7, l12, f7_isPrice_ok (by omega) (by omega), bd_some, f7_isPrice_ok (by omega) (by omega), bd_some, if_neg (ine (by omega) (by omega) (by omega) (by omega) (by omega)), if_pos e2, if_neg (ine (by omega) (by omega) (by omega) (by omega) (by omega)), if_pos e3, if_neg (ine (by omega) (by omega) (by omega) (by omega) (by omega)), if_pos e4, if_neg (ine (by omega) (by omega) (by omega) (by omega) (by omega)), ii_mul, ii_add, ii_add, ii_add, ii_add, wrq _ lnR.1 (k := 7 + 12 * zn W) (by omega) (by omega) (by omega), wrq _ lnR.1 (k := 8 + 12 * zn W) (by omega) (by omega) (by omega), wrq _ lnR.1 (k := 9 + 12 * zn W) (by omega) (by omega) (by omega), wrq _ lnR.1 (k := 10 + 12 * zn W) (by omega) (by omega) (by omega)]
  have k4 : RK (up2 (up2 (up2 (up2 (up2 mm 0 0 (ii 0)) 1 (7 + 12 * zn W) (ii a)) 1 (8 + 12 * zn W) (ii b)) 1 (9 + 12 * zn W) (ii c)) 1 (10 + 12 * zn W) (ii 0)) (up (up (up (up W (7 + 12 * zn W) a) (8 + 12 * zn W) b) (9 + 12 * zn W) c) (10 + 12 * zn W) 0) := w4.1.1.1
  have e5 : up (up (up (up W (7 + 12 * zn W) a) (8 + 12 * zn W) b) (9 + 12 * zn W) c) (10 + 12 * zn W) 0 0 = (zn W : Int) := by
    rw [up_ne _ _ (by omega), up_ne _ _ (by omega), up_ne _ _ (by omega), up_ne _ _ (by omega), zc]
  rw [rd1 k4 (k := 0) (by omega) (by omega), e5, ii_add, wrq _ lnR.1 (k := 0) (by omega) (by omega) (by omega), zc]
theorem r_readZone (h : RP mm s W (nxt s q)) (hs : SW s) (hw : WF W) : Rout (f7_readZone mm (ii q)) mm s (oZone (stp' s) (stl s) W q) := by
  have zb := hw.1.zn
  have zc := zn_c hw.1
  have k0 : RK mm W := h.1.1
  unfold f7_readZone oZone
  rw [l0, rd1 k0 (k := 0) (by omega) (by omega), rd1 k0 (k := 0) (by omega) (by omega), l6, l3, l1, l2, l9999, ii_sub]
  by_cases c : W 0 < 6
  · rw [if_pos c, if_neg (ine (by omega) (by omega) (by omega) (by omega) (by omega))]
    refine r_num h hs (n := 0) (by omega) (by omega) (by omega) (fun m1 f1 f2 f3 f4 f5 => ?_)
    dsimp only
    refine r_num f2 hs (n := 1) (by omega) (by omega) (by omega) (fun m2 g1 g2 g3 g4 g5 => ?_)
    dsimp only
    refine r_num g2 hs (n := 2) (by omega) (by omega) (by omega) (fun m3 j1 j2 j3 j4 j5 => ?_)
    dsimp only
    refine r_end j2 hs (fun m4 i1 i2 i3 => ?_)
    dsimp only
    have v0 : m4 13 0 = ii (tnu (stp' s) (stl s) (nxt s q)) := by rw [i2, j3 0 (by omega), g3 0 (by omega), f4]
    have v1 := (congrFun i2 1).trans ((j3 1 (by omega)).trans g4)
    have v2 := (congrFun i2 2).trans j4
    obtain ⟨m5, o1, o2, o3⟩ := r_zone_p i3 hs hw (a := tnu (stp' s) (stl s) (nxt s q)) ⟨c, by omega, g5, j5⟩
    rw [rd13 m4 (k := 0) (by omega) (by omega), rd13 m4 (k := 1) (by omega) (by omega), rd13 m4 (k := 2) (by omega) (by omega), v0, v1, v2, o1, bd_some, ii_neg, if_neg (ine (by omega) (by omega) (by omega) (by omega) (by omega))]
    exact Rout_y rfl o2 o3
  · rw [if_neg c, if_pos (show ii (W 0) = ii 6 from congrArg ii (by omega))]
    exact r_fail h (Frp.rf mm) 3 q
theorem r_ceil (h : RP mm s W (nxt s q)) (hs : SW s) : Rout (bd (f7_number mm (ii 0) (ii 0) (ii 9999)) (fun r4 => if r4.1 = ii 0 then some (ii 0, r4.2) else bd (f7_ends r4.2) (fun r5 => if r5.1 = ii 0 then some (ii 0, r5.2) else rdc 13 (ii 0) (nm (r5.2 13 (ii 0).toNatClampNeg) (fun v6 => rdc 1 (ii 2) (nm (up2 r5.2 1 (ii 2).toNatClampNeg v6) (fun m7 => some (ii 1, m7)))))))) mm s (oCeil (stp' s) (stl s) W q) := by
  unfold oCeil
  refine r_num h hs (n := 0) (by omega) (by omega) (by omega) (fun m1 f1 f2 f3 f4 f5 => ?_)
  dsimp only
  refine r_end f2 hs (fun m2 i1 i2 i3 => ?_)
  dsimp only
  have v0 : m2 13 0 = ii (tnu (stp' s) (stl s) (nxt s q)) := by rw [i2, f4]
  have P := i3.w1 2 (tnu (stp' s) (stl s) (nxt s q))
  rw [rd13 m2 (k := 0) (by omega) (by omega), wrq m2 lnR.1 (k := 2) (by omega) (by omega) (by omega), v0]
  exact Rout_y rfl P.2 P.1
theorem r_readFloor (h : RP mm s W (nxt s q)) (hs : SW s) (hw : WF W) : Rout (f7_readSet mm (ii 0) (ii 0) (ii 3)) mm s (oFloor (stp' s) (stl s) W q) := by
  unfold f7_readSet f7_readSet_j39 oFloor
  rw [l0, l1, l2, l3, l9999]
  refine r_num h hs (n := 0) (by omega) (by omega) (by omega) (fun m1 f1 f2 f3 f4 f5 => ?_)
  dsimp only
  refine r_num f2 hs (n := 1) (by omega) (by omega) (by omega) (fun m2 g1 g2 g3 g4 g5 => ?_)
  dsimp only
  rw [if_neg (show ¬ ii 0 = ii 2 by decide)]
  refine r_end g2 hs (fun m4 i1 i2 i3 => ?_)
  dsimp only
  have v0 : m4 13 0 = ii (tnu (stp' s) (stl s) (nxt s q)) := by rw [i2, g3 0 (by omega), f4]
  have v1 := (congrFun i2 1).trans g4
  rw [rd13 m4 (k := 0) (by omega) (by omega), rd13 m4 (k := 1) (by omega) (by omega), v0, v1]
  generalize tnu (stp' s) (stl s) (skp (stp' s) (stl s) (dee (stp' s) (stl s) (nxt s q))) = b at v1 g5 ⊢
  generalize tnu (stp' s) (stl s) (nxt s q) = a at v0 f5 ⊢
  obtain ⟨k, rfl⟩ := Int.eq_ofNat_of_zero_le f5.1
  have pl := f7_placeOf_ok (s := sset s W) i3.1.1 hw.1 (a := 0) (k := (k : Int)) (v := b) (by omega) (by omega) (by omega) (by omega) (by omega) (by omega)
  have pe : plc W 0 k b = ((3 + k : Nat) : Int) := by
    unfold plc
    rw [if_pos g5, if_pos rfl, if_pos (by omega)]
    omega
  have pl : f7_placeOf m4 (ii 0) (ii k) (ii b) = some (ii (plc W 0 k b)) := pl
  have P := i3.w1 (3 + k) b
  rw [pl, bd_some, pe, rd13 m4 (k := 1) (by omega) (by omega), wrq m4 lnR.1 (k := 3 + k) (by omega) (by omega) rfl, v1, if_neg (show ¬ ii 0 = ii 2 by decide), Int.toNat_natCast]
  exact Rout_y rfl P.2 P.1
theorem r_readLimits (h : RP mm s W (nxt s q)) (hs : SW s) (hw : WF W) : Rout (f7_readSet mm (ii 2) (ii 1) (ii (W 0 - 1))) mm s (oLim (stp' s) (stl s) W q) := by
  have zb := hw.1.zn
  have zc := zn_c hw.1
  unfold f7_readSet f7_readSet_j39 oLim
  rw [l0, l1, l2, l3, l9999]
  refine r_num h hs (n := 0) (by omega) (by omega) (by omega) (fun m1 f1 f2 f3 f4 f5 => ?_)
  dsimp only
  refine r_num f2 hs (n := 1) (by omega) (by omega) (by omega) (fun m2 g1 g2 g3 g4 g5 => ?_)
  dsimp only
  rw [if_pos rfl]
  refine r_num g2 hs (n := 2) (by omega) (by omega) (by omega) (fun m3 j1 j2 j3 j4 j5 => ?_)
  dsimp only
  refine r_end j2 hs (fun m4 i1 i2 i3 => ?_)
  dsimp only
  have v0 : m4 13 0 = ii (tnu (stp' s) (stl s) (nxt s q)) := by rw [i2, j3 0 (by omega), g3 0 (by omega), f4]
  have v1 := (congrFun i2 1).trans ((j3 1 (by omega)).trans g4)
  have v2 := (congrFun i2 2).trans j4
  rw [rd13 m4 (k := 0) (by omega) (by omega), rd13 m4 (k := 1) (by omega) (by omega), v0, v1]
  generalize tnu (stp' s) (stl s) (skp (stp' s) (stl s) (dee (stp' s) (stl s) (skp (stp' s) (stl s) (dee (stp' s) (stl s) (nxt s q))))) = c at v2 j5 ⊢
  generalize tnu (stp' s) (stl s) (skp (stp' s) (stl s) (dee (stp' s) (stl s) (nxt s q))) = b at v1 g5 ⊢
  generalize tnu (stp' s) (stl s) (nxt s q) = a at v0 f5 ⊢
  obtain ⟨z, rfl⟩ := Int.eq_ofNat_of_zero_le (show 0 ≤ a by omega)
  have w1 : WF (up W (8 + 12 * z) b) := WF_lim hw (z := z) (by omega) (Or.inl rfl) g5
  have pl : f7_placeOf m4 (ii 2) (ii z) (ii b) = some (ii (plc W 2 z b)) := f7_placeOf_ok (s := sset s W) i3.1.1 hw.1 (a := 2) (k := (z : Int)) (v := b) (by omega) (by omega) (by omega) (by omega) (by omega) (by omega)
  have pe : plc W 2 z b = ((8 + 12 * z : Nat) : Int) := by
    unfold plc
    rw [if_pos g5, if_neg (by omega), if_neg (by omega), if_pos rfl, if_pos (by omega)]
    omega
  have P := i3.w1 (8 + 12 * z) b
  rw [pl, bd_some, pe, rd13 m4 (k := 1) (by omega) (by omega), wrq m4 lnR.1 (k := 8 + 12 * z) (by omega) (by omega) rfl, v1, if_pos rfl]
  have v0' : up2 m4 1 (8 + 12 * z) (ii b) 13 0 = ii z := by rw [up2_c _ _ _ _ (by omega), v0]
  have v2' : up2 m4 1 (8 + 12 * z) (ii b) 13 2 = ii c := by rw [up2_c _ _ _ _ (by omega), v2]
  have pl2 : f7_placeOf (up2 m4 1 (8 + 12 * z) (ii b)) (ii 3) (ii z) (ii c) = some (ii (plc (up W (8 + 12 * z) b) 3 z c)) := f7_placeOf_ok (s := sset s (up W (8 + 12 * z) b)) P.1.1.1 w1.1 (a := 3) (k := (z : Int)) (v := c) (by omega) (by omega) (by omega) (by omega) (by omega) (by omega)
  have u0 : up W (8 + 12 * z) b 0 = W 0 := up_ne _ _ (by omega)
  have pe2 : plc (up W (8 + 12 * z) b) 3 z c = ((9 + 12 * z : Nat) : Int) := by
    unfold plc
    rw [if_pos j5, if_neg (by omega), if_neg (by omega), if_neg (by omega), if_pos rfl, u0, if_pos (by omega)]
    omega
  have P2 := P.1.w1 (9 + 12 * z) c
  rw [rd13 _ (k := 0) (by omega) (by omega), rd13 _ (k := 2) (by omega) (by omega), v0', v2', pl2, bd_some, pe2, rd13 _ (k := 2) (by omega) (by omega), wrq _ lnR.1 (k := 9 + 12 * z) (by omega) (by omega) rfl, v2', Int.toNat_natCast]
  exact Rout_y rfl (P.2.tr P2.2) P2.1
end
