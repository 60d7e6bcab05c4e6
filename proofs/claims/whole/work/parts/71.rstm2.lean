/-! curve, offer, resource: statements, by the reference -/
section
variable {mm : Mem} {s : ST} {q : Nat} {W : WM}
theorem Rout.bk {r : Option (Int32 × Mem)} {o : OC} (h : Rout r mm s o) : Rout (bd r (fun x => bok x.1 (some (x.1, x.2)))) mm s o := by
  refine ⟨fun x hx => ?_, fun hx => ?_⟩
  · obtain ⟨m', a1, a2⟩ := h.1 x hx
    refine ⟨m', ?_, a2⟩
    rw [a1, bd_some]
    exact bok_1 _
  · obtain ⟨m', a1, a2⟩ := h.2 hx
    refine ⟨m', ?_, a2⟩
    rw [a1, bd_some]
    exact bok_0 _
theorem RP.dig (h : RP mm s W q) (hs : SW s) : f7_isDigit mm = some (ii (if isn (stp' s) (stl s) q then 1 else 0), up2 mm 0 17 (ii q)) := by
  obtain ⟨p, p1, p2, p3⟩ := h.2.1
  exact f7_isDigit_ok (h.tr hs) p2 p1 p3
theorem RP.wrd (h : RP mm s W q) (hs : SW s) : f7_isWord mm = some (ii (if isw (stp' s) (stl s) q then 1 else 0), up2 mm 0 17 (ii q)) := by
  obtain ⟨p, p1, p2, p3⟩ := h.2.1
  exact f7_isWord_ok (h.tr hs) p2 p1 p3
theorem r_crv (hs : SW s) {z : Nat} : ∀ (d n : Nat) (m : Mem) (W : WM) (q : Nat), npt W z + d = 4 → d + 1 < n → RP m s W q → WF W → z < zn W → Rout (f7_readCurve_l41 n (ii z) m) m s (oCrv (stp' s) (stl s) z (d + 1) W q) := by
  intro d
  induction d with
  | zero =>
    intro n m W q hnp hdn h hw hz
    obtain ⟨k, rfl⟩ : ∃ k, n = k + 1 := ⟨n - 1, by omega⟩
    have A := h.at
    have zb := zn_bd hw.1
    have zw := wwz hw.1 hz
    rw [f7_readCurve_l41, h.dig hs, bd_some]
    dsimp only
    unfold oCrv
    rw [l0, l3, l4]
    by_cases c : isn (stp' s) (stl s) q
    · have k0 : RK (up2 m 0 17 (ii q)) W := A.1.1.1
      rw [if_pos c, if_pos c, if_pos (show npt W z = 4 by omega), if_neg (show ¬ ii 1 = ii 0 by decide), f7_npt k0 zw (by omega) rfl, bd_some, if_pos (show ii (npt W z) = ii 4 from congrArg ii (by omega)), up2_at]
      exact r_fail A.1 A.2.ps 3 q
    · rw [if_neg c, if_neg c, if_pos rfl]
      exact (r_fin A.1 hs).fr A.2.ps
  | succ d ih =>
    intro n m W q hnp hdn h hw hz
    obtain ⟨k, rfl⟩ : ∃ k, n = k + 1 := ⟨n - 1, by omega⟩
    have A := h.at
    have zb := zn_bd hw.1
    have zw := wwz hw.1 hz
    have wl := wan_le zw
    have lb := lst_bd zw
    rw [f7_readCurve_l41, h.dig hs, bd_some]
    dsimp only
    unfold oCrv
    rw [l0, l1, l3, l4]
    by_cases c : isn (stp' s) (stl s) q
    · have k0 : RK (up2 m 0 17 (ii q)) W := A.1.1.1
      have J120 : ∀ (m2 : Mem) (q2 : Nat) (u x : Int), x = lst W z → RP m2 s W q2 → m2 13 1 = ii u → wan W z + 1 ≤ u ∧ u ≤ 2000 → Rout (f7_readCurve_j120 (fun x1 mm => f7_readCurve_l41 k x1 mm) (ii z) (ii x) (ii 0) (ii 2) m2) m2 s (onum (stp' s) (stl s) q2 0 (lst W z) (fun p q3 => oCrv (stp' s) (stl s) z (d + 1) (padd W z u p) q3)) := by
        intro m2 q2 u x hx h2 hu hub
        subst hx
        unfold f7_readCurve_j120
        rw [l0]
        refine r_num h2 hs (n := 2) (by omega) (by omega) (by omega) (fun m3 g1 g2 g3 g4 g5 => ?_)
        dsimp only
        have k3 : RI m3 (sset s W) := g2.1
        obtain ⟨m4, i1, i2, i3⟩ := r_addPoint (s := sset s W) k3 zw (by omega) (show npt W z < 4 by omega) u (tnu (stp' s) (stl s) q2)
        have P := g2.mk1 (W' := padd W z u (tnu (stp' s) (stl s) q2)) i2 i3
        have wf := padd_WF hw hz (by omega) hub g5
        have np : npt (padd W z u (tnu (stp' s) (stl s) q2)) z = npt W z + 1 := padd_np
        have go := ih k m4 _ _ (by omega) (by omega) P.1 wf (by unfold zn; rw [padd_o (by omega) (by omega)]; exact hz)
        rw [l1, l2, rd13 m3 (k := 1) (by omega) (by omega), rd13 m3 (k := 2) (by omega) (by omega), g3 1 (by omega), hu, g4, i1, bd_some]
        exact go.fr P.2
      have J90 : ∀ (m2 : Mem) (x : Int), x = wan W z + 1 → RP m2 s W q → Rout (f7_readCurve_j90 (fun x1 mm => f7_readCurve_l41 k x1 mm) (ii z) (ii (npt W z)) (ii x) (ii 1) m2) m2 s (onum (stp' s) (stl s) q (wan W z + 1) 2000 (fun u q2 => onum (stp' s) (stl s) q2 0 (lst W z) (fun p q3 => oCrv (stp' s) (stl s) z (d + 1) (padd W z u p) q3))) := by
        intro m2 x hx h2
        subst hx
        unfold f7_readCurve_j90
        rw [l0, l2000]
        refine r_num h2 hs (n := 1) (by omega) (by omega) (by omega) (fun m3 g1 g2 g3 g4 g5 => ?_)
        dsimp only
        rw [l1, l2, l9999, ii_sub]
        have k3 : RK m3 W := g2.1.1
        by_cases e : npt W z = 0
        · rw [if_pos (show ii (npt W z) = ii 0 from congrArg ii (by omega))]
          exact J120 m3 _ _ 9999 (by unfold lst; rw [if_pos e]) g2 g4 g5
        · rw [if_neg (ine (by omega) (by omega) (by omega) (by omega) (by omega)), f7_pointPrice_ok k3 (z := z) (by omega) (k := npt W z - 1) (by omega) (by omega), bd_some]
          exact J120 m3 _ _ _ (by unfold lst; rw [if_neg e]) g2 g4 g5
      rw [if_pos c, if_pos c, if_neg (show ¬ npt W z = 4 by omega), if_neg (show ¬ ii 1 = ii 0 by decide), f7_npt k0 zw (by omega) rfl, bd_some, if_neg (show ¬ ii (npt W z) = ii 4 from ine (by omega) (by omega) (by omega) (by omega) (by omega)), ii_sub]
      refine Rout.fr ?_ A.2.ps
      by_cases e : npt W z = 0
      · rw [if_pos (show ii (npt W z) = ii 0 from congrArg ii (by omega))]
        exact J90 _ 1 (by unfold wan; rw [if_pos e]; rfl) A.1
      · rw [if_neg (ine (by omega) (by omega) (by omega) (by omega) (by omega)), f7_pointUnits_ok k0 (z := z) (by omega) (k := npt W z - 1) (by omega) (by omega), bd_some, ii_add]
        exact J90 _ _ (by unfold wan; rw [if_neg e]) A.1
    · rw [if_neg c, if_neg c, if_pos rfl]
      exact (r_fin A.1 hs).fr A.2.ps
theorem r_readCurve (h : RP mm s W (nxt s q)) (hs : SW s) (hw : WF W) : Rout (f7_readCurve mm) mm s (oCurve (stp' s) (stl s) W q) := by
  have zb := hw.1.zn
  have zc := zn_c hw.1
  have k0 : RK mm W := h.1.1
  unfold f7_readCurve oCurve
  rw [l0, rd1 k0 (k := 0) (by omega) (by omega), l1, l3, l7, l12, ii_sub]
  refine r_num h hs (n := 0) (by omega) (by omega) (by omega) (fun m1 f1 f2 f3 f4 f5 => ?_)
  dsimp only
  rw [rd13 m1 (k := 0) (by omega) (by omega), f4]
  generalize tnu (stp' s) (stl s) (nxt s q) = x at f5 ⊢
  obtain ⟨z, rfl⟩ := Int.eq_ofNat_of_zero_le f5.1
  have hz : z < zn W := by omega
  have P := f2.w1 (10 + 12 * z) 0
  have np : npt (pdrop W z) z = 0 := pdrop_np
  have go := r_crv hs (z := z) 4 FU _ (pdrop W z) _ (by omega) (by unfold FU; omega) P.1 (pdrop_WF hw hz) (by unfold zn; rw [show pdrop W z 0 = W 0 from up_ne _ _ (by omega)]; exact hz)
  rw [ii_mul, ii_add, ii_add, wrq m1 lnR.1 (k := 10 + 12 * z) (by omega) (by omega) (by omega), Int.toNat_natCast]
  exact go.fr P.2
theorem r_off (hs : SW s) {r q0 : Nat} : ∀ (d n : Nat) (m : Mem) (W : WM) (q : Nat), stp W r + d = 3 → d + 1 < n → RP m s W q → WX W r → Rout (f7_readOffer_l42 n (ii q0) (ii r) m) m s (oOff (stp' s) (stl s) r q0 (d + 1) W q) := by
  have J : ∀ (m : Mem) (W : WM) (q : Nat), RP m s W q → WX W r → Rout (bd (f7_ends m) (fun r6 => if r6.1 = ii 0 then some (ii 0, r6.2) else bd (f7_stepped r6.2 (ii r)) (fun r7 => bd (f7_ofResource r6.2 (ii r) (ii 1)) (fun r8 => if r8 < r7 then bd (f7_fails r6.2 (ii 4) (ii q0)) (fun r9 => if r9.1 = ii 0 then some (ii 0, r9.2) else f7_readOffer_j174 r9.2) else f7_readOffer_j174 r6.2)))) m s (oend (stp' s) (stl s) q (fun q2 => if rest W r < 0 then bad (4 + 8 * (q0 : Int)) else okc W q2)) := by
    intro m W q h hx
    have rb := rn_bd hx.1
    have rw' := wwr hx.1 hx.2.1
    have rr := rest_bd rw'
    have rl := hx.2.1
    have sz := rw'.2.1
    have es : rest W r = W (80 + 13 * r) - sm (stp W r) (su W r) := rfl
    refine r_end h hs (fun m1 f1 f2 f3 => ?_)
    dsimp only
    have k1 : RK m1 W := f3.1.1
    have st : f7_stepped m1 (ii r) = some (ii (sm (stp W r) (su W r))) := f7_stepped_ok (s := sset s W) k1 rw' (by omega)
    rw [st, bd_some, f7_ofResource_ok k1 (r := r) (by omega) (k := 1) (by omega) (j := 80 + 13 * r) (by omega) (i := 1) (by omega), bd_some, fails_ok, bd_some]
    unfold f7_readOffer_j174
    by_cases c : rest W r < 0
    · rw [if_pos c, if_pos (ilt (by omega) (by omega) (by omega)), if_pos rfl]
      exact Rout_n (m' := up2 m1 0 18 (ii (4 + 8 * (q0 : Int)))) rfl ((FL.rf m1).u (by omega) _).ps (f3.1.fl ((FL.rf m1).u (by omega) _)) (up2_at _ _ _ _)
    · rw [if_neg c, if_neg (inlt (by omega) (by omega) (by omega)), l1]
      exact Rout_y rfl (Frp.rf m1) f3
  intro d
  induction d with
  | zero =>
    intro n m W q hnp hdn h hx
    obtain ⟨k, rfl⟩ : ∃ k, n = k + 1 := ⟨n - 1, by omega⟩
    have A := h.at
    have rb := rn_bd hx.1
    have rl := hx.2.1
    have rw' := wwr hx.1 hx.2.1
    rw [f7_readOffer_l42, h.dig hs, bd_some]
    dsimp only
    unfold oOff
    rw [l0, l1, l3, l4, l6]
    by_cases c : isn (stp' s) (stl s) q
    · have k0 : RK (up2 m 0 17 (ii q)) W := A.1.1.1
      rw [if_pos c, if_pos c, if_pos (show stp W r = 3 by omega), if_neg (show ¬ ii 1 = ii 0 by decide), f7_stp k0 rw' (by omega) rfl, bd_some, if_pos (show ii (stp W r) = ii 3 from congrArg ii (by omega)), up2_at]
      exact r_fail A.1 A.2.ps 3 q
    · rw [if_neg c, if_neg c, if_pos rfl]
      exact (J _ W q A.1 hx).fr A.2.ps
  | succ d ih =>
    intro n m W q hnp hdn h hx
    obtain ⟨k, rfl⟩ : ∃ k, n = k + 1 := ⟨n - 1, by omega⟩
    have A := h.at
    have rb := rn_bd hx.1
    have rl := hx.2.1
    have rw' := wwr hx.1 hx.2.1
    have lb := lpr_bd rw'
    rw [f7_readOffer_l42, h.dig hs, bd_some]
    dsimp only
    unfold oOff
    rw [l0, l1, l2, l3, l4, l6, l13, l79, l500]
    by_cases c : isn (stp' s) (stl s) q
    · have k0 : RK (up2 m 0 17 (ii q)) W := A.1.1.1
      have J113 : ∀ (m2 : Mem) (q2 : Nat) (u x : Int), x = lpr W r → RP m2 s W q2 → m2 13 1 = ii u → 1 ≤ u ∧ u ≤ 500 → Rout (f7_readOffer_j113 (fun x1 x2 mm => f7_readOffer_l42 k x1 x2 mm) (ii q0) (ii r) (ii x) (ii 2) m2) m2 s (onum (stp' s) (stl s) q2 (lpr W r) 9999 (fun p q3 => oOff (stp' s) (stl s) r q0 (d + 1) (sadd W r u p) q3)) := by
        intro m2 q2 u x hx' h2 hu hub
        subst hx'
        unfold f7_readOffer_j113
        rw [l0, l9999]
        refine r_num h2 hs (n := 2) (by omega) (by omega) (by omega) (fun m3 g1 g2 g3 g4 g5 => ?_)
        dsimp only
        have k3 : RI m3 (sset s W) := g2.1
        obtain ⟨m4, i1, i2, i3⟩ := r_addStep (s := sset s W) k3 rw' (by omega) (show stp W r < 3 by omega) u (tnu (stp' s) (stl s) q2)
        have P := g2.mk1 (W' := sadd W r u (tnu (stp' s) (stl s) q2)) i2 i3
        have wx := WX_sadd hx (by omega) (u := u) (p := tnu (stp' s) (stl s) q2) hub (by omega)
        have np : stp (sadd W r u (tnu (stp' s) (stl s) q2)) r = stp W r + 1 := sadd_np
        have go := ih k m4 _ _ (by omega) (by omega) P.1 wx
        rw [l1, l2, rd13 m3 (k := 1) (by omega) (by omega), rd13 m3 (k := 2) (by omega) (by omega), g3 1 (by omega), hu, g4, i1, bd_some]
        exact go.fr P.2
      rw [if_pos c, if_pos c, if_neg (show ¬ stp W r = 3 by omega), if_neg (show ¬ ii 1 = ii 0 by decide), f7_stp k0 rw' (by omega) rfl, bd_some, if_neg (show ¬ ii (stp W r) = ii 3 from ine (by omega) (by omega) (by omega) (by omega) (by omega))]
      refine Rout.fr ?_ A.2.ps
      refine r_num A.1 hs (n := 1) (by omega) (by omega) (by omega) (fun m3 g1 g2 g3 g4 g5 => ?_)
      dsimp only
      have k3 : RK m3 W := g2.1.1
      by_cases e : stp W r = 0
      · rw [if_pos (show ii (stp W r) = ii 0 from congrArg ii (by omega))]
        exact J113 m3 _ _ 0 (by unfold lpr; rw [if_pos e]) g2 g4 g5
      · rw [if_neg (ine (by omega) (by omega) (by omega) (by omega) (by omega)), ii_mul, ii_mul, ii_add, ii_add, ii_add, rd1 k3 (k := 87 + 13 * r + 2 * (stp W r - 1)) (by omega) (by omega)]
        exact J113 m3 _ _ _ (by unfold lpr; rw [if_neg e]; rfl) g2 g4 g5
    · rw [if_neg c, if_neg c, if_pos rfl]
      exact (J _ W q A.1 hx).fr A.2.ps
theorem r_readOffer (h : RP mm s W (nxt s q)) (hs : SW s) (hw : WF W) : Rout (f7_readOffer mm (ii q)) mm s (oOffer (stp' s) (stl s) W q) := by
  have rb := hw.1.rn
  have rc := rn_c hw.1
  have k0 : RK mm W := h.1.1
  unfold f7_readOffer oOffer
  rw [l0, l1, rd1 k0 (k := 1) (by omega) (by omega), l6, l13, l79, ii_sub]
  refine r_num h hs (n := 0) (by omega) (by omega) (by omega) (fun m1 f1 f2 f3 f4 f5 => ?_)
  dsimp only
  rw [rd13 m1 (k := 0) (by omega) (by omega), f4]
  generalize tnu (stp' s) (stl s) (nxt s q) = x at f5 ⊢
  obtain ⟨r, rfl⟩ := Int.eq_ofNat_of_zero_le f5.1
  have hr : r < rn W := by omega
  have P := f2.w1 (85 + 13 * r) 0
  have np : stp (sdp W r) r = 0 := stp_sdp W r
  have go := r_off hs (r := r) (q0 := q) 3 FU _ (sdp W r) _ (by omega) (by unfold FU; omega) P.1 (WX_sdp hw hr)
  rw [ii_mul, ii_add, ii_add, wrq m1 lnR.1 (k := 85 + 13 * r) (by omega) (by omega) (by omega), Int.toNat_natCast]
  exact go.fr P.2
end
