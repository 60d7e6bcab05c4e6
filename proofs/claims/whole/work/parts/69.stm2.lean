/-! curve, offer, resource: statements, by the class -/
def oCrv (t : Nat → Int) (L z : Nat) : Nat → WM → Nat → OC
  | 0, _, _ => bad 0
  | n + 1, W, q => if isn t L q then (if npt W z = 4 then bad (3 + 8 * (q : Int)) else onum t L q (wan W z + 1) 2000 (fun u q2 => onum t L q2 0 (lst W z) (fun p q3 => oCrv t L z n (padd W z u p) q3))) else oend t L q (okc W)
def oCurve (t : Nat → Int) (L : Nat) (W : WM) (q : Nat) : OC := onum t L (skp t L (tnx t L q)) 0 (W 0 - 1) (fun z q2 => oCrv t L z.toNat 5 (pdrop W z.toNat) q2)
def oOff (t : Nat → Int) (L r q0 : Nat) : Nat → WM → Nat → OC
  | 0, _, _ => bad 0
  | n + 1, W, q => if isn t L q then (if stp W r = 3 then bad (3 + 8 * (q : Int)) else onum t L q 1 500 (fun u q2 => onum t L q2 (lpr W r) 9999 (fun p q3 => oOff t L r q0 n (sadd W r u p) q3))) else oend t L q (fun q2 => if rest W r < 0 then bad (4 + 8 * (q0 : Int)) else okc W q2)
def oOffer (t : Nat → Int) (L : Nat) (W : WM) (q : Nat) : OC := onum t L (skp t L (tnx t L q)) 0 (W 1 - 1) (fun r q2 => oOff t L r.toNat q 4 (sdp W r.toNat) q2)
def onx (t : Nat → Int) (L q a : Nat) : Nat := if rwv t L q = wdC a then skp t L (tnx t L q) else q
def ofl (t : Nat → Int) (L q a : Nat) : Int := if rwv t L q = wdC a then 1 else 0
def oRes (t : Nat → Int) (L : Nat) (W : WM) (q : Nat) : OC := if W 1 < 12 then onum t L (skp t L (tnx t L q)) 0 (W 0 - 1) (fun z q2 => onum t L q2 1 500 (fun sz q3 => onum t L q3 0 3 (fun kn q4 => onum t L q4 0 5 (fun ow q5 => oend t L (onx t L (onx t L q5 7) 8) (okc (radd W z sz kn ow (ofl t L q5 7) (ofl t L (onx t L q5 7) 8))))))) else bad (3 + 8 * (q : Int))
def WX (W : WM) (r : Nat) : Prop := WW W ∧ r < rn W ∧ ∀ k : Nat, k < W 1 → k ≠ r → 0 ≤ rest W k
theorem padd_np {W : WM} {z : Nat} {u p : Int} : npt (padd W z u p) z = npt W z + 1 := by
  have p10 : padd W z u p (10 + 12 * z) = (npt W z : Int) + 1 := by
    unfold padd up
    rw [if_pos rfl]
  unfold npt at p10 ⊢
  rw [p10]
  omega
theorem sadd_np {W : WM} {r : Nat} {u p : Int} : stp (sadd W r u p) r = stp W r + 1 := by
  have p85 : sadd W r u p (85 + 13 * r) = (stp W r : Int) + 1 := by
    unfold sadd up
    rw [if_pos rfl]
  unfold stp at p85 ⊢
  rw [p85]
  omega
theorem pdrop_np {W : WM} {z : Nat} : npt (pdrop W z) z = 0 := by
  have p10 : pdrop W z (10 + 12 * z) = 0 := up_eq W _ 0
  unfold npt
  rw [p10]
  rfl
theorem WX_sdp {W : WM} (hw : WF W) {r : Nat} (hr : r < rn W) : WX (sdp W r) r := by
  have w := sdp_WF hw hr
  refine ⟨w.1, ?_, fun k hk _ => w.2 k hk⟩
  have e1 : rn (sdp W r) = rn W := by unfold rn; rw [show sdp W r 1 = W 1 from up_ne _ _ (by omega)]
  rw [e1]; exact hr
theorem WX_sadd {W : WM} {r : Nat} (h : WX W r) (hn : stp W r < 3) {u p : Int} (hu : 1 ≤ u ∧ u ≤ 500) (hp : 0 ≤ p ∧ p ≤ 9999) : WX (sadd W r u p) r := by
  obtain ⟨h1, h2, h3⟩ := h
  have rc := rn_c h1
  have rb := h1.rn
  have q := sadd_RW (wwr h1 h2) hn hu hp
  have e1 : sadd W r u p 1 = W 1 := sadd_o (by omega) hn
  refine ⟨WW_r h1 h2 (fun j hj => sadd_o (by omega) hn) (sadd_rg h1 hn hu hp) q.1, by unfold rn; rw [e1]; exact h2, fun k hk hkr => ?_⟩
  rw [e1] at hk
  rw [rest_c (fun j a b => sadd_o (by omega) hn) (h1.r hk)]
  exact h3 k hk hkr
theorem WX_WF {W : WM} {r : Nat} (h : WX W r) (hr : ¬ rest W r < 0) : WF W := ⟨h.1, fun k hk => by
  by_cases e : k = r
  · rw [e]; omega
  · exact h.2.2 k hk e⟩
section
variable {mm : Mem} {t : Nat → Int} {L q a : Nat} {W : WM}
theorem Cout.bk {r : Option (Int32 × Mem)} {o : OC} (h : Cout r mm t L a o) : Cout (bd r (fun x => bok x.1 (some (x.1, x.2)))) mm t L a o := by
  refine ⟨fun x hx => ?_, fun hx => ?_⟩
  · obtain ⟨m', a1, a2⟩ := h.1 x hx
    refine ⟨m', ?_, a2⟩
    rw [a1, bd_some]
    exact bok_1 _
  · obtain ⟨m', a1, a2⟩ := h.2 hx
    refine ⟨m', ?_, a2⟩
    rw [a1, bd_some]
    exact bok_0 _
theorem c_crv {z : Nat} : ∀ (d n : Nat) (m : Mem) (W : WM) (q : Nat), npt W z + d = 4 → d + 1 < n → CP m t L W q → WF W → z < zn W → a ≤ q → Cout (f4_tellCurve_l41 n (ii z) (ii (npt W z)) m) m t L a (oCrv t L z (d + 1) W q) := by
  intro d
  induction d with
  | zero =>
    intro n m W q hnp hdn h hw hz ha
    obtain ⟨k, rfl⟩ : ∃ k, n = k + 1 := ⟨n - 1, by omega⟩
    have kb := tkd_b (t := t) (L := L) (q := q)
    rw [f4_tellCurve_l41, l4, if_neg (inlt (by omega) (by omega) (by omega)), h.2.1.2.2.1, h.2.1.2.1, l1, l3]
    unfold f4_tellCurve_j127 oCrv
    by_cases c : isn t L q
    · rw [if_pos c, if_pos (show npt W z = 4 by omega), if_pos (by rw [tkd_1.mpr c]), if_pos (show ii (npt W z) = ii 4 from congrArg ii (by omega)), blame_ok, bd_some, bok_0]
      exact Cout_n (m' := up2 m 73 2 (ii (3 + 8 * (q : Int)))) rfl ((F73.rf m).u 2 _).ps (up2_at _ _ _ _)
    · rw [if_neg c, if_neg (ine (fun x => c (tkd_1.mp x)) (by omega) (by omega) (by omega) (by omega))]
      exact c_fin h hw ha
  | succ d ih =>
    intro n m W q hnp hdn h hw hz ha
    obtain ⟨k, rfl⟩ : ∃ k, n = k + 1 := ⟨n - 1, by omega⟩
    have kb := tkd_b (t := t) (L := L) (q := q)
    have zb := zn_bd hw.1
    have zw := wwz hw.1 hz
    have wl := wan_le zw
    have lb := lst_bd zw
    rw [f4_tellCurve_l41, l4, if_neg (inlt (by omega) (by omega) (by omega)), h.2.1.2.2.1, h.2.1.2.1, l1, l3]
    unfold f4_tellCurve_j127 oCrv
    by_cases c : isn t L q
    · rw [if_pos c, if_neg (show ¬ npt W z = 4 by omega), if_pos (by rw [tkd_1.mpr c]), if_neg (ine (by omega) (by omega) (by omega) (by omega) (by omega)), f5_wanted_ok h.2.2.1 zw (by omega), bd_some, ii_add, l0, l2000]
      refine c_num h (by omega) (by omega) ha (fun m2 g1 g2 g3 g4 g5 => ?_)
      dsimp only
      have lp : f5_lastPrice m2 77 (ii z) = some (ii (lst W z)) := f5_lastPrice_ok g2.2.2.1 zw (by omega)
      rw [g3, nm_eq, lp, bd_some]
      refine c_num g2 (by omega) (by omega) g5 (fun m3 k1 k2 k3 k4 k5 => ?_)
      dsimp only
      obtain ⟨m4, i1, i2, i3⟩ := f5_addPoint_ok k2.2.2.1 zw (by omega) (by omega) (tnu t L q) (tnu t L (skp t L (dee t L q)))
      have P := k2.uz i1 i2 (padd_oj (by omega) (by omega))
      have wf := padd_WF hw hz (by omega) g4 k4
      have np : npt (padd W z (tnu t L q) (tnu t L (skp t L (dee t L q)))) z = npt W z + 1 := padd_np
      have go := ih k m4 _ _ (by omega) (by omega) P.1 wf (by unfold zn; rw [padd_o (by omega) (by omega)]; exact hz) k5
      rw [np] at go
      rw [k3, i3, bd_some, ii_add, nm_eq]
      exact go.fr P.2
    · rw [if_neg c, if_neg (ine (fun x => c (tkd_1.mp x)) (by omega) (by omega) (by omega) (by omega))]
      exact c_fin h hw ha
theorem c_tellCurve (h : CP mm t L W q) (hw : WF W) : Cout (f4_tellCurve mm) mm t L (skp t L (tnx t L q)) (oCurve t L W q) := by
  have zb := hw.1.zn
  have zc := zn_c hw.1
  unfold f4_tellCurve oCurve
  obtain ⟨m1, f1, f2, f3, f4⟩ := c_adv h
  rw [f1, bd_some, f4.2.2.1.n, l0, l1, ii_sub]
  refine Cout.fr ?_ f2.ps
  refine c_num f4 (by omega) (by omega) (Nat.le_refl _) (fun m2 g1 g2 g3 g4 g5 => ?_)
  dsimp only
  rw [g3, nm_eq]
  generalize tnu t L (skp t L (tnx t L q)) = x at g4 ⊢
  obtain ⟨z, rfl⟩ := Int.eq_ofNat_of_zero_le g4.1
  have hz : z < zn W := by omega
  have zw := wwz hw.1 hz
  obtain ⟨m3, i1, i2, i3⟩ := f5_dropPoints_ok g2.2.2.1 zw (by omega)
  have P := g2.uz i1 i2 (fun j hj => by have := oj_z hj; exact up_ne _ _ (by omega))
  have np : npt (pdrop W z) z = 0 := pdrop_np
  have go := c_crv (a := skp t L (tnx t L q)) (z := z) 4 FU m3 (pdrop W z) _ (by omega) (by unfold FU; omega) P.1 (pdrop_WF hw hz) (by unfold zn; rw [show pdrop W z 0 = W 0 from up_ne _ _ (by omega)]; exact hz) g5
  rw [np] at go
  rw [i3, bd_some, Int.toNat_natCast]
  exact go.fr P.2
theorem c_off {r q0 : Nat} : ∀ (d n : Nat) (m : Mem) (W : WM) (q : Nat), stp W r + d = 3 → d + 1 < n → CP m t L W q → WX W r → a ≤ q → Cout (f4_tellOffer_l47 n (ii q0) (ii r) (ii (stp W r)) m) m t L a (oOff t L r q0 (d + 1) W q) := by
  have J : ∀ (m : Mem) (W : WM) (q : Nat), CP m t L W q → WX W r → a ≤ q → Cout (f4_tellOffer_j131 (ii q0) (ii r) m) m t L a (oend t L q (fun q2 => if rest W r < 0 then bad (4 + 8 * (q0 : Int)) else okc W q2)) := by
    intro m W q h hx ha
    have rb := rn_bd hx.1
    have rw' := wwr hx.1 hx.2.1
    have rr := rest_bd rw'
    have rl := hx.2.1
    unfold f4_tellOffer_j131 f4_tellOffer_j157
    rw [l0, l1, l4]
    refine c_end h ha (fun m1 f1 f2 f3 => ?_)
    dsimp only
    rw [f2_rest_ok f2.2.2.2.1 rw' (by omega), bd_some, blame_ok, bd_some]
    by_cases c : rest W r < 0
    · rw [if_pos c, if_pos (ilt c (by omega) (by omega)), if_pos rfl]
      exact Cout_n (m' := up2 m1 73 2 (ii (4 + 8 * (q0 : Int)))) rfl ((F73.rf m1).u 2 _).ps (up2_at _ _ _ _)
    · rw [if_neg c, if_neg (inlt (by omega) (by omega) (by omega))]
      exact Cout_y rfl (Fps.rf m1) f2 (WX_WF hx c) f3
  intro d
  induction d with
  | zero =>
    intro n m W q hnp hdn h hx ha
    obtain ⟨k, rfl⟩ : ∃ k, n = k + 1 := ⟨n - 1, by omega⟩
    have kb := tkd_b (t := t) (L := L) (q := q)
    rw [f4_tellOffer_l47, l3, if_neg (inlt (by omega) (by omega) (by omega)), h.2.1.2.2.1, h.2.1.2.1, l1]
    unfold oOff
    by_cases c : isn t L q
    · rw [if_pos c, if_pos (show stp W r = 3 by omega), if_pos (by rw [tkd_1.mpr c]), if_pos (show ii (stp W r) = ii 3 from congrArg ii (by omega)), blame_ok, bd_some, bok_0]
      exact Cout_n (m' := up2 m 73 2 (ii (3 + 8 * (q : Int)))) rfl ((F73.rf m).u 2 _).ps (up2_at _ _ _ _)
    · rw [if_neg c, if_neg (ine (fun x => c (tkd_1.mp x)) (by omega) (by omega) (by omega) (by omega))]
      exact J m W q h hx ha
  | succ d ih =>
    intro n m W q hnp hdn h hx ha
    obtain ⟨k, rfl⟩ : ∃ k, n = k + 1 := ⟨n - 1, by omega⟩
    have kb := tkd_b (t := t) (L := L) (q := q)
    have rb := rn_bd hx.1
    have rl := hx.2.1
    have rw' := wwr hx.1 hx.2.1
    have lb := lpr_bd rw'
    rw [f4_tellOffer_l47, l3, if_neg (inlt (by omega) (by omega) (by omega)), h.2.1.2.2.1, h.2.1.2.1, l1]
    unfold oOff
    by_cases c : isn t L q
    · rw [if_pos c, if_neg (show ¬ stp W r = 3 by omega), if_pos (by rw [tkd_1.mpr c]), if_neg (ine (by omega) (by omega) (by omega) (by omega) (by omega)), l0, l500, l9999]
      refine c_num h (by omega) (by omega) ha (fun m2 g1 g2 g3 g4 g5 => ?_)
      dsimp only
      have lp : f2_lastPrice m2 84 (ii r) = some (ii (lpr W r)) := f2_lastPrice_ok g2.2.2.2.1 rw' (by omega)
      rw [g3, nm_eq, lp, bd_some]
      refine c_num g2 (by omega) (by omega) g5 (fun m3 k1 k2 k3 k4 k5 => ?_)
      dsimp only
      obtain ⟨m4, i1, i2, i3⟩ := f2_addStep_ok k2.2.2.2.1 rw' (by omega) (by omega) (tnu t L q) (tnu t L (skp t L (dee t L q)))
      have P := k2.uo i1 i2 (sadd_zj (by omega))
      have wx := WX_sadd hx (by omega) (u := tnu t L q) (p := tnu t L (skp t L (dee t L q))) g4 (by omega)
      have np : stp (sadd W r (tnu t L q) (tnu t L (skp t L (dee t L q)))) r = stp W r + 1 := sadd_np
      have go := ih k m4 _ _ (by omega) (by omega) P.1 wx k5
      rw [np] at go
      rw [k3, i3, bd_some, ii_add, nm_eq]
      exact go.fr P.2
    · rw [if_neg c, if_neg (ine (fun x => c (tkd_1.mp x)) (by omega) (by omega) (by omega) (by omega))]
      exact J m W q h hx ha
theorem c_tellOffer (h : CP mm t L W q) (hw : WF W) : Cout (f4_tellOffer mm) mm t L (skp t L (tnx t L q)) (oOffer t L W q) := by
  have rb := hw.1.rn
  have rc := rn_c hw.1
  unfold f4_tellOffer oOffer
  obtain ⟨m1, f1, f2, f3, f4⟩ := c_adv h
  rw [h.2.1.2.1, nm_eq, f1, bd_some, f4.2.2.2.1.n, l0, l1, ii_sub]
  refine Cout.fr ?_ f2.ps
  refine c_num f4 (by omega) (by omega) (Nat.le_refl _) (fun m2 g1 g2 g3 g4 g5 => ?_)
  dsimp only
  rw [g3, nm_eq]
  generalize tnu t L (skp t L (tnx t L q)) = x at g4 ⊢
  obtain ⟨r, rfl⟩ := Int.eq_ofNat_of_zero_le g4.1
  have hr : r < rn W := by omega
  have zw := wwr hw.1 hr
  obtain ⟨m3, i1, i2, i3⟩ := f2_dropSteps_ok g2.2.2.2.1 zw (by omega)
  have P := g2.uo i1 i2 (fun j hj => by have := zj_o hj; exact up_ne _ _ (by omega))
  have np : stp (sdp W r) r = 0 := stp_sdp W r
  have go := c_off (a := skp t L (tnx t L q)) (r := r) (q0 := q) 3 FU m3 (sdp W r) _ (by omega) (by unfold FU; omega) P.1 (WX_sdp hw hr) g5
  rw [np] at go
  rw [i3, bd_some, Int.toNat_natCast]
  exact go.fr P.2
theorem c_takeWord (h : CP mm t L W q) {w : Nat} (hw : w < 9) (ha : a ≤ q) : ∃ m', f4_takeWord mm (1000 + w) = some (ii (ofl t L q w), m') ∧ F73 mm m' ∧ CP m' t L W (onx t L q w) ∧ a ≤ onx t L q w := by
  have n := nxt_le (t := t) h.le
  unfold f4_takeWord ofl onx
  rw [f4_isWord_ok h.1 h.2.1 hw, bd_some, l0, l1]
  by_cases c : rwv t L q = wdC w
  · obtain ⟨m', f1, f2, f3, f4⟩ := c_adv h
    rw [if_pos c, if_pos c, if_neg (show ¬ ii 1 = ii 0 by decide), f1, bd_some]
    exact ⟨m', rfl, f2, f4, by omega⟩
  · rw [if_neg c, if_neg c, if_pos rfl]
    exact ⟨mm, rfl, F73.rf mm, h, ha⟩
theorem ofl_01 (t : Nat → Int) (L q w : Nat) : ofl t L q w = 0 ∨ ofl t L q w = 1 := by
  unfold ofl
  by_cases c : rwv t L q = wdC w
  · rw [if_pos c]; exact Or.inr rfl
  · rw [if_neg c]; exact Or.inl rfl
theorem c_tellResource (h : CP mm t L W q) (hw : WF W) : Cout (f4_tellResource mm) mm t L (skp t L (tnx t L q)) (oRes t L W q) := by
  have zb := hw.1.zn
  have zc := zn_c hw.1
  have rb := hw.1.rn
  have rc := rn_c hw.1
  unfold f4_tellResource oRes
  rw [h.2.2.2.1.n, l12, l3, h.2.1.2.1, blame_ok, bd_some, bok_0]
  by_cases c : W 1 < 12
  · rw [if_pos c, if_pos (ilt c (by omega) (by omega))]
    obtain ⟨m1, f1, f2, f3, f4⟩ := c_adv h
    rw [f1, bd_some, f4.2.2.1.n, l0, l1, l5, l500, ii_sub]
    refine Cout.fr ?_ f2.ps
    refine c_num f4 (by omega) (by omega) (Nat.le_refl _) (fun m2 g1 g2 g3 g4 g5 => ?_)
    dsimp only
    rw [g3, nm_eq]
    refine c_num g2 (by omega) (by omega) g5 (fun m3 k1 k2 k3 k4 k5 => ?_)
    dsimp only
    rw [k3, nm_eq]
    refine c_num k2 (by omega) (by omega) k5 (fun m4 j1 j2 j3 j4 j5 => ?_)
    dsimp only
    rw [j3, nm_eq]
    refine c_num j2 (by omega) (by omega) j5 (fun m5 i1 i2 i3 i4 i5 => ?_)
    dsimp only
    generalize tnu t L (skp t L (tnx t L q)) = x1 at g4 ⊢
    generalize tnu t L (skp t L (dee t L (skp t L (tnx t L q)))) = x2 at k4 ⊢
    generalize tnu t L (skp t L (dee t L (skp t L (dee t L (skp t L (tnx t L q)))))) = x3 at j4 ⊢
    generalize skp t L (dee t L (skp t L (dee t L (skp t L (dee t L (skp t L (tnx t L q))))))) = q4 at i2 i3 i4 i5 ⊢
    rw [i3, nm_eq]
    obtain ⟨m6, o1, o2, o3, o4⟩ := c_takeWord i2 (w := 7) (by omega) i5
    obtain ⟨m7, p1, p2, p3, p4⟩ := c_takeWord o3 (w := 8) (by omega) o4
    have o1 : f4_takeWord m5 1007 = _ := o1
    have p1 : f4_takeWord m6 1008 = _ := p1
    obtain ⟨m8, s1, s2, s3⟩ := f2_add_ok p3.2.2.2.1 hw.1 (by omega) x1 x2 x3 (tnu t L q4) (ofl_01 t L (skp t L (dee t L q4)) 7) (ofl_01 t L (onx t L (skp t L (dee t L q4)) 7) 8)
    have P := p3.uo s1 s2 radd_zj
    rw [o1, bd_some, p1, bd_some]
    dsimp only
    rw [s3, bd_some]
    exact (c_fin P.1 (radd_WF hw (by omega) (by omega) k4 j4 i4 (ofl_01 _ _ _ _) (ofl_01 _ _ _ _)) p4).fr ((o2.ps.tr p2.ps).tr P.2)
  · rw [if_neg c, if_neg (inlt (by omega) (by omega) (by omega))]
    exact Cout_n (m' := up2 mm 73 2 (ii (3 + 8 * (q : Int)))) rfl ((F73.rf mm).u 2 _).ps (up2_at _ _ _ _)
/-! a statement -/
def oStm (t : Nat → Int) (L : Nat) (W : WM) (q : Nat) : OC := if rwv t L q = wdC 0 then oZone t L W q else if rwv t L q = wdC 1 then oCurve t L W q else if rwv t L q = wdC 2 then oRes t L W q else if rwv t L q = wdC 3 then oOffer t L W q else if rwv t L q = wdC 4 then oFloor t L W q else if rwv t L q = wdC 5 then oCeil t L W q else if rwv t L q = wdC 6 then oLim t L W q else bad (1 + 8 * (q : Int))
theorem c_statement (h : CP mm t L W q) (hw : WF W) : Cout (f4_tellStatement mm) mm t L (skp t L (tnx t L q)) (oStm t L W q) := by
  have w : ∀ k, k < 9 → f4_isWord mm (1000 + k) = some (ii (if rwv t L q = wdC k then 1 else 0)) := fun k hk => f4_isWord_ok h.1 h.2.1 hk
  have w0 : f4_isWord mm 1000 = _ := w 0 (by omega)
  have w1 : f4_isWord mm 1001 = _ := w 1 (by omega)
  have w2 : f4_isWord mm 1002 = _ := w 2 (by omega)
  have w3 : f4_isWord mm 1003 = _ := w 3 (by omega)
  have w4 : f4_isWord mm 1004 = _ := w 4 (by omega)
  have w5 : f4_isWord mm 1005 = _ := w 5 (by omega)
  have w6 : f4_isWord mm 1006 = _ := w 6 (by omega)
  unfold f4_tellStatement oStm
  rw [w0, bd_some, w1, bd_some, w2, bd_some, w3, bd_some, w4, bd_some, w5, bd_some, w6, bd_some, l0, l1, h.2.1.2.1, blame_ok, bd_some, bok_0]
  have n1 : ¬ ii 1 = ii 0 := by decide
  by_cases c0 : rwv t L q = wdC 0
  · rw [if_pos c0, if_pos c0, if_neg n1]; exact (c_tellZone h hw).bk
  · rw [if_neg c0, if_neg c0, if_pos rfl]
    by_cases c1 : rwv t L q = wdC 1
    · rw [if_pos c1, if_pos c1, if_neg n1]; exact (c_tellCurve h hw).bk
    · rw [if_neg c1, if_neg c1, if_pos rfl]
      by_cases c2 : rwv t L q = wdC 2
      · rw [if_pos c2, if_pos c2, if_neg n1]; exact (c_tellResource h hw).bk
      · rw [if_neg c2, if_neg c2, if_pos rfl]
        by_cases c3 : rwv t L q = wdC 3
        · rw [if_pos c3, if_pos c3, if_neg n1]; exact (c_tellOffer h hw).bk
        · rw [if_neg c3, if_neg c3, if_pos rfl]
          by_cases c4 : rwv t L q = wdC 4
          · rw [if_pos c4, if_pos c4, if_neg n1]; exact (c_tellFloor h hw).bk
          · rw [if_neg c4, if_neg c4, if_pos rfl]
            by_cases c5 : rwv t L q = wdC 5
            · rw [if_pos c5, if_pos c5, if_neg n1]; exact (c_tellCeiling h hw).bk
            · rw [if_neg c5, if_neg c5, if_pos rfl]
              by_cases c6 : rwv t L q = wdC 6
              · rw [if_pos c6, if_pos c6, if_neg n1]; exact (c_tellLimits h hw).bk
              · rw [if_neg c6, if_neg c6, if_pos rfl]
                exact Cout_n (m' := up2 mm 73 2 (ii (1 + 8 * (q : Int)))) rfl ((F73.rf mm).u 2 _).ps (up2_at _ _ _ _)
end
