/-! zone, ceiling, floor, limits: statements -/
def oZone (t : Nat → Int) (L : Nat) (W : WM) (q : Nat) : OC := if W 0 < 6 then onum t L (skp t L (tnx t L q)) 0 (W 0 - 1) (fun a q2 => onum t L q2 0 9999 (fun b q3 => onum t L q3 0 9999 (fun c q4 => oend t L q4 (okc (zoa W a b c))))) else bad (3 + 8 * (q : Int))
def oCeil (t : Nat → Int) (L : Nat) (W : WM) (q : Nat) : OC := onum t L (skp t L (tnx t L q)) 0 9999 (fun a q2 => oend t L q2 (okc (up W 2 a)))
def oFloor (t : Nat → Int) (L : Nat) (W : WM) (q : Nat) : OC := onum t L (skp t L (tnx t L q)) 0 3 (fun a q2 => onum t L q2 0 9999 (fun b q3 => oend t L q3 (okc (up W (3 + a.toNat) b))))
def oLim (t : Nat → Int) (L : Nat) (W : WM) (q : Nat) : OC := onum t L (skp t L (tnx t L q)) 1 (W 0 - 1) (fun a q2 => onum t L q2 0 9999 (fun b q3 => onum t L q3 0 9999 (fun c q4 => oend t L q4 (okc (up (up W (8 + 12 * a.toNat) b) (9 + 12 * a.toNat) c)))))
section
variable {mm : Mem} {t : Nat → Int} {L q : Nat} {W : WM} {s : ST}
theorem nxt_le (h : q ≤ L) : q ≤ skp t L (tnx t L q) ∧ (q < L → q + 1 ≤ skp t L (tnx t L q)) := by
  have a := tnx_le (t := t) h
  have b := skp_le (t := t) a.2.1
  exact ⟨by omega, fun x => by have := a.2.2 x; omega⟩
theorem zoa_oj {a b c : Int} (hn : zn W < 6) : ∀ j, oj j = true → zoa W a b c j = W j := fun j hj => by
  have := oj_z hj
  exact zoa_o (by omega) (by omega)
theorem c_tellZone (h : CP mm t L W q) (hw : WF W) : Cout (f4_tellZone mm) mm t L (skp t L (tnx t L q)) (oZone t L W q) := by
  have zb := hw.1.zn
  have zc := zn_c hw.1
  unfold f4_tellZone oZone
  rw [h.2.2.1.n, l6, l3, h.2.1.2.1, blame_ok, bd_some, bok_0]
  by_cases c : W 0 < 6
  · rw [if_pos c, if_pos (ilt c (by omega) (by omega))]
    obtain ⟨m1, f1, f2, f3, f4⟩ := c_adv h
    rw [f1, bd_some, f4.2.2.1.n, l0, l1, l9999, ii_sub]
    refine Cout.fr ?_ f2.ps
    refine c_num f4 (by omega) (by omega) (Nat.le_refl _) (fun m2 g1 g2 g3 g4 g5 => ?_)
    dsimp only
    rw [g3, nm_eq]
    refine c_num g2 (by omega) (by omega) g5 (fun m3 k1 k2 k3 k4 k5 => ?_)
    dsimp only
    rw [k3, nm_eq]
    refine c_num k2 (by omega) (by omega) k5 (fun m4 j1 j2 j3 j4 j5 => ?_)
    dsimp only
    obtain ⟨m5, i1, i2, i3⟩ := f5_add_ok j2.2.2.1 hw.1 (by omega) (tnu t L (skp t L (tnx t L q))) (tnu t L (skp t L (dee t L (skp t L (tnx t L q))))) (tnu t L (skp t L (dee t L (skp t L (dee t L (skp t L (tnx t L q)))))))
    rw [j3, i3, bd_some]
    have P := j2.uz i1 i2 (zoa_oj (by omega))
    exact (c_fin P.1 (zoa_WF hw (by omega) (by omega) k4 j4) j5).fr P.2
  · rw [if_neg c, if_neg (inlt (by omega) (by omega) (by omega))]
    exact Cout_n (m' := up2 mm 73 2 (ii (3 + 8 * (q : Int)))) rfl ((F73.rf mm).u 2 _).ps (up2_at _ _ _ _)
theorem c_tellCeiling (h : CP mm t L W q) (hw : WF W) : Cout (f4_tellCeiling mm) mm t L (skp t L (tnx t L q)) (oCeil t L W q) := by
  unfold f4_tellCeiling oCeil
  obtain ⟨m1, f1, f2, f3, f4⟩ := c_adv h
  rw [f1, bd_some, l0, l9999]
  refine Cout.fr ?_ f2.ps
  refine c_num f4 (by omega) (by omega) (Nat.le_refl _) (fun m2 g1 g2 g3 g4 g5 => ?_)
  dsimp only
  have o := ok_up g2.2.2.2.1 (j := 2) (c := 0) (s := 1) rfl rfl (tnu t L (skp t L (tnx t L q)))
  have P := g2.uo ((FrO.rf 84 m2).u (c := 0) (by omega) 1 (ii (tnu t L (skp t L (tnx t L q))))) o (fun j hj => by have := zj_o hj; exact up_ne _ _ (by omega))
  rw [g3, nm_eq]
  exact (c_fin P.1 (WF_hd hw (by omega) g4) g5).fr P.2
theorem c_tellFloor (h : CP mm t L W q) (hw : WF W) : Cout (f4_tellFloor mm) mm t L (skp t L (tnx t L q)) (oFloor t L W q) := by
  unfold f4_tellFloor oFloor
  obtain ⟨m1, f1, f2, f3, f4⟩ := c_adv h
  rw [f1, bd_some, l0, l3, l9999]
  refine Cout.fr ?_ f2.ps
  refine c_num f4 (by omega) (by omega) (Nat.le_refl _) (fun m2 g1 g2 g3 g4 g5 => ?_)
  dsimp only
  rw [g3, nm_eq]
  refine c_num g2 (by omega) (by omega) g5 (fun m3 k1 k2 k3 k4 k5 => ?_)
  dsimp only
  generalize tnu t L (skp t L (tnx t L q)) = a at g4 ⊢
  generalize tnu t L (skp t L (dee t L (skp t L (tnx t L q)))) = b at k3 k4 ⊢
  obtain ⟨k, rfl⟩ := Int.eq_ofNat_of_zero_le g4.1
  have cf := cof_f k (by omega)
  have o := ok_up k2.2.2.2.1 cf.1 cf.2 b
  have P := k2.uo ((FrO.rf 84 m3).u (c := 1) (by omega) k (ii b)) o (fun j hj => by have := zj_o hj; exact up_ne _ _ (by omega))
  rw [k3, put_i m3 (q := 85) (n := 4) (by decide) (by omega) (by omega), bd_some, Int.toNat_natCast]
  exact (c_fin P.1 (WF_hd hw (by omega) k4) k5).fr P.2
theorem c_tellLimits (h : CP mm t L W q) (hw : WF W) : Cout (f4_tellLimits mm) mm t L (skp t L (tnx t L q)) (oLim t L W q) := by
  have zb := hw.1.zn
  have zc := zn_c hw.1
  unfold f4_tellLimits oLim
  obtain ⟨m1, f1, f2, f3, f4⟩ := c_adv h
  rw [f1, bd_some, f4.2.2.1.n, l0, l1, l9999, ii_sub]
  refine Cout.fr ?_ f2.ps
  refine c_num f4 (by omega) (by omega) (Nat.le_refl _) (fun m2 g1 g2 g3 g4 g5 => ?_)
  dsimp only
  rw [g3, nm_eq]
  refine c_num g2 (by omega) (by omega) g5 (fun m3 k1 k2 k3 k4 k5 => ?_)
  dsimp only
  generalize tnu t L (skp t L (tnx t L q)) = a at g4 ⊢
  generalize tnu t L (skp t L (dee t L (skp t L (tnx t L q)))) = b at k3 k4 ⊢
  obtain ⟨z, rfl⟩ := Int.eq_ofNat_of_zero_le (show 0 ≤ a by omega)
  have cf := cz_o z (by omega)
  have o := zk_up k2.2.2.1 cf.2.1 cf.2.2.2.2.2.1 b
  have P := k2.uz ((FrZ.rf 77 m3).u (c := 2) (by omega) z (ii b)) o (fun j hj => by have := oj_z hj; exact up_ne _ _ (by omega))
  rw [k3, put_i m3 (q := 79) (n := 6) (by decide) (by omega) (by omega), bd_some, Int.toNat_natCast]
  refine Cout.fr ?_ P.2
  refine c_num P.1 (by omega) (by omega) k5 (fun m4 j1 j2 j3 j4 j5 => ?_)
  dsimp only
  have o2 := zk_up j2.2.2.1 cf.2.2.1 cf.2.2.2.2.2.2.1 (tnu t L (skp t L (dee t L (skp t L (dee t L (skp t L (tnx t L q)))))))
  have P2 := j2.uz ((FrZ.rf 77 m4).u (c := 3) (by omega) z (ii (tnu t L (skp t L (dee t L (skp t L (dee t L (skp t L (tnx t L q))))))))) o2 (fun j hj => by have := oj_z hj; exact up_ne _ _ (by omega))
  rw [j3, put_i m4 (q := 80) (n := 6) (by decide) (by omega) (by omega), bd_some]
  have w1 : WF (up W (8 + 12 * z) b) := WF_lim hw (z := z) (by omega) (Or.inl rfl) k4
  have w2 := WF_lim w1 (z := z) (by unfold zn; rw [up_ne _ _ (by omega)]; omega) (j := 9 + 12 * z) (Or.inr rfl) j4
  exact (c_fin P2.1 w2 j5).fr P2.2
end
