/-! the law's changes, and what is checked after each -/
abbrev prF : Int32 × AS → AS := fun x => x.2
section
variable {A A1 A2 A0 : AS} {dm m1 m2 dm0 : DM} {J J' : Nat → Nat} {M M' : WM} {s : ST} {mm m' : Mem} {o d q : Nat} {B1 B2 : Int}
/-- levels and clearing are checked -/
theorem go_two {β : Type} {pr : β → AS} {P : β → Prop} {bad bad2 : Option β} {t : Mem → AS → DM → Option β} (hI : DI o d q B1 B2 A dm mm J s) (hS : Sml (sM s)) (hk : ∀ (A' : AS) (dm' : DM) (m' : Mem), DI o d q (B1 + 9343) (B2 + 264339) A' dm' m' J s → Go (t m' A' dm') pr A' P) : Go (bdg pr A (bL_areLevels mm A dm o q d) (fun (x : Int32 × Mem × AS × DM) => x.2.2.1) (fun r50 => if r50.1 = 0 then bad else bdg pr r50.2.2.1 (bL_isCleared r50.2.1 r50.2.2.1 r50.2.2.2 o q) (fun (x : Int32 × Mem × AS × DM) => x.2.2.1) (fun r51 => if r51.1 = 0 then bad2 else t r51.2.1 r51.2.2.1 r51.2.2.2))) pr A P := by
  obtain ⟨hX, hSe, hs, hC, hD, hJ, ho, b1, b2⟩ := hI
  subst hJ
  subst ho
  have hn1 : ¬ (ii 1 : Int32) = 0 := by decide
  refine Go.call (areLevels_ok hX.r hs rfl hS hC hD) (fun x hx9 _ => ?_)
  obtain ⟨g1, g2, g3, g4, g5⟩ := hx9
  rw [g1, if_neg hn1, show A.2.2.2 = x.2.2.1.2.2.2 from g2.2.1.symm]
  have hX2 := hX.k7 g2
  refine Go.call (isCleared_ok hX2.r hs rfl hS g4) (fun y hy9 _ => ?_)
  obtain ⟨j1, j2, j3, j4, j5⟩ := hy9
  rw [j1, if_neg hn1]
  refine hk y.2.2.1 y.2.2.2 y.2.1 ⟨j2.tox, (hSe.mo g2.1.1).mo j3.1.1, hs, j4, ⟨j3.kd g3.1, by rw [j3.v g3.1 (by decide)]; exact g3.2⟩, rfl, j3.2.1.trans g2.2.1, ?_, ?_⟩
  · have := g5.1; have := j5.1
    omega
  · have := g5.2; have := j5.2
    omega
/-- a point put down in the law's own market -/
theorem pt_add {β : Type} {pr : β → AS} {P : β → Prop} {t : AS → DM → Option β} {z : Nat} {u p : Int} (hX : MkX 0 A dm J M (zn M) (zn M) (rn M) (rn M) (npt M) (stp M)) (hW : WF M) (hS : Sep A J) (hJ : J 0 = q) (hz : z < zn M) (hn : npt M z < 4) (hD : DrR A dm d)
    (hk : ∀ (A' : AS) (dm' : DM) (J' : Nat → Nat), MkX 0 A' dm' J' (padd M z u p) (zn (padd M z u p)) (zn (padd M z u p)) (rn (padd M z u p)) (rn (padd M z u p)) (npt (padd M z u p)) (stp (padd M z u p)) → Sep A' J' → J' 0 = q → DrR A' dm' d → A'.2.2.2 = A.2.2.2 → cst A A' 2 12 → Go (t A' dm') pr A' P) :
    Go (gkd A q 8 (gtr (dm q 1) (fun q34 => gkd A q34 9 (bd (bAL_get A dm q34 (ii (z : Int))) (fun r35 => gkd A r35 9 (gnn (ii 2) (alc pr A dm 20 (ii 2).toNatClampNeg (ii 2).toNatClampNeg (fun _ => .int (ii 0)) (fun q36 A37 m38 => gkd A37 q36 20 (gix A37 q36 (ii 0) (nm (up3 m38 q36 (ii 0).toNatClampNeg (.int (ii u))) (fun m39 => gkd A37 q36 20 (gix A37 q36 (ii 1) (nm (up3 m39 q36 (ii 1).toNatClampNeg (.int (ii p))) (fun m40 => gkd A37 r35 9 (bdg pr A37 (bAL_add A37 m40 r35 q36) (fun (x : Int32 × AS × DM) => x.2.1) (fun r41 => t r41.2.1 r41.2.2)))))))))))))))) pr A P := by
  have zb := hW.1.zn
  have zc := zn_c hW.1
  have rb := hW.1.rn
  have rc := rn_c hW.1
  obtain ⟨ob1, -, ob2, -⟩ := hX.ob hJ
  have hl := hX.2.2.2.1 (by omega)
  have hc := hX.2.2.2.2.2.2.2.2.1 z hz (by omega)
  rw [gkd_i ob1, gtr_i ob2, gkd_i hl.1, bAL_get_ok hl rfl hz, bd_some, gkd_i hc.1, gnn_i (by omega) (by omega), show (ii 2).toNatClampNeg = 2 by decide]
  refine go_alc ?_
  have x1 := ext_nw A dm 20 2 2 (fun _ => .int (ii 0))
  have r1 := NR_new0 A dm 2 (by decide)
  have c1 := cst_nw A 20 2 2
  have s1 : (nw A 20 2 2).1 = A.1 + 1 := rfl
  generalize nw A 20 2 2 = A1 at x1 r1 c1 s1 ⊢
  generalize nwm A dm (fun _ => Value.int (ii 0)) = m1 at x1 r1 ⊢
  rw [r1.wr (a := 0) (i := 0) rfl (by omega), (r1.up 0 u).wr (a := 1) (i := 1) rfl (by omega)]
  have x2 := (x1.up (c := A.1 + 1) (by omega) 0 (.int (ii u))).up (c := A.1 + 1) (by omega) 1 (.int (ii p))
  have r2 := (r1.up 0 u).up 1 p
  generalize up3 (up3 m1 (A.1 + 1) 0 (.int (ii u))) (A.1 + 1) 1 (.int (ii p)) = m2 at x2 r2 ⊢
  have hX1 := hX.ext x2
  have hX2 : MkX 0 A1 m2 J (padd M z u p) (zn M) (zn M) (rn M) (rn M) (npt M) (stp (padd M z u p)) := by
    refine (hX1.cm (padd_o (by omega) hn) (fun _ k hk => padd_o (by omega) hn) (fun y hy _ i hi => zrw_cg (fun j g1 g2 => padd_e (by omega) (by omega) (by omega)) hi) (fun y hy k hk i hi => ptr_cg (fun j g1 g2 => ?_) hi) (fun r hr _ i hi => rrw_cg (fun j g1 g2 => padd_o (by omega) hn) hi) (fun r hr k hk i hi => str_cg (fun j g1 g2 => padd_o (by omega) hn) hi)).cn (fun z hz => rfl) (fun r hr => ?_)
    · have := npt_le (wwz hW.1 hy)
      by_cases e9 : y = z
      · subst e9
        exact padd_e (by omega) (by omega) (by omega)
      · exact padd_e (by omega) (by omega) (by omega)
    · unfold stp
      rw [padd_o (by omega) hn]
  have hrow : NR A1 m2 (A.1 + 1) 2 (ptr (padd M z u p) z (npt M z)) := r2.cg (fun i hi => by
    obtain ⟨t0, t1⟩ := padd_p (M := M) (z := z) (u := u) (p := p) hn
    rcases (show i = 0 ∨ i = 1 by omega) with rfl | rfl
    · rw [t0]; rfl
    · rw [t1]; rfl)
  rw [gkd_i (hX2.2.2.2.2.2.2.2.2.1 z hz (by omega)).1]
  refine Go.call (g_point (np' := npt (padd M z u p)) (hS.mo (A1 := A1) (by omega)) hX2 hz padd_n (fun y hy => padd_n2 hn hy) (by omega) hrow (fun i => by have := hS.1 i; omega)) (fun x hx9 _ => ?_)
  obtain ⟨-, J1, hX3, hS3, j1, j1e, xl1, cs1⟩ := hx9
  obtain ⟨k1, k2⟩ := padd_zr (M := M) (z := z) (u := u) (p := p) hn
  refine hk x.2.1 x.2.2 J1 ?_ hS3 ((j1 0 (by omega) (by omega)).trans hJ) ((hD.ext x2).el xl1) (xl1.2.1.trans x1.2.1) ((c1.tr cs1).mo (by omega) (by omega))
  rw [k1, k2]
  exact hX3
theorem law451 {k53 : Int32 → Mem → AS → DM → Option (Int32 × AS)} {k126 : Int32 → Nat → Nat → Nat → Int32 → Mem → AS → DM → Option (Int32 × AS)} {L : Nat} {xs : Nat → Int32} {FA : AS} {x2 : Int32} {i : Int} {P : Int32 × AS → Prop} (hI : DI o d q B1 B2 A dm mm J s) (hS : Sml (sM s))
    (hk : ∀ (A' : AS) (dm' : DM) (m' : Mem), DI o d q (B1 + 9343) (B2 + 264339) A' dm' m' J s → Go (k126 x2 d o q (ii (i + 1)) m' A' dm') prF A' P) : Go (bL_law_j451 k53 k126 L xs FA x2 d o q (ii i) mm A dm) prF A P := by
  unfold bL_law_j451
  refine go_two hI hS (t := fun m' A' dm' => nm (ii i + 1) (fun v52 => k126 x2 d o q v52 m' A' dm')) (fun A' dm' m' hI' => ?_)
  rw [nm_eq, l1, ii_add]
  exact hk A' dm' m' hI'
theorem plc_23 {z : Nat} {b v : Int} (hb : b = 0 ∨ b = 1) (h1 : 1 ≤ z) (h2 : (z : Int) < M 0) (hv : 0 ≤ v ∧ v ≤ 9999) : plc M (2 + b) (z : Int) v = ((8 + b.toNat + 12 * z : Nat) : Int) := by
  unfold plc
  rw [if_pos hv, if_neg (by omega), if_neg (by omega)]
  rcases hb with rfl | rfl
  · rw [if_pos (by omega), if_pos (by omega)]
    show (8 : Int) + 12 * z = ((8 + 0 + 12 * z : Nat) : Int)
    omega
  · rw [if_neg (by omega), if_pos (by omega), if_pos (by omega)]
    show (9 : Int) + 12 * z = ((8 + 1 + 12 * z : Nat) : Int)
    omega
theorem wan_lim {z y : Nat} {j : Nat} {v : Int} (hj : j = 8 + 12 * z ∨ j = 9 + 12 * z) (hw : ZW M y) : wan (up M j v) y = wan M y := by
  have hnp := npt_le hw
  have e1 : npt (up M j v) y = npt M y := by
    unfold npt
    rw [up_ne _ _ (by omega)]
  unfold wan
  rw [e1]
  by_cases c : npt M y = 0
  · rw [if_pos c, if_pos c]
  · rw [if_neg c, if_neg c]
    unfold pu
    rw [up_ne _ _ (by omega)]
/-- a limit is changed -/
theorem law180 {k53 : Int32 → Mem → AS → DM → Option (Int32 × AS)} {k126 : Int32 → Nat → Nat → Nat → Int32 → Mem → AS → DM → Option (Int32 × AS)} {L : Nat} {xs : Nat → Int32} {FA : AS} {x2 : Int32} {i b v : Int} {z : Nat} {P : Int32 × AS → Prop} (hI : DI o d q B1 B2 A dm mm J s) (hS : Sml (sM s)) (hb : b = 0 ∨ b = 1) (h1 : 1 ≤ z) (hz : z < zn (sM s)) (hv : 0 ≤ v ∧ v < 100)
    (hk : ∀ (A' : AS) (dm' : DM) (m' : Mem) (s' : ST), DI o d q (B1 + 9343) (B2 + 264339) A' dm' m' J s' → Sml (sM s') → Go (k126 x2 d o q (ii (i + 1)) m' A' dm') prF A' P) : Go (bL_law_j180 k53 k126 L xs FA x2 d o q (ii i) (ii (z : Int)) (ii v) (ii b) mm A dm) prF A P := by
  have hW := hI.2.2.1.1
  have zb := hW.1.zn
  have zc := zn_c hW.1
  have rc := rn_c hW.1
  have rb := hW.1.rn
  have hw := wwz hW.1 hz
  have hb1 := hw.2.1
  have hb2 := hw.2.2.1
  obtain ⟨ob1, ob2, -⟩ := hI.1.ob hI.2.2.2.2.2.1
  have hl := hI.1.2.2.1 (by omega)
  have hrow := hI.1.2.2.2.2.2.2.2.1 z hz (by omega)
  have ho := hI.2.2.2.2.2.2.1
  obtain ⟨mx, g1, g2, g3⟩ := c_set_y hI.2.2.2.1 hI.2.2.1 (a := 2 + b) (k := (z : Int)) (v := v) (by omega) (by omega) (by omega) (by omega) (by omega) (by omega) (j := 8 + b.toNat + 12 * z) (plc_23 hb h1 (by omega) (by omega))
  have hvz : zrw (sM s) z (1 + b.toNat) = sM s (8 + b.toNat + 12 * z) := by
    rcases hb with rfl | rfl
    · show sM s (8 + 12 * z) = sM s (8 + 0 + 12 * z)
      congr 1
    · show sM s (9 + 12 * z) = sM s (8 + 1 + 12 * z)
      congr 1
  have hvb : -2147483648 ≤ zrw (sM s) z (1 + b.toNat) ∧ zrw (sM s) z (1 + b.toNat) < 2147483648 := by
    rw [hvz]
    exact hW.1.rg _
  have hj : 8 + b.toNat + 12 * z = 8 + 12 * z ∨ 8 + b.toNat + 12 * z = 9 + 12 * z := by omega
  have hX : MkX 0 A (up3 dm (J (10 + z)) (1 + b.toNat) (.int (ii v))) J (up (sM s) (8 + b.toNat + 12 * z) v) (zn (sM s)) (zn (sM s)) (rn (sM s)) (rn (sM s)) (npt (sM s)) (stp (sM s)) := by
    refine g_zrow hI.2.1 hI.1 hz (up_ne _ _ (by omega)) (fun k hk => up_ne _ _ (by omega)) (fun y hy i hi => ?_) (fun y hy k hk i hi => ptr_cg (fun j a c => up_ne _ _ (by have := npt_le (wwz hW.1 hy); omega)) hi) (fun y hy i hi => rrw_cg (fun j a c => up_ne _ _ (by omega)) hi) (fun y hy k hk i hi => str_cg (fun j a c => up_ne _ _ (by omega)) hi)
    have e9 : ∀ (N : WM), zrw N y i = N (7 + i + 12 * y) := fun N => by
      rcases (show i = 0 ∨ i = 1 ∨ i = 2 by omega) with rfl | rfl | rfl
      · rfl
      · show N (8 + 12 * y) = N (7 + 1 + 12 * y)
        congr 1
      · show N (9 + 12 * y) = N (7 + 2 + 12 * y)
        congr 1
    rw [e9, e9]
    unfold up
    by_cases e8 : y = z ∧ i = 1 + b.toNat
    · rw [if_pos e8, if_pos (by omega)]
    · rw [if_neg e8, if_neg (by rcases Nat.lt_trichotomy y z with h | h | h <;> omega)]
  have hI2 := DI.upc hI (m1 := up3 dm (J (10 + z)) (1 + b.toNat) (.int (ii v))) g3 g2 hX ⟨by omega, by omega, fun y hy => by omega, fun r hr => by omega⟩ (hI.2.2.2.2.1.ne hrow.1 (by decide) _ _)
  have hS2 : Sml (sM (sset s (up (sM s) (8 + b.toNat + 12 * z) v))) := by
    have e0 : zn (up (sM s) (8 + b.toNat + 12 * z) v) = zn (sM s) := by unfold zn; rw [up_ne _ _ (by omega)]
    have e1 : rn (up (sM s) (8 + b.toNat + 12 * z) v) = rn (sM s) := by unfold rn; rw [up_ne _ _ (by omega)]
    refine ⟨Nat.le_trans (Nat.le_of_eq e0) hS.1, Nat.le_trans (Nat.le_of_eq e1) hS.2.1, fun y hy => ?_⟩
    have hy : y < zn (up (sM s) (8 + b.toNat + 12 * z) v) := hy
    show wan (up (sM s) (8 + b.toNat + 12 * z) v) y ≤ 270
    rw [wan_lim hj (wwz hW.1 (by omega))]
    exact hS.2.2 y (by omega)
  have hgo : Go (bL_law_j256 k53 k126 L xs FA x2 d o q (ii i) (ii v) (ii (1 + b)) (J (10 + z)) mx A dm) prF A P := by
    unfold bL_law_j256
    rw [hrow.wr (a := 1 + b) (i := 1 + b.toNat) (by omega) (by omega)]
    exact law451 hI2 hS2 (fun A' dm' m' hI' => hk A' dm' m' _ hI' hS2)
  have h239 : ∀ w : Int, w = (if sM s (8 + b.toNat + 12 * z) = v then 0 else 1) → Go (bL_law_j239 k53 k126 L xs FA x2 d o q (ii i) (ii v) (ii b) (J (10 + z)) (ii w) (ii (if sM s (8 + b.toNat + 12 * z) = v then 0 else 1)) mx A dm) prF A P := by
    intro w hw9
    unfold bL_law_j239
    rw [hw9, if_pos rfl, l0, ifeq (by omega) (by omega) (by omega) (by omega)]
    rcases hb with rfl | rfl
    · rw [if_pos rfl, l1]
      exact hgo
    · rw [if_neg (by omega), l2]
      exact hgo
  have h228 : Go (bL_law_j228 k53 k126 L xs FA x2 d o q (ii i) (ii v) (ii b) (J (10 + z)) (ii (1 + b)) (J (10 + z)) (ii (if sM s (8 + b.toNat + 12 * z) = v then 0 else 1)) mx A dm) prF A P := by
    unfold bL_law_j228
    rw [hrow.rd (a := 1 + b) (i := 1 + b.toNat) (by omega) (by omega), ifeq hvb.1 hvb.2 (by omega) (by omega), hvz]
    by_cases c : sM s (8 + b.toNat + 12 * z) = v
    · rw [if_pos c, l0]
      exact h239 0 (by rw [if_pos c])
    · rw [if_neg c, l1]
      exact h239 1 (by rw [if_neg c])
  have h209 : Go (bL_law_j209 k53 k126 L xs FA x2 d o q (ii i) (ii (z : Int)) (ii v) (ii b) (J (10 + z)) (ii (2 + b)) o mm A dm) prF A P := by
    unfold bL_law_j209
    rw [gob_i ho.symm, g1, bd_some]
    dsimp only
    rw [l0, ifeq (by omega) (by omega) (by omega) (by omega)]
    rcases hb with rfl | rfl
    · rw [if_pos rfl, l1]
      exact h228
    · rw [if_neg (by omega), l2]
      exact h228
  unfold bL_law_j180
  rw [gkd_i ob1, gtr_i ob2, gkd_i hl.1, bAL_get_ok hl rfl hz, bd_some, gkd_i hrow.1, l0, ifeq (by omega) (by omega) (by omega) (by omega)]
  rcases hb with rfl | rfl
  · rw [if_pos rfl, l2]
    exact h209
  · rw [if_neg (by omega), l3]
    exact h209
end
