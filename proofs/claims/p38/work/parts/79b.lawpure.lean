/-! all of the law, as it is computed -/
def ptf {β : Type} (pr : β → AS) (q : Nat) (xz xu xp : Int32) (t : AS → DM → Option β) (A : AS) (dm : DM) : Option β := gkd A q 8 (gtr (dm q 1) (fun q34 => gkd A q34 9 (bd (bAL_get A dm q34 xz) (fun r35 => gkd A r35 9 (gnn (ii 2) (alc pr A dm 20 (ii 2).toNatClampNeg (ii 2).toNatClampNeg (fun _ => .int (ii 0)) (fun q36 A37 m38 => gkd A37 q36 20 (gix A37 q36 (ii 0) (nm (up3 m38 q36 (ii 0).toNatClampNeg (.int xu)) (fun m39 => gkd A37 q36 20 (gix A37 q36 (ii 1) (nm (up3 m39 q36 (ii 1).toNatClampNeg (.int xp)) (fun m40 => gkd A37 r35 9 (bdg pr A37 (bAL_add A37 m40 r35 q36) (fun (x : Int32 × AS × DM) => x.2.1) (fun r41 => t r41.2.1 r41.2.2)))))))))))))))
section
variable {A A1 A2 A0 : AS} {dm m1 m2 dm0 : DM} {J J' : Nat → Nat} {M M' : WM} {s : ST} {mm m' : Mem} {o d q : Nat} {B1 B2 : Int}
theorem ptf_ok {β : Type} {pr : β → AS} {P : β → Prop} {t : AS → DM → Option β} {z : Nat} {u p : Int} (hX : MkX 0 A dm J M (zn M) (zn M) (rn M) (rn M) (npt M) (stp M)) (hW : WF M) (hS : Sep A J) (hJ : J 0 = q) (hz : z < zn M) (hn : npt M z < 4) (hD : DrR A dm d)
    (hk : ∀ (A' : AS) (dm' : DM) (J' : Nat → Nat), MkX 0 A' dm' J' (padd M z u p) (zn (padd M z u p)) (zn (padd M z u p)) (rn (padd M z u p)) (rn (padd M z u p)) (npt (padd M z u p)) (stp (padd M z u p)) → Sep A' J' → J' 0 = q → DrR A' dm' d → A'.2.2.2 = A.2.2.2 → cst A A' 2 12 → Go (t A' dm') pr A' P) : Go (ptf pr q (ii (z : Int)) (ii u) (ii p) t A dm) pr A P := pt_add hX hW hS hJ hz hn hD hk
theorem pdrop_f {z : Nat} (hz : z < 6) : zn (pdrop M z) = zn M ∧ rn (pdrop M z) = rn M ∧ npt (pdrop M z) z = 0 ∧ wan (pdrop M z) z = 0 ∧ lst (pdrop M z) z = 9999 := by
  have e : npt (pdrop M z) z = 0 := by
    have : pdrop M z (10 + 12 * z) = 0 := by unfold pdrop up; rw [if_pos rfl]
    unfold npt
    rw [this]
    rfl
  refine ⟨?_, ?_, e, ?_, ?_⟩
  · unfold zn pdrop
    rw [up_ne _ _ (by omega)]
  · unfold rn pdrop
    rw [up_ne _ _ (by omega)]
  · unfold wan
    rw [if_pos e]
  · unfold lst
    rw [if_pos e]
/-- a curve is told anew -/
theorem law262 {k53 : Int32 → Mem → AS → DM → Option (Int32 × AS)} {k126 : Int32 → Nat → Nat → Nat → Int32 → Mem → AS → DM → Option (Int32 × AS)} {L : Nat} {xs : Nat → Int32} {FA : AS} {x2 : Int32} {i v : Int} {z : Nat} {P : Int32 × AS → Prop} (hI : DI o d q B1 B2 A dm mm J s) (hS : Sml (sM s)) (hz : z < zn (sM s)) (hv : 0 ≤ v ∧ v < 100)
    (hk : ∀ (A' : AS) (dm' : DM) (m' : Mem) (J' : Nat → Nat) (s' : ST), DI o d q (B1 + 9347) (B2 + 264363) A' dm' m' J' s' → Sml (sM s') → Go (k126 x2 d o q (ii (i + 1)) m' A' dm') prF A' P) : Go (bL_law_j262 k53 k126 L xs FA x2 d o q (ii i) (ii (z : Int)) (ii v) mm A dm) prF A P := by
  obtain ⟨hX, hSe, hs, hC, hD, hJ, ho, b1, b2⟩ := hI
  have hW := hs.1
  have zb := hW.1.zn
  have zc := zn_c hW.1
  have rb := hW.1.rn
  have rc := rn_c hW.1
  have hw := wwz hW.1 hz
  have hnp := npt_le hw
  obtain ⟨f1, f2, f3, f4, f5⟩ := pdrop_f (M := sM s) (z := z) (by omega)
  have hpe : ∀ j, j ≠ 10 + 12 * z → pdrop (sM s) z j = sM s j := fun j hj => up_ne _ _ hj
  -- the class
  obtain ⟨c1, e1, C1⟩ := c_drop_y hC hs hz
  have W1 : SW (sset s (pdrop (sM s) z)) := hs.ups (pdrop_WF hW hz)
  have z1 : (z : Int) < pdrop (sM s) z 0 := by rw [hpe 0 (by omega)]; omega
  obtain ⟨c2, e2, -, C2⟩ := c_point_y C1 W1 (a := (z : Int)) (u := v + 1) (p := 300) (by
    show okp (pdrop (sM s) z) (z : Int) (v + 1) 300
    refine ⟨by omega, ?_, ?_, ?_⟩ <;> rw [Int.toNat_natCast]
    · rw [f3]; omega
    · rw [f4]; omega
    · rw [f5]; omega)
  rw [Int.toNat_natCast] at e2 C2
  rw [show sM (sset s (pdrop (sM s) z)) = pdrop (sM s) z from rfl, f3] at e2
  have W2 : SW (sset (sset s (pdrop (sM s) z)) (padd (pdrop (sM s) z) z (v + 1) 300)) := W1.ups (padd_WF W1.1 (by show z < zn (pdrop (sM s) z); omega) (by show npt (pdrop (sM s) z) z < 4; omega) (by show wan (pdrop (sM s) z) z + 1 ≤ v + 1 ∧ v + 1 ≤ 2000; omega) (by show 0 ≤ (300 : Int) ∧ 300 ≤ lst (pdrop (sM s) z) z; omega))
  have hn1 : npt (pdrop (sM s) z) z < 4 := by omega
  have g3 : npt (padd (pdrop (sM s) z) z (v + 1) 300) z = 1 := by rw [padd_n, f3]
  obtain ⟨g4, g5⟩ := padd_w (M := pdrop (sM s) z) (z := z) (u := v + 1) (p := 300) hn1
  obtain ⟨g1, g2⟩ := padd_zr (M := pdrop (sM s) z) (z := z) (u := v + 1) (p := 300) hn1
  have e3 := c_point_n C2 W2 (a := (z : Int)) (u := v + 1) (p := 200) (by omega) (by omega) (by omega) (by omega) (by omega) (by omega) (by
    rintro ⟨-, -, h, -⟩
    rw [Int.toNat_natCast] at h
    have h : wan (padd (pdrop (sM s) z) z (v + 1) 300) z + 1 ≤ v + 1 ∧ v + 1 ≤ 2000 := h
    omega)
  have e4 := c_point_n C2 W2 (a := (z : Int)) (u := v + 2) (p := 301) (by omega) (by omega) (by omega) (by omega) (by omega) (by omega) (by
    rintro ⟨-, -, -, h⟩
    rw [Int.toNat_natCast] at h
    have h : (0 : Int) ≤ 301 ∧ 301 ≤ lst (padd (pdrop (sM s) z) z (v + 1) 300) z := h
    omega)
  have z2 : (z : Int) < padd (pdrop (sM s) z) z (v + 1) 300 0 := by rw [padd_o (by omega) hn1]; exact z1
  obtain ⟨c3, e5, -, C3⟩ := c_point_y C2 W2 (a := (z : Int)) (u := v + 30) (p := 50) (by
    show okp (padd (pdrop (sM s) z) z (v + 1) 300) (z : Int) (v + 30) 50
    refine ⟨by omega, ?_, ?_, ?_⟩ <;> rw [Int.toNat_natCast]
    · rw [g3]; omega
    · rw [g4]; omega
    · rw [g5]; omega)
  rw [Int.toNat_natCast] at e5 C3
  have e5 : f6_point c2 (ii (z : Int)) (ii (v + 30)) (ii 50) = some (ii ((npt (padd (pdrop (sM s) z) z (v + 1) 300) z : Int) + 1), c3) := e5
  rw [g3] at e5
  have hn2 : npt (padd (pdrop (sM s) z) z (v + 1) 300) z < 4 := by omega
  have W3 : SW (sset (sset (sset s (pdrop (sM s) z)) (padd (pdrop (sM s) z) z (v + 1) 300)) (padd (padd (pdrop (sM s) z) z (v + 1) 300) z (v + 30) 50)) := W2.ups (padd_WF W2.1 (by show z < zn (padd (pdrop (sM s) z) z (v + 1) 300); omega) hn2 (by show wan (padd (pdrop (sM s) z) z (v + 1) 300) z + 1 ≤ v + 30 ∧ v + 30 ≤ 2000; omega) (by show 0 ≤ (50 : Int) ∧ 50 ≤ lst (padd (pdrop (sM s) z) z (v + 1) 300) z; omega))
  -- by hand
  obtain ⟨ob1, -, ob2, -⟩ := hX.ob hJ
  have hl := hX.2.2.2.1 (by omega)
  have hc := hX.2.2.2.2.2.2.2.2.1 z hz (by omega)
  have hX1 : MkX 0 A dm J (pdrop (sM s) z) (zn (sM s)) (zn (sM s)) (rn (sM s)) (rn (sM s)) (npt (sM s)) (stp (sM s)) := hX.cm (hpe _ (by omega)) (fun _ k hk => hpe _ (by omega)) (fun y hy _ i hi => zrw_cg (fun j a b => hpe _ (by omega)) hi) (fun y hy k hk i hi => ptr_cg (fun j a b => hpe _ (by have := npt_le (wwz hW.1 hy); omega)) hi) (fun y hy _ i hi => rrw_cg (fun j a b => hpe _ (by omega)) hi) (fun y hy k hk i hi => str_cg (fun j a b => hpe _ (by omega)) hi)
  obtain ⟨md, e6, hX2, xl⟩ := g_clear (np' := npt (pdrop (sM s) z)) hSe hX1 hz f3 (fun y hy => by unfold npt; rw [hpe _ (by omega)])
  have hX3 : MkX 0 A md J (pdrop (sM s) z) (zn (pdrop (sM s) z)) (zn (pdrop (sM s) z)) (rn (pdrop (sM s) z)) (rn (pdrop (sM s) z)) (npt (pdrop (sM s) z)) (stp (pdrop (sM s) z)) := by
    rw [f1, f2]
    exact hX2.cn (fun _ _ => rfl) (fun r hr => by unfold stp; rw [hpe _ (by omega)])
  unfold bL_law_j262
  rw [gob_i ho.symm, l0, e1, bd_some]
  dsimp only
  rw [gkd_i ob1, gtr_i ob2, gkd_i hl.1, bAL_get_ok hl rfl hz, bd_some, gkd_i hc.1, gkd_i hc.1, bAL_size_ok hc, bd_some, if_pos rfl, gkd_i ob1, gtr_i ob2, gkd_i hl.1, bAL_get_ok hl rfl hz, bd_some, gkd_i hc.1, gkd_i hc.1, e6, bd_some, gob_i ho.symm, lm1, l1, l2, show (300 : Int32) = ii 300 by decide, show (200 : Int32) = ii 200 by decide, show (301 : Int32) = ii 301 by decide, show (30 : Int32) = ii 30 by decide, show (50 : Int32) = ii 50 by decide, ii_add, ii_add, ii_add, e2, bd_some]
  dsimp only
  rw [if_pos (show ii (((0 : Nat) : Int) + 1) = ii 1 from rfl), gob_i ho.symm, e3, bd_some]
  dsimp only
  rw [if_pos rfl, gob_i ho.symm, e4, bd_some]
  dsimp only
  rw [if_pos rfl, gob_i ho.symm, e5, bd_some]
  dsimp only
  rw [if_pos (show ii (((1 : Nat) : Int) + 1) = ii 2 from rfl)]
  show Go (ptf (fun (x : Int32 × AS) => x.2) q (ii (z : Int)) (ii (v + 1)) (ii 300) (ptf (fun (x : Int32 × AS) => x.2) q (ii (z : Int)) (ii (v + 30)) (ii 50) (fun A' dm' => bL_law_j451 k53 k126 L xs FA x2 d o q (ii i) c3 A' dm')) A md) prF A P
  refine ptf_ok hX3 W1.1 hSe hJ (by omega) hn1 (hD.el xl) (fun A2 dm2 J2 hX4 hS4 hJ4 hD4 ho4 cs4 => ?_)
  refine ptf_ok hX4 W2.1 hS4 hJ4 (by omega) hn2 hD4 (fun A3 dm3 J3 hX5 hS5 hJ5 hD5 ho5 cs5 => ?_)
  have hI5 : DI o d q (B1 + 4) (B2 + 24) A3 dm3 c3 J3 (sset (sset (sset s (pdrop (sM s) z)) (padd (pdrop (sM s) z) z (v + 1) 300)) (padd (padd (pdrop (sM s) z) z (v + 1) 300) z (v + 30) 50)) := by
    refine ⟨hX5, hS5, W3, C3, hD5, hJ5, ho5.trans (ho4.trans ho), ?_, ?_⟩
    · have := cs4.1; have := cs5.1
      omega
    · have := cs4.2; have := cs5.2
      omega
  have hS5' : Sml (padd (padd (pdrop (sM s) z) z (v + 1) 300) z (v + 30) 50) := by
    obtain ⟨k1, k2⟩ := padd_zr (M := padd (pdrop (sM s) z) z (v + 1) 300) (z := z) (u := v + 30) (p := 50) hn2
    refine ⟨by have := hS.1; omega, by have := hS.2.1; omega, fun y hy => ?_⟩
    by_cases e9 : y = z
    · rw [e9, (padd_w (M := padd (pdrop (sM s) z) z (v + 1) 300) (z := z) (u := v + 30) (p := 50) hn2).1]
      omega
    · rw [padd_w2 hn2 (wwz W2.1.1 (by show y < zn (padd (pdrop (sM s) z) z (v + 1) 300); omega)) e9, padd_w2 hn1 (wwz W1.1.1 (by show y < zn (pdrop (sM s) z); omega)) e9, wan_cg (fun j a b => hpe j (by omega)) (wwz hW.1 (by omega))]
      exact hS.2.2 y (by omega)
  exact law451 hI5 hS5' (fun A' dm' m' hI' => hk A' dm' m' J3 _ (hI'.mo (by omega) (by omega)) hS5')
theorem law126 {k53 : Int32 → Mem → AS → DM → Option (Int32 × AS)} {L : Nat} {xs : Nat → Int32} {FA : AS} {k : Int} {P : Int32 × AS → Prop}
    (hk : ∀ (A' : AS) (dm' : DM) (m' : Mem), (A'.1 : Int) ≤ B1 + 4 * 9347 → (A'.2.1 : Int) ≤ B2 + 4 * 264363 → Go (k53 (ii (k + 1)) m' A' dm') prF A' P) :
    ∀ (e i f : Nat) (A : AS) (dm : DM) (mm : Mem) (J : Nat → Nat) (s : ST), i + e = 4 → e < f → DI o d q (B1 + 9347 * i) (B2 + 264363 * i) A dm mm J s → Sml (sM s) → Go (bL_law_l126 k53 L xs FA f (ii k) d o q (ii (i : Int)) mm A dm) prF A P := by
  intro e
  induction e with
  | zero =>
    intro i f A dm mm J s h1 h2 hI hS
    obtain ⟨f, rfl⟩ : ∃ g, f = g + 1 := ⟨f - 1, by omega⟩
    have e : i = 4 := by omega
    subst e
    rw [bL_law_l126, l4, if_neg (by rw [ii_lt (by omega) (by omega) (by omega) (by omega)]; omega), nm_eq, l1, ii_add]
    refine hk A dm mm ?_ ?_
    · have := hI.2.2.2.2.2.2.2.1
      omega
    · have := hI.2.2.2.2.2.2.2.2
      omega
  | succ e ih =>
    intro i f A dm mm J s h1 h2 hI hS
    obtain ⟨f, rfl⟩ : ∃ g, f = g + 1 := ⟨f - 1, by omega⟩
    have hW := hI.2.2.1.1
    have zb := hW.1.zn
    have zc := zn_c hW.1
    have hd := hI.2.2.2.2.1
    obtain ⟨ob1, ob2, -⟩ := hI.1.ob hI.2.2.2.2.2.1
    have hl := hI.1.2.2.1 (by omega)
    obtain ⟨w0, n0, e0, v0, x0, d0⟩ := next_ok hd (n := (zn (sM s) : Int)) (by omega) (by omega)
    obtain ⟨w1, n1, e1, v1, x1, d1⟩ := next_ok d0 (n := 100) (by omega) (by omega)
    have hI1 := hI.k7 (x0.tr x1) d1
    have hwz : w0 = (w0.toNat : Int) := by omega
    have hgo : ∀ (A' : AS) (dm' : DM) (m' : Mem) (J' : Nat → Nat) (s' : ST), DI o d q (B1 + 9347 * i + 9347) (B2 + 264363 * i + 264363) A' dm' m' J' s' → Sml (sM s') → Go ((fun x2 x3 x4 x5 x6 mm9 A9 dm9 => bL_law_l126 k53 L xs FA f x2 x3 x4 x5 x6 mm9 A9 dm9) (ii k) d o q (ii ((i : Int) + 1)) m' A' dm') prF A' P := fun A' dm' m' J' s' hI' hS' => ih (i + 1) f A' dm' m' J' s' (by omega) (by omega) (hI'.mo (by omega) (by omega)) hS'
    have h262 : ∀ m9, ExtK 7 A n1 A m9 → DrR A m9 d → Go (bL_law_j262 k53 (fun x2 x3 x4 x5 x6 mm9 A9 dm9 => bL_law_l126 k53 L xs FA f x2 x3 x4 x5 x6 mm9 A9 dm9) L xs FA (ii k) d o q (ii (i : Int)) (ii w0) (ii w1) mm A m9) prF A P := by
      intro m9 hx hd9
      rw [hwz]
      exact law262 (hI1.k7 hx hd9) hS (by omega) (by omega) hgo
    have h180 : ∀ (b : Int) (m9 : DM), (b = 0 ∨ b = 1) → 0 < w0 → ExtK 7 A n1 A m9 → DrR A m9 d → Go (bL_law_j180 k53 (fun x2 x3 x4 x5 x6 mm9 A9 dm9 => bL_law_l126 k53 L xs FA f x2 x3 x4 x5 x6 mm9 A9 dm9) L xs FA (ii k) d o q (ii (i : Int)) (ii w0) (ii w1) (ii b) mm A m9) prF A P := by
      intro b m9 hb h0 hx hd9
      rw [hwz]
      exact law180 (hI1.k7 hx hd9) hS hb (by omega) (by omega) (by omega) (fun A' dm' m' s' hI' hS' => hgo A' dm' m' J s' (hI'.mo (by omega) (by omega)) hS')
    rw [bL_law_l126, l4, if_pos (by rw [ii_lt (by omega) (by omega) (by omega) (by omega)]; omega), gkd_i ob1, gtr_i ob2, gkd_i hl.1, bAL_size_ok hl, bd_some, gkd_i hd.1, e0, bd_some]
    dsimp only
    rw [gkd_i hd.1, l100, e1, bd_some]
    dsimp only
    rw [l0, iflt (by omega) (by omega) (by omega) (by omega)]
    by_cases c0 : 0 < w0
    · obtain ⟨w2, n2, e2, v2, x2, d2⟩ := next_ok d1 (n := 2) (by omega) (by omega)
      rw [if_pos c0, gkd_i hd.1, l2, e2, bd_some]
      dsimp only
      rw [ifeq (by omega) (by omega) (by omega) (by omega)]
      by_cases c2 : w2 = 0
      · obtain ⟨w3, n3, e3, v3, x3, d3⟩ := next_ok d2 (n := 2) (by omega) (by omega)
        rw [if_pos c2, gkd_i hd.1, e3, bd_some]
        dsimp only
        rw [ifeq (by omega) (by omega) (by omega) (by omega)]
        by_cases c3 : w3 = 0
        · rw [if_pos c3, l1]
          exact h180 1 n3 (Or.inr rfl) c0 (x2.tr x3) d3
        · rw [if_neg c3]
          exact h180 0 n3 (Or.inl rfl) c0 (x2.tr x3) d3
      · rw [if_neg c2]
        exact h262 n2 x2 d2
    · rw [if_neg c0]
      exact h262 n1 (ExtK.rf A n1) d1
theorem law78 {k53 : Int32 → Mem → AS → DM → Option (Int32 × AS)} {L : Nat} {xs : Nat → Int32} {FA : AS} {k : Int} {x : Int32} {P : Int32 × AS → Prop} (hd : okd A d 7)
    (hk : ∀ (A' : AS) (dm' : DM) (m' : Mem), (A'.1 : Int) ≤ A.1 + 46973 → (A'.2.1 : Int) ≤ A.2.1 + 1324729 → Go (k53 (ii (k + 1)) m' A' dm') prF A' P) : Go (bL_law_j78 k53 L xs FA (ii k) x d d mm A dm) prF A P := by
  unfold bL_law_j78 bX7_init
  rw [gkd_i hd, nm_eq, bd_some]
  refine go_azc ?_
  have hD : DrR (nwZ A) (up3 dm d 0 (.int x)) d := by
    refine ⟨⟨⟨hd.1.1, by show d ≤ A.1 + 119; have := hd.1.2; omega⟩, ?_⟩, x, up3_s⟩
    show (if A.1 < d then (0, 0) else A.2.2.1 d).1 = 7
    rw [if_neg (by have := hd.1.2; omega)]
    exact hd.2
  refine Go.call (drawn_ok (A := nwZ A) m0_CI m0_SW rfl hD) (fun y hy9 _ => ?_)
  obtain ⟨J, s, y1, hX, hSe, hs, hC, hD2, hb, hS, cs⟩ := hy9
  have hn1 : (nwZ A).1 = A.1 + 119 := rfl
  have hn2 : (nwZ A).2.1 = A.2.1 + 2166 := rfl
  have hI : DI (A.1 + 1) d y.1 (A.1 + 242) (A.2.1 + 2938) y.2.2.1 y.2.2.2 y.2.1 J s := by
    refine ⟨hX, hSe, hs, hC, hD2, y1.symm, hb, ?_, ?_⟩
    · have := cs.1
      omega
    · have := cs.2
      omega
  refine go_two hI hS (t := fun m' A' dm' => bL_law_l126 k53 L xs FA FU (ii k) d (A.1 + 1) y.1 (0 : Int32) m' A' dm') (fun A' dm' m' hI' => ?_)
  rw [l0]
  exact law126 (B1 := A.1 + 9585) (B2 := A.2.1 + 267277) (fun A2 dm2 m2 h1 h2 => hk A2 dm2 m2 (by omega) (by omega)) 4 0 FU A' dm' m' J s (by omega) (by have : FU = 20000 := rfl; omega) (hI'.mo (by omega) (by omega)) hS
theorem law53 {L : Nat} {xs : Nat → Int32} {FA : AS} (hL : L ≤ 1000000) {C1 C2 : Int} (hF : C1 + 5 * 46974 ≤ FA.1 ∧ C2 + 5 * 1324730 ≤ FA.2.1) : ∀ (e k f : Nat) (A : AS) (dm : DM) (mm : Mem), k + e = 5 → e < f → (A.1 : Int) ≤ C1 + 46974 * k → (A.2.1 : Int) ≤ C2 + 1324730 * k → Go (bL_law_l53 L xs FA f (ii (k : Int)) mm A dm) prF A (fun y => y = ((1 : Int32), FA)) := by
  intro e
  induction e with
  | zero =>
    intro k f A dm mm h1 h2 h3 h4
    obtain ⟨f, rfl⟩ : ∃ g, f = g + 1 := ⟨f - 1, by omega⟩
    have e : k = 5 := by omega
    subst e
    rw [bL_law_l53, l5, if_neg (by rw [ii_lt (by omega) (by omega) (by omega) (by omega)]; omega)]
    exact Go.mk ⟨by show A.1 ≤ FA.1; omega, by show A.2.1 ≤ FA.2.1; omega⟩ rfl
  | succ e ih =>
    intro k f A dm mm h1 h2 h3 h4
    obtain ⟨f, rfl⟩ : ∃ g, f = g + 1 := ⟨f - 1, by omega⟩
    rw [bL_law_l53, l5, if_pos (by rw [ii_lt (by omega) (by omega) (by omega) (by omega)]; omega)]
    refine go_alc ?_
    have hd := okd_nw A 7 0 1
    have c1 := cst_nw A 7 0 1
    generalize nw A 7 0 1 = A1 at hd c1 ⊢
    have hgo : ∀ (x : Int32), Go (bL_law_j78 (fun x2 mm9 A9 dm9 => bL_law_l53 L xs FA f x2 mm9 A9 dm9) L xs FA (ii (k : Int)) x (A.1 + 1) (A.1 + 1) mm A1 (nwm A dm dfl7)) prF A1 (fun y => y = ((1 : Int32), FA)) := fun x => law78 hd (fun A' dm' m' g1 g2 => ih (k + 1) f A' dm' m' (by omega) (by omega) (by have := c1.1; omega) (by have := c1.2; omega))
    rw [ii_nI, iflt (by omega) (by omega) (by omega) (by omega)]
    by_cases c : (k : Int) < L
    · rw [if_pos c]
      unfold gsc
      rw [if_pos (ii_inb (by omega) (by omega) (by omega))]
      exact hgo _
    · rw [if_neg c]
      exact hgo _
theorem P0_0 : Pz (Dc M0) 0 = 0 ∧ sur M0 (Dc M0) = 0 := by
  have hD : WD (Dc M0) := Dg_WD M0_WF (ii 0) false
  have hw : ZW M0 0 := wwz M0_WF.1 (by decide)
  have hW : ∀ p, Wt M0 0 p = 0 := fun p => by
    have h1 := Wt_bd hw p
    have h2 := M0_v.2.2.2
    omega
  have hL : ∀ p, Lz (Dc M0) 0 p = 0 := fun p => by
    rw [Lz_eq hD (z := 0) (by decide) p]
    have e1 : ow (Dc M0) 0 p = 0 := rfl
    have e2 : sm (dn (Dc M0)) (inn (Dc M0) 0 p) = 0 := by
      refine sm_zero (fun c hc => ?_)
      have hc : c < 1 := hc
      unfold inn
      rw [if_neg (by omega)]
    have e3 : dW (Dc M0) 0 p = 0 := hW p
    omega
  have hP : Pz (Dc M0) 0 = 0 := by
    rw [(PN_0 (Dc M0)).1]
    exact lp_un (p := 0) (by omega) (by rw [hL]; omega) (fun q hq => absurd hq (by omega))
  refine ⟨hP, ?_⟩
  have hS := S_bd hD (z := 0) (by decide)
  have hS2 : Sz (Dc M0) 0 ≤ Wt M0 0 (Pz (Dc M0) 0 : Int) := hS.1
  rw [hW] at hS2
  show sm 1 (fun z => wsm M0 z (Sz (Dc M0) z)) - sm 0 (fun i => dJ (Dc M0) i * Tz (Dc M0) i) = 0
  rw [sm_s, sm_0, sm_0]
  unfold wsm
  rw [show (Sz (Dc M0) 0).toNat = 0 by omega, sm_0]
  rfl
/-- the law, as it is computed, comes to true -/
theorem law_pure {L : Nat} {xs : Nat → Int32} {FA : AS} (hL : L ≤ 1000000) (hF : (A.1 : Int) + 6094 + 5 * 46974 ≤ FA.1 ∧ (A.2.1 : Int) + 165178 + 5 * 1324730 ≤ FA.2.1) : bL_law L xs FA mem0 A dm A.2.2.2 = some ((1 : Int32), FA) := by
  have hgo : Go (bL_law L xs FA mem0 A dm A.2.2.2) prF A (fun y => y = ((1 : Int32), FA)) := by
    unfold bL_law
    refine go_alc ?_
    have x1 := ext_nw A dm 8 0 10 dfl8
    have ho := okd_nw A 8 0 10
    have c1 := cst_nw A 8 0 10
    generalize nw A 8 0 10 = A1 at x1 ho c1 ⊢
    generalize nwm A dm dfl8 = m1 at x1 ⊢
    refine Go.call (init_ok (d := 0) ho (Or.inr rfl)) (fun x hx9 _ => ?_)
    obtain ⟨J, hX, hS, hJ, hb, -, cs⟩ := hx9
    have hX' : MkX 0 x.1 x.2 J M0 (zn M0) (zn M0) (rn M0) (rn M0) (npt M0) (stp M0) := hX
    have hob : A.2.2.2 = x.1.2.2.2 := (hb.trans x1.2.1).symm
    have hn1 : ¬ (ii 1 : Int32) = 0 := by decide
    rw [hob, ← hJ]
    refine Go.call (isCleared_ok hX'.r m0_SW rfl M0_S m0_CI) (fun y hy9 _ => ?_)
    obtain ⟨j1, j2, j3, j4, j5⟩ := hy9
    rw [j1, if_neg hn1, gob_i j3.2.1.symm]
    obtain ⟨p1, e1, -, i1⟩ := c_price j4 m0_SW (a := 0) (by omega) (by omega)
    obtain ⟨p2, e2, -, i2⟩ := c_surplus i1 m0_SW
    obtain ⟨p3, e3, -, i3⟩ := c_taken i2 m0_SW (a := 0) (b := -1) (by omega) (by omega) (by omega) (by omega)
    have e1' : f6_price y.2.1 (ii 0) = some (ii 0, p1) := by
      rw [e1, show sM ST0 = M0 from rfl, if_pos ⟨by omega, by decide⟩]
      show some (ii (Pz (Dc M0) 0 : Int), p1) = _
      rw [P0_0.1]
      rfl
    have e2' : f6_surplus p1 = some (ll 0, p2) := by
      rw [e2, show sM ST0 = M0 from rfl, P0_0.2]
    have e3' : f6_taken p2 (ii 0) (ii (-1)) = some (ii (-1), p3) := by
      rw [e3, show sM ST0 = M0 from rfl]
      unfold tkS
      rw [if_neg (by have : M0 1 = 0 := rfl; omega)]
    rw [lm1, l0, L0, e1', bd_some]
    dsimp only
    rw [if_pos rfl, gob_i j3.2.1.symm, e2', bd_some]
    dsimp only
    rw [if_pos (lgc_s _), gob_i j3.2.1.symm, e3', bd_some]
    dsimp only
    rw [if_pos rfl]
    have := c1.1; have := c1.2; have := cs.1; have := cs.2; have := j5.1; have := j5.2
    exact law53 hL (C1 := A.1 + 6094) (C2 := A.2.1 + 165178) hF 5 0 FU y.2.2.1 y.2.2.2 p3 (by omega) (by have : FU = 20000 := rfl; omega) (by omega) (by omega)
  obtain ⟨y, h1, -, h3⟩ := hgo
  rw [h1, h3]
end
