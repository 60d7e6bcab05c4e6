/-! curves drawn -/
section
variable {A A1 A2 A0 : AS} {dm m1 m2 dm0 : DM} {J J' : Nat → Nat} {M M' : WM} {s : ST} {mm : Mem} {o d q : Nat} {B1 B2 : Int}
theorem DI.k7 (h : DI o d q B1 B2 A dm mm J s) (hx : ExtK 7 A dm A m1) (hd : DrR A m1 d) : DI o d q B1 B2 A m1 mm J s := ⟨h.1.k7 hx, h.2.1, h.2.2.1, h.2.2.2.1, hd, h.2.2.2.2.2⟩
theorem DI.mo (h : DI o d q B1 B2 A dm mm J s) {C1 C2 : Int} (h1 : B1 ≤ C1) (h2 : B2 ≤ C2) : DI o d q C1 C2 A dm mm J s := ⟨h.1, h.2.1, h.2.2.1, h.2.2.2.1, h.2.2.2.2.1, h.2.2.2.2.2.1, h.2.2.2.2.2.2.1, Int.le_trans h.2.2.2.2.2.2.2.1 h1, Int.le_trans h.2.2.2.2.2.2.2.2 h2⟩
theorem padd_e {z : Nat} {u p : Int} {j : Nat} (h0 : j ≠ 10 + 12 * z) (h1 : j ≠ 11 + 12 * z + 2 * npt M z) (h2 : j ≠ 12 + 12 * z + 2 * npt M z) : padd M z u p j = M j := by
  unfold padd up
  rw [if_neg h0, if_neg h2, if_neg h1]
theorem padd_n {z : Nat} {u p : Int} : npt (padd M z u p) z = npt M z + 1 := by
  have : padd M z u p (10 + 12 * z) = (npt M z : Int) + 1 := by
    unfold padd up
    rw [if_pos rfl]
  unfold npt
  rw [this]
  unfold npt
  omega
theorem padd_n2 {z y : Nat} {u p : Int} (hn : npt M z < 4) (hy : y ≠ z) : npt (padd M z u p) y = npt M y := by
  unfold npt
  rw [padd_o (by omega) hn]
theorem padd_p {z : Nat} {u p : Int} (hn : npt M z < 4) : ptr (padd M z u p) z (npt M z) 0 = u ∧ ptr (padd M z u p) z (npt M z) 1 = p := by
  refine ⟨?_, ?_⟩
  · show padd M z u p (11 + 12 * z + 2 * npt M z) = u
    unfold padd up
    rw [if_neg (by omega), if_neg (by omega), if_pos rfl]
  · show padd M z u p (12 + 12 * z + 2 * npt M z) = p
    unfold padd up
    rw [if_neg (by omega), if_pos rfl]
theorem padd_w {z : Nat} {u p : Int} (hn : npt M z < 4) : wan (padd M z u p) z = u ∧ lst (padd M z u p) z = p := by
  obtain ⟨h1, h2⟩ := padd_p (u := u) (p := p) hn
  have h1 : pu (padd M z u p) z (npt M z) = u := h1
  have h2 : pp (padd M z u p) z (npt M z) = p := h2
  unfold wan lst
  rw [padd_n, if_neg (by omega), if_neg (by omega), show npt M z + 1 - 1 = npt M z by omega]
  exact ⟨h1, h2⟩
theorem padd_w2 {z y : Nat} {u p : Int} (hn : npt M z < 4) (hw : ZW M y) (hy : y ≠ z) : wan (padd M z u p) y = wan M y := by
  have hnp := npt_le hw
  unfold wan
  rw [padd_n2 hn hy]
  by_cases c : npt M y = 0
  · rw [if_pos c, if_pos c]
  · rw [if_neg c, if_neg c]
    unfold pu
    rw [padd_o (by omega) hn]
theorem padd_zr {z : Nat} {u p : Int} (hn : npt M z < 4) : zn (padd M z u p) = zn M ∧ rn (padd M z u p) = rn M := by
  unfold zn rn
  rw [padd_o (by omega) hn, padd_o (by omega) hn]
  exact ⟨rfl, rfl⟩
/-- one more point, in cells and in the class -/
theorem dr248 {z : Nat} {u p : Int} {kx : Int32} {x4 : Int32} {k161 : Nat → Nat → Nat → Int32 → Int32 → Mem → AS → DM → Option (Nat × Mem × AS × DM)} {k206 : Nat → Nat → Nat → Int32 → Int32 → Int32 → Int32 → Int32 → Mem → AS → DM → Option (Nat × Mem × AS × DM)} {P : Nat × Mem × AS × DM → Prop}
    (hI : DI o d q B1 B2 A dm mm J s) (hz : z < zn (sM s)) (hy : okp (sM s) (z : Int) u p)
    (hk : ∀ (A' : AS) (dm' : DM) (m' : Mem) (J' : Nat → Nat), DI o d q (B1 + 2) (B2 + 12) A' dm' m' J' (sset s (padd (sM s) z u p)) → Go (k206 o d q x4 (ii (z : Int)) (ii u) (ii p) (kx + -1) m' A' dm') prN A' P) : Go (bL_drawn_j248 k161 k206 o d q x4 (ii (z : Int)) (ii u) kx (ii p) mm A dm) prN A P := by
  obtain ⟨hX, hS, hs, hC, hD, hJ, ho, b1, b2⟩ := hI
  have hW := hs.1
  have zc := zn_c hW.1
  have zb := hW.1.zn
  have rc := rn_c hW.1
  have rb := hW.1.rn
  have hw := wwz hW.1 hz
  have hnp := npt_le hw
  obtain ⟨y1, y2, y3, y4⟩ := hy
  rw [Int.toNat_natCast] at y2 y3 y4
  have hlb := lst_bd hw
  have hwan := wan_le hw
  obtain ⟨ob1, -, ob2, -⟩ := hX.ob hJ
  have hl := hX.2.2.2.1 (by omega)
  have hc := hX.2.2.2.2.2.2.2.2.1 z hz (by omega)
  unfold bL_drawn_j248
  rw [gkd_i ob1, gtr_i ob2, gkd_i hl.1, bAL_get_ok hl rfl hz, bd_some, gkd_i hc.1, l2, gnn_i (by omega) (by omega), show (ii 2).toNatClampNeg = 2 by decide]
  refine go_alc ?_
  have x1 := ext_nw A dm 20 2 2 (fun _ => .int 0)
  have r1 := NR_e0 A dm 2 (by decide)
  have c1 := cst_nw A 20 2 2
  have s1 : (nw A 20 2 2).1 = A.1 + 1 := rfl
  generalize nw A 20 2 2 = A1 at x1 r1 c1 s1 ⊢
  generalize nwm A dm (fun _ => Value.int 0) = m1 at x1 r1 ⊢
  rw [l0, r1.wr (a := 0) (i := 0) rfl (by omega), l1, (r1.up 0 u).wr (a := 1) (i := 1) rfl (by omega)]
  have x2 := (x1.up (c := A.1 + 1) (by omega) 0 (.int (ii u))).up (c := A.1 + 1) (by omega) 1 (.int (ii p))
  have r2 := (r1.up 0 u).up 1 p
  generalize up3 (up3 m1 (A.1 + 1) 0 (.int (ii u))) (A.1 + 1) 1 (.int (ii p)) = m2 at x2 r2 ⊢
  have hX1 := hX.ext x2
  have hX2 : MkX 0 A1 m2 J (padd (sM s) z u p) (zn (sM s)) (zn (sM s)) (rn (sM s)) (rn (sM s)) (npt (sM s)) (stp (padd (sM s) z u p)) := by
    refine (hX1.cm (padd_o (by omega) y2) (fun _ k hk => padd_o (by omega) y2) (fun y hy _ i hi => zrw_cg (fun j g1 g2 => padd_e (by omega) (by omega) (by omega)) hi) (fun y hy k hk i hi => ptr_cg (fun j g1 g2 => ?_) hi) (fun r hr _ i hi => rrw_cg (fun j g1 g2 => padd_o (by omega) y2) hi) (fun r hr k hk i hi => str_cg (fun j g1 g2 => padd_o (by omega) y2) hi)).cn (fun z hz => rfl) (fun r hr => ?_)
    · have := npt_le (wwz hW.1 hy)
      by_cases e9 : y = z
      · subst e9
        exact padd_e (by omega) (by omega) (by omega)
      · exact padd_e (by omega) (by omega) (by omega)
    · unfold stp
      rw [padd_o (by omega) y2]
  have hrow : NR A1 m2 (A.1 + 1) 2 (ptr (padd (sM s) z u p) z (npt (sM s) z)) := r2.cg (fun i hi => by
    obtain ⟨t0, t1⟩ := padd_p (M := sM s) (z := z) (u := u) (p := p) y2
    rcases (show i = 0 ∨ i = 1 by omega) with rfl | rfl
    · rw [t0]; rfl
    · rw [t1]; rfl)
  rw [gkd_i (hX2.2.2.2.2.2.2.2.2.1 z hz (by omega)).1]
  refine Go.call (g_point (np' := npt (padd (sM s) z u p)) (hS.mo (A1 := A1) (by omega)) hX2 hz padd_n (fun y hy => padd_n2 y2 hy) (by omega) hrow (fun i => by have := hS.1 i; omega)) (fun x hx9 _ => ?_)
  obtain ⟨-, J1, hX3, hS3, j1, j1e, xl1, cs1⟩ := hx9
  obtain ⟨mz, w7, -, w8⟩ := c_point_y hC hs (a := (z : Int)) (u := u) (p := p) ⟨y1, by rw [Int.toNat_natCast]; exact y2, by rw [Int.toNat_natCast]; exact y3, by rw [Int.toNat_natCast]; exact y4⟩
  rw [Int.toNat_natCast] at w7 w8
  obtain ⟨k1, k2⟩ := padd_zr (M := sM s) (z := z) (u := u) (p := p) y2
  rw [gob_i (ho.symm.trans (x1.2.1.symm.trans xl1.2.1.symm)), w7, bd_some, nm_eq, show -ii 1 = (-1 : Int32) by decide]
  refine hk x.2.1 x.2.2 mz J1 ⟨?_, hS3, hs.ups (padd_WF hW hz y2 y3 y4), w8, (hD.ext x2).el xl1, (j1 0 (by omega) (by omega)).trans hJ, xl1.2.1.trans (x1.2.1.trans ho), ?_, ?_⟩
  · show MkX 0 x.2.1 x.2.2 J1 (padd (sM s) z u p) (zn (padd (sM s) z u p)) (zn (padd (sM s) z u p)) (rn (padd (sM s) z u p)) (rn (padd (sM s) z u p)) (npt (padd (sM s) z u p)) (stp (padd (sM s) z u p))
    rw [k1, k2]
    exact hX3
  · have := c1.1; have := cs1.1
    omega
  · have := c1.2; have := cs1.2
    omega
theorem dr206 {Z z : Nat} (hz : z < Z) {k161 : Nat → Nat → Nat → Int32 → Int32 → Mem → AS → DM → Option (Nat × Mem × AS × DM)} {P : Nat × Mem × AS × DM → Prop}
    (hk : ∀ (A : AS) (dm : DM) (mm : Mem) (J : Nat → Nat) (s : ST), DI o d q (B1 + 6) (B2 + 36) A dm mm J s → zn (sM s) = Z → rn (sM s) = 0 → (∀ y, z < y → y < Z → npt (sM s) y = 0) → (∀ y, y ≤ z → wan (sM s) y ≤ 270) → Go (k161 o d q (ii (Z : Int)) (ii ((z : Int) + 1)) mm A dm) prN A P) :
    ∀ (e k f : Nat) (p : Int) (A : AS) (dm : DM) (mm : Mem) (J : Nat → Nat) (s : ST), k = e → e < f → DI o d q (B1 + 2 * (3 - k)) (B2 + 12 * (3 - k)) A dm mm J s → zn (sM s) = Z → rn (sM s) = 0 → (∀ y, z < y → y < Z → npt (sM s) y = 0) → (∀ y, y < z → wan (sM s) y ≤ 270) → wan (sM s) z ≤ 90 * npt (sM s) z → npt (sM s) z + k ≤ 3 → (0 ≤ p ∧ p ≤ lst (sM s) z) → Go (bL_drawn_l206 k161 f o d q (ii (Z : Int)) (ii (z : Int)) (ii (wan (sM s) z)) (ii p) (ii (k : Int)) mm A dm) prN A P := by
  intro e
  induction e with
  | zero =>
    intro k f p A dm mm J s h1 h2 hI i1 i2 i3 i4 i5 i6 i7
    obtain ⟨f, rfl⟩ : ∃ g, f = g + 1 := ⟨f - 1, by omega⟩
    subst h1
    have zb := hI.2.2.1.1.1.zn
    have zc := zn_c hI.2.2.1.1.1
    rw [bL_drawn_l206, l0, if_neg (by rw [ii_lt (by omega) (by omega) (by omega) (by omega)]; omega), nm_eq, l1, ii_add]
    refine hk A dm mm J s (hI.mo (by omega) (by omega)) i1 i2 i3 (fun y hy => ?_)
    by_cases e9 : y = z
    · rw [e9]
      omega
    · exact i4 y (by omega)
  | succ e ih =>
    intro k f p A dm mm J s h1 h2 hI i1 i2 i3 i4 i5 i6 i7
    obtain ⟨f, rfl⟩ : ∃ g, f = g + 1 := ⟨f - 1, by omega⟩
    have hW := hI.2.2.1.1
    have zb := hW.1.zn
    have zc := zn_c hW.1
    have hw := wwz hW.1 (z := z) (by omega)
    have hwan := wan_le hw
    have hlb := lst_bd hw
    obtain ⟨w0, n0, e0, v0, x0, d0⟩ := next_ok hI.2.2.2.2.1 (n := 90) (by omega) (by omega)
    obtain ⟨w1, n1, e1, v1, x1, d1⟩ := next_ok d0 (n := 4) (by omega) (by omega)
    have hgo : ∀ (p' : Int) (m' : DM), ExtK 7 A dm A m' → DrR A m' d → (0 ≤ p' ∧ p' ≤ p) → Go (bL_drawn_j248 k161 (fun x0 x1 x3 x4 x5 x6 x7 x8 mm9 A9 dm9 => bL_drawn_l206 k161 f x0 x1 x3 x4 x5 x6 x7 x8 mm9 A9 dm9) o d q (ii (Z : Int)) (ii (z : Int)) (ii (wan (sM s) z + (1 + w0))) (ii (k : Int)) (ii p') mm A m') prN A P := by
      intro p' m' hx hd hp'
      have hn4 : npt (sM s) z < 4 := by omega
      refine dr248 (hI.k7 hx hd) (z := z) (by omega) ⟨by omega, by rw [Int.toNat_natCast]; omega, by rw [Int.toNat_natCast]; omega, by rw [Int.toNat_natCast]; omega⟩ (fun A' dm' m9 J' hI' => ?_)
      obtain ⟨k1, k2⟩ := padd_zr (M := sM s) (z := z) (u := wan (sM s) z + (1 + w0)) (p := p') hn4
      obtain ⟨t1, t2⟩ := padd_w (M := sM s) (z := z) (u := wan (sM s) z + (1 + w0)) (p := p') hn4
      have hnext := ih (k - 1) f p' A' dm' m9 J' (sset s (padd (sM s) z (wan (sM s) z + (1 + w0)) p')) (by omega) (by omega) (hI'.mo (by omega) (by omega)) (k1.trans i1) (k2.trans i2) (fun y g1 g2 => (padd_n2 hn4 (by omega)).trans (i3 y g1 g2)) (fun y hy => by
        show wan (padd (sM s) z (wan (sM s) z + (1 + w0)) p') y ≤ 270
        rw [padd_w2 hn4 (wwz hW.1 (by omega)) (by omega)]
        exact i4 y hy) (by
        show wan (padd (sM s) z (wan (sM s) z + (1 + w0)) p') z ≤ 90 * (npt (padd (sM s) z (wan (sM s) z + (1 + w0)) p') z : Nat)
        rw [t1, padd_n]
        omega) (by
        show npt (padd (sM s) z (wan (sM s) z + (1 + w0)) p') z + (k - 1) ≤ 3
        rw [padd_n]
        omega) (by
        show 0 ≤ p' ∧ p' ≤ lst (padd (sM s) z (wan (sM s) z + (1 + w0)) p') z
        rw [t2]
        omega)
      rw [lm1, ii_add, show (k : Int) + -1 = ((k - 1 : Nat) : Int) by omega]
      rw [show wan (sM (sset s (padd (sM s) z (wan (sM s) z + (1 + w0)) p'))) z = wan (sM s) z + (1 + w0) from t1] at hnext
      exact hnext
    rw [bL_drawn_l206, l0, if_pos (by rw [ii_lt (by omega) (by omega) (by omega) (by omega)]; omega), gkd_i hI.2.2.2.2.1.1, show (90 : Int32) = ii 90 by decide, e0, bd_some]
    dsimp only
    rw [l1, ii_add, ii_add, nm_eq, gkd_i hI.2.2.2.2.1.1, l4, e1, bd_some]
    dsimp only
    rw [ifeq (by omega) (by omega) (by omega) (by omega)]
    by_cases c : w1 = 0
    · rw [if_pos c]
      exact hgo p n1 (x0.tr x1) d1 (by omega)
    · obtain ⟨w2, n2, e2, v2, x2, d2⟩ := next_ok d1 (n := p + 1) (by omega) (by omega)
      rw [if_neg c, gkd_i hI.2.2.2.2.1.1, ii_add, e2, bd_some]
      dsimp only
      rw [ii_sub]
      exact hgo (p - w2) n2 ((x0.tr x1).tr x2) d2 (by omega)
theorem dr161 {Z : Nat} {P : Nat × Mem × AS × DM → Prop}
    (hk : ∀ (n : Nat) (A : AS) (dm : DM) (mm : Mem) (J : Nat → Nat) (s : ST), DI o d q (B1 + 6 * Z) (B2 + 36 * Z) A dm mm J s → zn (sM s) = Z → rn (sM s) = 0 → (∀ y, y < Z → wan (sM s) y ≤ 270) → (1 ≤ n ∧ n ≤ 6) → Go (bL_drawn_l366 FU o d q (ii (Z : Int)) (ii (n : Int)) mm A dm) prN A P) :
    ∀ (e z f : Nat) (A : AS) (dm : DM) (mm : Mem) (J : Nat → Nat) (s : ST), z + e = Z → e < f → DI o d q (B1 + 6 * z) (B2 + 36 * z) A dm mm J s → zn (sM s) = Z → rn (sM s) = 0 → (∀ y, z ≤ y → y < Z → npt (sM s) y = 0) → (∀ y, y < z → wan (sM s) y ≤ 270) → Go (bL_drawn_l161 f o d q (ii (Z : Int)) (ii (z : Int)) mm A dm) prN A P := by
  intro e
  induction e with
  | zero =>
    intro z f A dm mm J s h1 h2 hI i1 i2 i3 i4
    obtain ⟨f, rfl⟩ : ∃ g, f = g + 1 := ⟨f - 1, by omega⟩
    have e : z = Z := by omega
    subst e
    have zb := hI.2.2.1.1.1.zn
    have zc := zn_c hI.2.2.1.1.1
    obtain ⟨w0, n0, e0, v0, x0, d0⟩ := next_ok hI.2.2.2.2.1 (n := 6) (by omega) (by omega)
    rw [bL_drawn_l161, if_neg (by rw [ii_lt (by omega) (by omega) (by omega) (by omega)]; omega), gkd_i hI.2.2.2.2.1.1, show (6 : Int32) = ii 6 by decide, e0, bd_some]
    dsimp only
    rw [l1, ii_add, nm_eq, show 1 + w0 = ((1 + w0).toNat : Int) by omega]
    exact hk (1 + w0).toNat A n0 mm J s (hI.k7 x0 d0) i1 i2 i4 (by omega)
  | succ e ih =>
    intro z f A dm mm J s h1 h2 hI i1 i2 i3 i4
    obtain ⟨f, rfl⟩ : ∃ g, f = g + 1 := ⟨f - 1, by omega⟩
    have zb := hI.2.2.1.1.1.zn
    have zc := zn_c hI.2.2.1.1.1
    have hn0 := i3 z (by omega) (by omega)
    have hw0 : wan (sM s) z = 0 := by unfold wan; rw [if_pos hn0]
    have hl0 : lst (sM s) z = 9999 := by unfold lst; rw [if_pos hn0]
    obtain ⟨w0, n0, e0, v0, x0, d0⟩ := next_ok hI.2.2.2.2.1 (n := 900) (by omega) (by omega)
    obtain ⟨w1, n1, e1, v1, x1, d1⟩ := next_ok d0 (n := 4) (by omega) (by omega)
    rw [bL_drawn_l161, if_pos (by rw [ii_lt (by omega) (by omega) (by omega) (by omega)]; omega), gkd_i hI.2.2.2.2.1.1, show (900 : Int32) = ii 900 by decide, e0, bd_some]
    dsimp only
    rw [l100, ii_add, nm_eq, gkd_i hI.2.2.2.2.1.1, l4, e1, bd_some]
    dsimp only
    have := dr206 (B1 := B1 + 6 * z) (B2 := B2 + 36 * z) (o := o) (d := d) (q := q) (Z := Z) (z := z) (by omega) (k161 := fun x0 x1 x3 x4 x5 mm9 A9 dm9 => bL_drawn_l161 f x0 x1 x3 x4 x5 mm9 A9 dm9) (P := P) (fun A dm mm J s hI' g1 g2 g3 g4 => ih (z + 1) f A dm mm J s (by omega) (by omega) (hI'.mo (by omega) (by omega)) g1 g2 (fun y a b => g3 y (by omega) b) (fun y a => g4 y (by omega))) w1.toNat w1.toNat FU (100 + w0) A n1 mm J s rfl (by have : FU = 20000 := rfl; omega) ((hI.k7 (x0.tr x1) d1).mo (by omega) (by omega)) i1 i2 (fun y a b => i3 y (by omega) b) i4 (by omega) (by omega) (by omega)
    rw [hw0, show (w1.toNat : Int) = w1 by omega] at this
    rw [l0]
    exact this
end
