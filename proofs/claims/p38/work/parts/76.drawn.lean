/-! resources, floors, the ceiling drawn -/
section
variable {A A1 A2 A0 : AS} {dm m1 m2 dm0 : DM} {J J' : Nat → Nat} {M M' : WM} {s : ST} {mm m' : Mem} {o d q : Nat} {B1 B2 : Int}
theorem plc_4 {n : Nat} (hn : (n : Int) < M 1) : plc M 4 (n : Int) 1 = ((84 + 13 * n : Nat) : Int) := by
  unfold plc
  rw [if_pos (by omega), if_neg (by omega), if_neg (by omega), if_neg (by omega), if_neg (by omega), if_pos rfl, if_pos ⟨by omega, by omega⟩]
  omega
theorem plc_0 {k v : Int} (hk : 0 ≤ k ∧ k ≤ 3) (hv : 0 ≤ v ∧ v ≤ 9999) : plc M 0 k v = ((3 + k.toNat : Nat) : Int) := by
  unfold plc
  rw [if_pos hv, if_pos rfl, if_pos hk]
  omega
theorem plc_1 {k v : Int} (hv : 0 ≤ v ∧ v ≤ 9999) : plc M 1 k v = ((2 : Nat) : Int) := by
  unfold plc
  rw [if_pos hv, if_neg (by omega), if_pos rfl]
  rfl
theorem DI.upc (h : DI o d q B1 B2 A dm mm J s) {j : Nat} {v : Int} (hW : SW (sset s (up (sM s) j v))) (hC : CI m' (sset s (up (sM s) j v))) (hX : MkX 0 A m1 J (up (sM s) j v) (zn (sM s)) (zn (sM s)) (rn (sM s)) (rn (sM s)) (npt (sM s)) (stp (sM s))) (hj : j ≠ 0 ∧ j ≠ 1 ∧ (∀ z, z < zn (sM s) → j ≠ 10 + 12 * z) ∧ (∀ r, r < rn (sM s) → j ≠ 85 + 13 * r)) (hD : DrR A m1 d) : DI o d q B1 B2 A m1 m' J (sset s (up (sM s) j v)) := by
  refine ⟨?_, h.2.1, hW, hC, hD, h.2.2.2.2.2⟩
  refine MkX.re (M := sM s) hX (up_ne _ _ (by omega)) (up_ne _ _ (by omega)) (fun z hz => ?_) (fun r hr => ?_)
  · unfold npt
    rw [show sM (sset s (up (sM s) j v)) = up (sM s) j v from rfl, up_ne _ _ (by have := hj.2.2.1 z hz; omega)]
  · unfold stp
    rw [show sM (sset s (up (sM s) j v)) = up (sM s) j v from rfl, up_ne _ _ (by have := hj.2.2.2 r hr; omega)]
theorem dr496 {Z n : Nat} {x5 : Int} {x6 : Nat} {z sz kd ow mu : Int} {k366 : Nat → Nat → Nat → Int32 → Int32 → Mem → AS → DM → Option (Nat × Mem × AS × DM)} {P : Nat × Mem × AS × DM → Prop}
    (hk : ∀ (A : AS) (dm : DM) (mm : Mem) (J : Nat → Nat) (s : ST), DI o d q (B1 + 6) (B2 + 36) A dm mm J s → RS Z (n + 1) (sM s) → Go (k366 o d q (ii (Z : Int)) (ii (x5 - 1)) mm A dm) prN A P)
    (hX : MkX 0 A dm J (radd (sM s) z sz kd ow mu 0) (zn (sM s)) (zn (sM s)) (n + 1) (n + 1) (npt (radd (sM s) z sz kd ow mu 0)) (stp (radd (sM s) z sz kd ow mu 0))) (hS : Sep A J) (hs : SW s) (hC : CI mm s) (hD : DrR A dm d) (hJ : J 0 = q) (ho : A.2.2.2 = o) (b1 : (A.1 : Int) ≤ B1) (b2 : (A.2.1 : Int) ≤ B2) (hR : RS Z n (sM s)) (hn : n < 6) (hy : okr (sM s) z sz kd ow) (hmu : mu = 0 ∨ mu = 1) (h6 : x6 = J (40 + n)) :
    Go (bL_drawn_j496 k366 o d q (ii (Z : Int)) (ii x5) x6 (ii mu) (ii ow) (ii kd) (ii sz) (ii z) o mm A dm) prN A P := by
  have hW := hs.1
  have rc := rn_c hW.1
  have rb := hW.1.rn
  have zc := zn_c hW.1
  have zb := hW.1.zn
  have hrn := hR.2.1
  have hWr : WF (radd (sM s) z sz kd ow mu 0) := radd_WF hW (by omega) hy.2.1 hy.2.2.1 hy.2.2.2.1 hy.2.2.2.2 hmu (Or.inl rfl)
  obtain ⟨mz, w7, w8⟩ := c_resource_y hC hs hy hmu
  obtain ⟨w0, n0, e0, v0, x0, d0⟩ := next_ok hD (n := 3) (by omega) (by omega)
  obtain ⟨k1, k2⟩ := radd_rn (M := sM s) (z := z) (sz := sz) (kd := kd) (ow := ow) (mu := mu) (fr := 0)
  have hvs := (radd_v (M := sM s) (z := z) (sz := sz) (kd := kd) (ow := ow) (mu := mu) (fr := 0))
  rw [hrn] at k1 hvs
  have hR1 : RS Z (n + 1) (radd (sM s) z sz kd ow mu 0) := by
    refine ⟨k2.trans hR.1, k1, fun y hyy => ?_⟩
    rw [wan_cg (fun j a b => radd_o (by omega) (by have := hR.1; omega)) (wwz hW.1 (by have := hR.1; omega))]
    exact hR.2.2 y hyy
  have hDI : DI o d q B1 B2 A dm mz J (sset s (radd (sM s) z sz kd ow mu 0)) := by
    refine ⟨?_, hS, hs.ups hWr, w8, hD, hJ, ho, b1, b2⟩
    show MkX 0 A dm J (radd (sM s) z sz kd ow mu 0) (zn (radd (sM s) z sz kd ow mu 0)) (zn (radd (sM s) z sz kd ow mu 0)) (rn (radd (sM s) z sz kd ow mu 0)) (rn (radd (sM s) z sz kd ow mu 0)) (npt (radd (sM s) z sz kd ow mu 0)) (stp (radd (sM s) z sz kd ow mu 0))
    rw [k1, k2]
    exact hX
  have hDI2 := hDI.k7 x0 d0
  unfold bL_drawn_j496
  rw [gob_i ho.symm, w7, bd_some]
  dsimp only
  rw [gkd_i hD.1, l3, e0, bd_some, hrn]
  dsimp only
  rw [l0, ifeq (by omega) (by omega) (by omega) (by omega)]
  by_cases c : w0 = 0
  · rw [if_pos c]
    have hrow := hDI2.1.2.2.2.2.2.2.2.2.2.2.1 n (by show n < rn (radd (sM s) z sz kd ow mu 0); omega) (by omega)
    rw [← h6] at hrow
    have hn1 : (n : Int) < sM (sset s (radd (sM s) z sz kd ow mu 0)) 1 := by
      show (n : Int) < radd (sM s) z sz kd ow mu 0 1
      have : radd (sM s) z sz kd ow mu 0 1 = (rn (sM s) : Int) + 1 := rfl
      omega
    obtain ⟨mx, e1, e2, e3⟩ := c_set_y w8 (hs.ups hWr) (a := 4) (k := (n : Int)) (v := 1) (by omega) (by omega) (by omega) (by omega) (by omega) (by omega) (j := 84 + 13 * n) (plc_4 hn1)
    rw [l5, l1, hrow.wr (a := 5) (i := 5) rfl (by omega), gob_i ho.symm, l4, e1, bd_some]
    dsimp only
    have hX3 : MkX 0 A (up3 n0 (J (40 + n)) 5 (.int (ii 1))) J (up (radd (sM s) z sz kd ow mu 0) (84 + 13 * n) 1) (zn (radd (sM s) z sz kd ow mu 0)) (zn (radd (sM s) z sz kd ow mu 0)) (rn (radd (sM s) z sz kd ow mu 0)) (rn (radd (sM s) z sz kd ow mu 0)) (npt (radd (sM s) z sz kd ow mu 0)) (stp (radd (sM s) z sz kd ow mu 0)) := by
      refine g_rrow hS hDI2.1 (y0 := n) (k := 5) (w := 1) (by show n < rn (radd (sM s) z sz kd ow mu 0); omega) (up_ne _ _ (by omega)) (fun k hk => up_ne _ _ (by omega)) (fun y hyy i hi => zrw_cg (fun j a b => up_ne _ _ (by have : y < zn (radd (sM s) z sz kd ow mu 0) := hyy; omega)) hi) (fun y hyy k hk i hi => ptr_cg (fun j a b => up_ne _ _ ?_) hi) (fun r hr i hi => ?_) (fun r hr k hk i hi => str_cg (fun j a b => up_ne _ _ ?_) hi)
      · have hyy : y < zn (radd (sM s) z sz kd ow mu 0) := hyy
        have := npt_le (wwz hWr.1 hyy)
        have hk : k < npt (radd (sM s) z sz kd ow mu 0) y := hk
        omega
      · show up (radd (sM s) z sz kd ow mu 0) (84 + 13 * n) 1 (79 + 13 * r + i) = if r = n ∧ i = 5 then 1 else radd (sM s) z sz kd ow mu 0 (79 + 13 * r + i)
        unfold up
        by_cases e9 : r = n ∧ i = 5
        · rw [if_pos e9, if_pos (by omega)]
        · rw [if_neg e9, if_neg (by rcases Nat.lt_trichotomy r n with h | h | h <;> omega)]
      · have hr : r < rn (radd (sM s) z sz kd ow mu 0) := hr
        have := stp_le (wwr hWr.1 hr)
        have hk : k < stp (radd (sM s) z sz kd ow mu 0) r := hk
        rcases Nat.lt_trichotomy r n with h | h | h <;> omega
    have hD3 := d0.ne (hrow.1) (by decide) 5 (.int (ii 1))
    rw [h6] at hD3 ⊢
    have hDI3 := DI.upc hDI2 (m1 := up3 n0 (J (40 + n)) 5 (.int (ii 1))) e3 e2 hX3 ⟨by omega, by omega, fun y hyy => by have hyy : y < zn (radd (sM s) z sz kd ow mu 0) := hyy; omega, fun r hr => by omega⟩ hD3
    refine dr642 (Z := Z) (n := n) hk hDI3 (hR1.cg hWr (up_ne _ _ (by omega)) (up_ne _ _ (by omega)) (fun j a b => up_ne _ _ (by omega))) rfl ?_
    show stp (up (radd (sM s) z sz kd ow mu 0) (84 + 13 * n) 1) n = 0
    unfold stp
    rw [up_ne _ _ (by omega)]
    exact hvs.2.2.2.2.2.2
  · rw [if_neg c]
    exact dr642 (Z := Z) (n := n) hk hDI2 hR1 h6 hvs.2.2.2.2.2.2
theorem dr366 {Z : Nat} (hZ : 1 ≤ Z ∧ Z ≤ 5) {P : Nat × Mem × AS × DM → Prop}
    (hk : ∀ (r : Nat) (A : AS) (dm : DM) (mm : Mem) (J : Nat → Nat) (s : ST), DI o d q (B1 + 60) (B2 + 390) A dm mm J s → RS Z r (sM s) → r ≤ 6 → Go (bL_drawn_l805 FU o d q (ii 0) mm A dm) prN A P) :
    ∀ (e n f r : Nat) (A : AS) (dm : DM) (mm : Mem) (J : Nat → Nat) (s : ST), n = e → e < f → r + n ≤ 6 → DI o d q (B1 + 10 * (6 - n)) (B2 + 65 * (6 - n)) A dm mm J s → RS Z r (sM s) → Go (bL_drawn_l366 f o d q (ii (Z : Int)) (ii (n : Int)) mm A dm) prN A P := by
  intro e
  induction e with
  | zero =>
    intro n f r A dm mm J s h1 h2 h3 hI hR
    obtain ⟨f, rfl⟩ : ∃ g, f = g + 1 := ⟨f - 1, by omega⟩
    subst h1
    rw [bL_drawn_l366, if_neg (by rw [l0, ii_lt (by omega) (by omega) (by omega) (by omega)]; omega), l0]
    exact hk r A dm mm J s (hI.mo (by omega) (by omega)) hR (by omega)
  | succ e ih =>
    intro n f r A dm mm J s h1 h2 h3 hI hR
    obtain ⟨f, rfl⟩ : ∃ g, f = g + 1 := ⟨f - 1, by omega⟩
    obtain ⟨hX, hS, hs, hC, hD, hJ, ho, b1, b2⟩ := hI
    have hW := hs.1
    have rc := rn_c hW.1
    have rb := hW.1.rn
    have zc := zn_c hW.1
    have zb := hW.1.zn
    have hrn := hR.2.1
    have hzn := hR.1
    rw [bL_drawn_l366, if_pos (by rw [l0, ii_lt (by omega) (by omega) (by omega) (by omega)]; omega), show (6 : Int32) = ii 6 by decide, gnn_i (by omega) (by omega), show (ii 6).toNatClampNeg = 6 by decide]
    refine go_alc ?_
    have x1 := ext_nw A dm 20 6 6 (fun _ => .int 0)
    have r1 := NR_e0 A dm 6 (by decide)
    have c1 := cst_nw A 20 6 6
    have s1 : (nw A 20 6 6).1 = A.1 + 1 := rfl
    generalize nw A 20 6 6 = A1 at x1 r1 c1 s1 ⊢
    generalize nwm A dm (fun _ => Value.int 0) = m1 at x1 r1 ⊢
    have hD1 := hD.ext x1
    obtain ⟨w0, n0, q0, v0, r2, k0⟩ := fil_st x1.k (by omega) r1 hD1 (N := (Z : Int)) (by omega) (by omega) 0
    obtain ⟨y1, r3, d2⟩ := k0 w0
    obtain ⟨w1, n1, q1, v1, r4, k1⟩ := fil_st y1 (by omega) r3 d2 (N := 120) (by omega) (by omega) 1
    obtain ⟨y2, r5, d3⟩ := k1 (1 + w1)
    obtain ⟨w2, n2, q2, v2, r6, k2⟩ := fil_st y2 (by omega) r5 d3 (N := 4) (by omega) (by omega) 2
    obtain ⟨y3, r7, d4⟩ := k2 w2
    obtain ⟨w3, n3, q3, v3, r8, k3⟩ := fil_st y3 (by omega) r7 d4 (N := 6) (by omega) (by omega) 3
    obtain ⟨y4, r9, d5⟩ := k3 w3
    obtain ⟨w4, n4, q4, v4, r10, k4⟩ := fil_st y4 (by omega) r9 d5 (N := 2) (by omega) (by omega) 4
    obtain ⟨y5, r11, d6⟩ := k4 w4
    rw [gkd_i hD1.1, q0, bd_some]
    dsimp only
    rw [l0, r2.wr (a := 0) (i := 0) rfl (by omega), gkd_i hD1.1, show (120 : Int32) = ii 120 by decide, q1, bd_some]
    dsimp only
    rw [l1, ii_add, r4.wr (a := 1) (i := 1) rfl (by omega), gkd_i hD1.1, l4, q2, bd_some]
    dsimp only
    rw [l2, r6.wr (a := 2) (i := 2) rfl (by omega), gkd_i hD1.1, q3, bd_some]
    dsimp only
    rw [l3, r8.wr (a := 3) (i := 3) rfl (by omega), gkd_i hD1.1, q4, bd_some]
    dsimp only
    rw [r10.wr (a := 4) (i := 4) rfl (by omega), l5, r11.wr (a := 5) (i := 5) rfl (by omega)]
    have y6 := y5.fr (cc := A.1 + 1) (by omega) 5 (.int (ii 0))
    have r12 := r11.up 5 0
    have d7 := d6.ne r11.1 (by decide) 5 (.int (ii 0))
    generalize up3 (up3 n4 (A.1 + 1) 4 (.int (ii w4))) (A.1 + 1) 5 (.int (ii 0)) = m3 at y6 r12 d7 ⊢
    have hX1 := hX.k7 y6
    have hS1 := hS.mo (A1 := A1) (by omega)
    have hvs := (radd_v (M := sM s) (z := w0) (sz := 1 + w1) (kd := w2) (ow := w3) (mu := w4) (fr := 0))
    rw [hrn] at hvs hX1
    have hro : ∀ j, j ≠ 1 → j < 79 + 13 * r ∨ 86 + 13 * r ≤ j → radd (sM s) w0 (1 + w1) w2 w3 w4 0 j = sM s j := fun j a b => radd_o a (by omega)
    have hX2 : MkX 0 A1 m3 J (radd (sM s) w0 (1 + w1) w2 w3 w4 0) (zn (sM s)) (zn (sM s)) r r (npt (radd (sM s) w0 (1 + w1) w2 w3 w4 0)) (stp (radd (sM s) w0 (1 + w1) w2 w3 w4 0)) := by
      refine (hX1.cm (hro _ (by omega) (by omega)) (fun _ k hk => hro _ (by omega) (by omega)) (fun y hy _ i hi => zrw_cg (fun j a b => hro _ (by omega) (by omega)) hi) (fun y hy k hk i hi => ptr_cg (fun j a b => hro _ (by omega) (by have := npt_le (wwz hW.1 hy); omega)) hi) (fun y hy _ i hi => rrw_cg (fun j a b => hro _ (by omega) (by omega)) hi) (fun y hy k hk i hi => str_cg (fun j a b => hro _ (by omega) (by have := stp_le (wwr hW.1 (r := y) (by omega)); omega)) hi)).cn (fun y hy => ?_) (fun y hy => ?_)
      · unfold npt
        rw [hro _ (by omega) (by omega)]
      · unfold stp
        rw [hro _ (by omega) (by omega)]
    obtain ⟨t0, t1, t2, t3, t4, t5, t6⟩ := hvs
    have hrow : NR A1 m3 (A.1 + 1) 6 (rrw (radd (sM s) w0 (1 + w1) w2 w3 w4 0) r) := r12.cg (fun i hi => by
      rcases (show i = 0 ∨ i = 1 ∨ i = 2 ∨ i = 3 ∨ i = 4 ∨ i = 5 by omega) with rfl | rfl | rfl | rfl | rfl | rfl
      · rw [t0]; rfl
      · rw [t1]; rfl
      · rw [t2]; rfl
      · rw [t3]; rfl
      · rw [t4]; rfl
      · rw [t5]; rfl)
    obtain ⟨ob1, -, -, ob2, -⟩ := hX2.ob hJ
    rw [gkd_i ob1, gtr_i ob2, gkd_i (hX2.2.2.2.2.1 (by omega)).1]
    refine Go.call (g_res hS1 hX2 (by omega) hrow (fun i => by have := hS.1 i; omega)) (fun x hx9 _ => ?_)
    obtain ⟨-, J1, hX3, hS3, j1, j1e, xl1, cs1⟩ := hx9
    have hJ1 : J1 0 = q := (j1 0 (by omega) (by omega)).trans hJ
    obtain ⟨ob3, -, -, -, ob4, -⟩ := hX3.ob hJ1
    rw [gkd_i ob3, gtr_i ob4]
    refine go_alc ?_
    obtain ⟨m', e1, e2, e3⟩ := li_new x.2.1 x.2.2 id
    rw [e1, bd_some]
    have hX4 := hX3.ext e2
    have hS4 := hS3.mo (A1 := nw x.2.1 9 0 3) (by have := e2.1.1; omega)
    have c3 := cst_nw x.2.1 9 0 3
    have hD4 := (d7.el xl1).ext e2
    have ho4 : (nw x.2.1 9 0 3).2.2.2 = o := e2.2.1.trans (xl1.2.1.trans (x1.2.1.trans ho))
    generalize nw x.2.1 9 0 3 = A4 at e1 e2 e3 hX4 hS4 c3 hD4 ho4 ⊢
    rw [gkd_i (hX4.2.2.2.2.2.1 (by omega)).1]
    refine Go.call (g_steps hS4 hX4 t6 (by omega) e3 (fun i => by have := hS3.1 i; omega)) (fun y hy9 _ => ?_)
    obtain ⟨-, J2, hX5, hS5, j2, j2e, xl2, cs2⟩ := hy9
    have hJ2 : J2 0 = q := (j2 0 (by omega) (by omega)).trans hJ1
    have h6 : A.1 + 1 = J2 (40 + r) := by rw [j2 _ (by omega) (by omega), j1e]
    have hr5 := hX5.2.2.2.2.2.2.2.2.2.2.1 r (by omega) (by omega)
    rw [← h6] at hr5
    obtain ⟨ob5, -, -, ob6, -⟩ := hX5.ob hJ2
    have hl5 := hX5.2.2.2.2.1 (by omega)
    rw [gkd_i ob5, gtr_i ob6, gkd_i hl5.1, bAL_size_ok hl5, bd_some, ii_sub, nm_eq, hr5.rd (a := 0) (i := 0) rfl (by omega), hr5.rd (a := 1) (i := 1) rfl (by omega), hr5.rd (a := 2) (i := 2) rfl (by omega), hr5.rd (a := 3) (i := 3) rfl (by omega), hr5.rd (a := 4) (i := 4) rfl (by omega), t0, t1, t2, t3, t4, ifeq (by omega) (by omega) (by omega) (by omega)]
    have hbd1 : (y.2.1.1 : Int) ≤ B1 + 10 * (6 - (n : Int)) + 4 := by
      have := c1.1; have := cs1.1; have := c3.1; have := cs2.1
      omega
    have hbd2 : (y.2.1.2.1 : Int) ≤ B2 + 65 * (6 - (n : Int)) + 29 := by
      have := c1.2; have := cs1.2; have := c3.2; have := cs2.2
      omega
    have hfin : Go (bL_drawn_j496 (fun x0 x1 x3 x4 x5 mm9 A9 dm9 => bL_drawn_l366 f x0 x1 x3 x4 x5 mm9 A9 dm9) o d q (ii (Z : Int)) (ii (n : Int)) (A.1 + 1) (ii w4) (ii w3) (ii w2) (ii (1 + w1)) (ii w0) o mm y.2.1 y.2.2) prN y.2.1 P := by
      refine dr496 (Z := Z) (n := r) (B1 := B1 + 10 * (6 - (n : Int)) + 4) (B2 := B2 + 65 * (6 - (n : Int)) + 29) (fun A dm mm J s hI' hR' => ?_) hX5 hS5 hs hC (hD4.el xl2) hJ2 (xl2.2.1.trans ho4) hbd1 hbd2 hR (by omega) ⟨by omega, by omega, by omega, by omega, by omega⟩ (by omega) h6
      have := ih (n - 1) f (r + 1) A dm mm J s (by omega) (by omega) (by omega) (hI'.mo (by omega) (by omega)) hR'
      rw [show (n : Int) - 1 = ((n - 1 : Nat) : Int) by omega]
      exact this
    by_cases c : w4 = 1
    · rw [if_pos c]
      rw [c] at hfin
      exact hfin
    · rw [if_neg c]
      rw [show w4 = 0 by omega] at hfin
      exact hfin
theorem dr805 {Z r : Nat} (hZ : 1 ≤ Z ∧ Z ≤ 5) (hr6 : r ≤ 6) :
    ∀ (e k f : Nat) (A : AS) (dm : DM) (mm : Mem) (J : Nat → Nat) (s : ST), k + e = 2 → e < f → DI o d q B1 B2 A dm mm J s → RS Z r (sM s) → Go (bL_drawn_l805 f o d q (ii (k : Int)) mm A dm) prN A (fun y => y.1 = q ∧ ∃ J s, DI o d q B1 B2 y.2.2.1 y.2.2.2 y.2.1 J s ∧ RS Z r (sM s)) := by
  intro e
  induction e with
  | zero =>
    intro k f A dm mm J s h1 h2 hI hR
    obtain ⟨f, rfl⟩ : ∃ g, f = g + 1 := ⟨f - 1, by omega⟩
    have e : k = 2 := by omega
    subst e
    have hW := hI.2.2.1.1
    obtain ⟨w0, n0, e0, v0, x0, d0⟩ := next_ok hI.2.2.2.2.1 (n := 2) (by omega) (by omega)
    have hI0 := hI.k7 x0 d0
    rw [bL_drawn_l805, l2, if_neg (by rw [ii_lt (by omega) (by omega) (by omega) (by omega)]; omega), gkd_i hI.2.2.2.2.1.1, e0, bd_some]
    dsimp only
    rw [l0, ifeq (by omega) (by omega) (by omega) (by omega)]
    by_cases c : w0 = 0
    · obtain ⟨w1, n1, e1, v1, x1, d1⟩ := next_ok d0 (n := 500) (by omega) (by omega)
      have hI1 := hI0.k7 x1 d1
      obtain ⟨ob1, -⟩ := hI1.1.ob hI1.2.2.2.2.2.1
      have ho := hI1.2.2.2.2.2.2.1
      obtain ⟨mx, g1, g2, g3⟩ := c_set_y hI1.2.2.2.1 hI1.2.2.1 (a := 1) (k := 0) (v := 100 + w1) (by omega) (by omega) (by omega) (by omega) (by omega) (by omega) (j := 2) (plc_1 (by omega))
      have zb := hW.1.zn
      have zc := zn_c hW.1
      have rc := rn_c hW.1
      have hX := g_ceil (M' := up (sM s) 2 (100 + w1)) (w := 100 + w1) hI1.1 (by unfold up; rw [if_pos rfl]) (fun i hi => up_ne _ _ (by omega)) (fun y hy i hi => zrw_cg (fun j a b => up_ne _ _ (by omega)) hi) (fun y hy k hk i hi => ptr_cg (fun j a b => up_ne _ _ (by omega)) hi) (fun y hy i hi => rrw_cg (fun j a b => up_ne _ _ (by omega)) hi) (fun y hy k hk i hi => str_cg (fun j a b => up_ne _ _ (by omega)) hi)
      rw [hI1.2.2.2.2.2.1] at hX
      have hR2 : RS Z r (up (sM s) 2 (100 + w1)) := hR.cg hW (up_ne _ _ (by omega)) (up_ne _ _ (by omega)) (fun j a b => up_ne _ _ (by omega))
      rw [if_pos c, gkd_i hI.2.2.2.2.1.1, l500, e1, bd_some]
      dsimp only
      rw [gkd_i ob1, l100, ii_add, nm_eq, gkd_i ob1, gti_i up3_s, gob_i ho.symm, l1, g1, bd_some]
      exact Go.mk (le2.rf _) ⟨rfl, J, _, DI.upc hI1 g3 g2 hX ⟨by omega, by omega, fun z hz => by omega, fun r hr => by omega⟩ (d1.ne ob1 (by decide) 5 _), hR2⟩
    · rw [if_neg c]
      exact Go.mk (le2.rf _) ⟨rfl, J, s, hI0, hR⟩
  | succ e ih =>
    intro k f A dm mm J s h1 h2 hI hR
    obtain ⟨f, rfl⟩ : ∃ g, f = g + 1 := ⟨f - 1, by omega⟩
    have hW := hI.2.2.1.1
    obtain ⟨w0, n0, e0, v0, x0, d0⟩ := next_ok hI.2.2.2.2.1 (n := 4) (by omega) (by omega)
    have hI0 := hI.k7 x0 d0
    obtain ⟨w1, n1, e1, v1, x1, d1⟩ := next_ok d0 (n := 300) (by omega) (by omega)
    have hI1 := hI0.k7 x1 d1
    obtain ⟨ob0, -, -, -, -, oc0⟩ := hI0.1.ob hI0.2.2.2.2.2.1
    have ho := hI1.2.2.2.2.2.2.1
    have hrow := hI1.1.2.2.2.2.2.2.1 (by omega)
    have hrow2 := hrow.up w0.toNat w1
    obtain ⟨mx, g1, g2, g3⟩ := c_set_y hI1.2.2.2.1 hI1.2.2.1 (a := 0) (k := w0) (v := w1) (by omega) (by omega) (by omega) (by omega) (by omega) (by omega) (j := 3 + w0.toNat) (plc_0 (by omega) (by omega))
    have zb := hW.1.zn
    have zc := zn_c hW.1
    have rc := rn_c hW.1
    have hX := g_floor (M' := up (sM s) (3 + w0.toNat) w1) (k := w0.toNat) (w := w1) hI1.2.1 hI1.1 (up_ne _ _ (by omega)) (fun i hi => by
      unfold up
      by_cases e9 : i = w0.toNat
      · rw [if_pos e9, if_pos (by omega)]
      · rw [if_neg e9, if_neg (by omega)]) (fun y hy i hi => zrw_cg (fun j a b => up_ne _ _ (by omega)) hi) (fun y hy k hk i hi => ptr_cg (fun j a b => up_ne _ _ (by omega)) hi) (fun y hy i hi => rrw_cg (fun j a b => up_ne _ _ (by omega)) hi) (fun y hy k hk i hi => str_cg (fun j a b => up_ne _ _ (by omega)) hi)
    have hI2 := DI.upc hI1 g3 g2 hX ⟨by omega, by omega, fun z hz => by omega, fun r hr => by omega⟩ (d1.ne hrow.1 (by decide) w0.toNat _)
    obtain ⟨ob2, -, -, -, -, oc2⟩ := hI2.1.ob hI2.2.2.2.2.2.1
    rw [bL_drawn_l805, l2, if_pos (by rw [ii_lt (by omega) (by omega) (by omega) (by omega)]; omega), gkd_i hI.2.2.2.2.1.1, l4, e0, bd_some]
    dsimp only
    rw [gkd_i ob0, gtr_i oc0, gkd_i hI.2.2.2.2.1.1, show (300 : Int32) = ii 300 by decide, e1, bd_some]
    dsimp only
    rw [hrow.wr (a := w0) (i := w0.toNat) (by omega) (by omega), gkd_i ob2, gtr_i oc2, hrow2.rd (a := w0) (i := w0.toNat) (by omega) (by omega), if_pos rfl, gob_i ho.symm, l0, g1, bd_some, nm_eq, l1, ii_add]
    have hR2 : RS Z r (up (sM s) (3 + w0.toNat) w1) := hR.cg hW (up_ne _ _ (by omega)) (up_ne _ _ (by omega)) (fun j a b => up_ne _ _ (by omega))
    exact ih (k + 1) f A _ mx J _ (by omega) (by omega) hI2 hR2
end
