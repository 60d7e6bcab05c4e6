/-! resources and their steps drawn -/
section
variable {A A1 A2 A0 : AS} {dm m1 m2 dm0 : DM} {J J' : Nat → Nat} {M M' : WM} {s : ST} {mm : Mem} {o d q : Nat} {B1 B2 : Int}
theorem wan_cg {y : Nat} (h : ∀ j, 7 + 12 * y ≤ j → j < 19 + 12 * y → M' j = M j) (hw : ZW M y) : wan M' y = wan M y := by
  have hnp := npt_le hw
  unfold wan
  rw [npt_cg h]
  by_cases c : npt M y = 0
  · rw [if_pos c, if_pos c]
  · rw [if_neg c, if_neg c]
    exact h _ (by omega) (by omega)
theorem MkX.re (h : MkX 0 A dm J M' (zn M) (zn M) (rn M) (rn M) (npt M) (stp M)) (h0 : M' 0 = M 0) (h1 : M' 1 = M 1) (hn : ∀ z, z < zn M → npt M' z = npt M z) (hs : ∀ r, r < rn M → stp M' r = stp M r) : MkX 0 A dm J M' (zn M') (zn M') (rn M') (rn M') (npt M') (stp M') := by
  have e0 : zn M' = zn M := by unfold zn; rw [h0]
  have e1 : rn M' = rn M := by unfold rn; rw [h1]
  rw [e0, e1]
  exact h.cn hn hs
theorem radd_v {z sz kd ow mu fr : Int} : rrw (radd M z sz kd ow mu fr) (rn M) 0 = z ∧ rrw (radd M z sz kd ow mu fr) (rn M) 1 = sz ∧ rrw (radd M z sz kd ow mu fr) (rn M) 2 = kd ∧ rrw (radd M z sz kd ow mu fr) (rn M) 3 = ow ∧ rrw (radd M z sz kd ow mu fr) (rn M) 4 = mu ∧ rrw (radd M z sz kd ow mu fr) (rn M) 5 = fr ∧ stp (radd M z sz kd ow mu fr) (rn M) = 0 := by
  refine ⟨?_, ?_, ?_, ?_, ?_, ?_, ?_⟩
  · unfold rrw radd up
    rw [if_neg (by omega), if_neg (by omega), if_neg (by omega), if_neg (by omega), if_neg (by omega), if_neg (by omega), if_neg (by omega), if_pos (by omega)]
  · unfold rrw radd up
    rw [if_neg (by omega), if_neg (by omega), if_neg (by omega), if_neg (by omega), if_neg (by omega), if_neg (by omega), if_pos (by omega)]
  · unfold rrw radd up
    rw [if_neg (by omega), if_neg (by omega), if_neg (by omega), if_neg (by omega), if_neg (by omega), if_pos (by omega)]
  · unfold rrw radd up
    rw [if_neg (by omega), if_neg (by omega), if_neg (by omega), if_neg (by omega), if_pos (by omega)]
  · unfold rrw radd up
    rw [if_neg (by omega), if_neg (by omega), if_neg (by omega), if_pos (by omega)]
  · unfold rrw radd up
    rw [if_neg (by omega), if_neg (by omega), if_pos (by omega)]
  · have : radd M z sz kd ow mu fr (85 + 13 * rn M) = 0 := by
      unfold radd up
      rw [if_neg (by omega), if_pos rfl]
    unfold stp
    rw [this]
    rfl
theorem radd_rn {z sz kd ow mu fr : Int} : rn (radd M z sz kd ow mu fr) = rn M + 1 ∧ zn (radd M z sz kd ow mu fr) = zn M := by
  refine ⟨?_, ?_⟩
  · show ((rn M : Int) + 1).toNat = _
    omega
  · unfold zn
    rw [radd_o (by omega) (by omega)]
theorem sadd_e {r : Nat} {u p : Int} {j : Nat} (h0 : j ≠ 85 + 13 * r) (h1 : j ≠ 86 + 13 * r + 2 * stp M r) (h2 : j ≠ 87 + 13 * r + 2 * stp M r) : sadd M r u p j = M j := by
  unfold sadd up
  rw [if_neg h0, if_neg h2, if_neg h1]
theorem sadd_n {r : Nat} {u p : Int} : stp (sadd M r u p) r = stp M r + 1 := by
  have : sadd M r u p (85 + 13 * r) = (stp M r : Int) + 1 := by
    unfold sadd up
    rw [if_pos rfl]
  unfold stp
  rw [this]
  unfold stp
  omega
theorem sadd_n2 {r y : Nat} {u p : Int} (hn : stp M r < 3) (hy : y ≠ r) : stp (sadd M r u p) y = stp M y := by
  unfold stp
  rw [sadd_o (by omega) hn]
theorem sadd_p {r : Nat} {u p : Int} (hn : stp M r < 3) : str (sadd M r u p) r (stp M r) 0 = u ∧ str (sadd M r u p) r (stp M r) 1 = p := by
  refine ⟨?_, ?_⟩
  · show sadd M r u p (86 + 13 * r + 2 * stp M r) = u
    unfold sadd up
    rw [if_neg (by omega), if_neg (by omega), if_pos rfl]
  · show sadd M r u p (87 + 13 * r + 2 * stp M r) = p
    unfold sadd up
    rw [if_neg (by omega), if_pos rfl]
theorem sadd_l {r : Nat} {u p : Int} (hn : stp M r < 3) : lpr (sadd M r u p) r = p := by
  have h2 : sp (sadd M r u p) r (stp M r) = p := (sadd_p (u := u) hn).2
  unfold lpr
  rw [sadd_n, if_neg (by omega), show stp M r + 1 - 1 = stp M r by omega]
  exact h2
/-- one more step, in cells and in the class -/
theorem dr699 {r : Nat} {u p0 p1 l : Int} {kx x4 x5 : Int32} {k366 : Nat → Nat → Nat → Int32 → Int32 → Mem → AS → DM → Option (Nat × Mem × AS × DM)} {k658 : Nat → Nat → Nat → Int32 → Int32 → Int32 → Int32 → Int32 → Int32 → Mem → AS → DM → Option (Nat × Mem × AS × DM)} {P : Nat × Mem × AS × DM → Prop}
    (hI : DI o d q B1 B2 A dm mm J s) (hr : r < rn (sM s)) (hy : oks (sM s) (r : Int) u (p1 + p0))
    (hk : ∀ (A' : AS) (dm' : DM) (m' : Mem) (J' : Nat → Nat), DI o d q (B1 + 2) (B2 + 12) A' dm' m' J' (sset s (sadd (sM s) r u (p1 + p0))) → Go (k658 o d q x4 x5 (ii (r : Int)) (ii (l - u)) (ii (p1 + p0)) (kx + -1) m' A' dm') prN A' P) : Go (bL_drawn_j699 k366 k658 o d q x4 x5 (ii (r : Int)) (ii l) kx (ii u) (ii p0) (ii p1) mm A dm) prN A P := by
  obtain ⟨hX, hS, hs, hC, hD, hJ, ho, b1, b2⟩ := hI
  have hW := hs.1
  have zc := zn_c hW.1
  have zb := hW.1.zn
  have rc := rn_c hW.1
  have rb := hW.1.rn
  have hw := wwr hW.1 hr
  have hst := stp_le hw
  obtain ⟨y1, y2, y3, y4⟩ := hy
  rw [Int.toNat_natCast] at y2 y3 y4
  have hlb := lpr_bd hw
  obtain ⟨ob1, -, -, -, ob2, -⟩ := hX.ob hJ
  have hl := hX.2.2.2.2.2.1 (by omega)
  have hc := hX.2.2.2.2.2.2.2.2.2.2.2.1 r hr (by omega)
  unfold bL_drawn_j699
  rw [ii_add, nm_eq, ii_sub, nm_eq, gkd_i ob1, gtr_i ob2, gkd_i hl.1, bAL_get_ok hl rfl hr, bd_some, gkd_i hc.1, l2, gnn_i (by omega) (by omega), show (ii 2).toNatClampNeg = 2 by decide]
  refine go_alc ?_
  have x1 := ext_nw A dm 20 2 2 (fun _ => .int 0)
  have r1 := NR_e0 A dm 2 (by decide)
  have c1 := cst_nw A 20 2 2
  have s1 : (nw A 20 2 2).1 = A.1 + 1 := rfl
  generalize nw A 20 2 2 = A1 at x1 r1 c1 s1 ⊢
  generalize nwm A dm (fun _ => Value.int 0) = m1 at x1 r1 ⊢
  rw [l0, r1.wr (a := 0) (i := 0) rfl (by omega), l1, (r1.up 0 u).wr (a := 1) (i := 1) rfl (by omega)]
  have x2 := (x1.up (c := A.1 + 1) (by omega) 0 (.int (ii u))).up (c := A.1 + 1) (by omega) 1 (.int (ii (p1 + p0)))
  have r2 := (r1.up 0 u).up 1 (p1 + p0)
  generalize up3 (up3 m1 (A.1 + 1) 0 (.int (ii u))) (A.1 + 1) 1 (.int (ii (p1 + p0))) = m2 at x2 r2 ⊢
  have hX1 := hX.ext x2
  have hX2 : MkX 0 A1 m2 J (sadd (sM s) r u (p1 + p0)) (zn (sM s)) (zn (sM s)) (rn (sM s)) (rn (sM s)) (npt (sadd (sM s) r u (p1 + p0))) (stp (sM s)) := by
    refine (hX1.cm (sadd_o (by omega) y2) (fun _ k hk => sadd_o (by omega) y2) (fun y hy _ i hi => zrw_cg (fun j g1 g2 => sadd_o (by omega) y2) hi) (fun y hy k hk i hi => ptr_cg (fun j g1 g2 => sadd_o (by have := npt_le (wwz hW.1 hy); omega) y2) hi) (fun y hy _ i hi => rrw_cg (fun j g1 g2 => by rcases Nat.lt_trichotomy y r with q9 | q9 | q9 <;> exact sadd_e (by omega) (by omega) (by omega)) hi) (fun y hy k hk i hi => str_cg (fun j g1 g2 => ?_) hi)).cn (fun z hz => ?_) (fun z hz => rfl)
    · have := stp_le (wwr hW.1 hy)
      by_cases e9 : y = r
      · subst e9
        exact sadd_e (by omega) (by omega) (by omega)
      · exact sadd_e (by omega) (by omega) (by omega)
    · unfold npt
      rw [sadd_o (by omega) y2]
  have hrow : NR A1 m2 (A.1 + 1) 2 (str (sadd (sM s) r u (p1 + p0)) r (stp (sM s) r)) := r2.cg (fun i hi => by
    obtain ⟨t0, t1⟩ := sadd_p (M := sM s) (r := r) (u := u) (p := p1 + p0) y2
    rcases (show i = 0 ∨ i = 1 by omega) with rfl | rfl
    · rw [t0]; rfl
    · rw [t1]; rfl)
  rw [gkd_i (hX2.2.2.2.2.2.2.2.2.2.2.2.1 r hr (by omega)).1]
  refine Go.call (g_step (ns' := stp (sadd (sM s) r u (p1 + p0))) (hS.mo (A1 := A1) (by omega)) hX2 hr sadd_n (fun y hy => sadd_n2 y2 hy) (by omega) hrow (fun i => by have := hS.1 i; omega)) (fun x hx9 _ => ?_)
  obtain ⟨-, J1, hX3, hS3, j1, j1e, xl1, cs1⟩ := hx9
  obtain ⟨mz, w7, -, w8⟩ := c_step_y hC hs (a := (r : Int)) (u := u) (p := p1 + p0) ⟨y1, by rw [Int.toNat_natCast]; exact y2, by rw [Int.toNat_natCast]; exact y3, by rw [Int.toNat_natCast]; exact y4⟩
  rw [Int.toNat_natCast] at w7 w8
  rw [gob_i (ho.symm.trans (x1.2.1.symm.trans xl1.2.1.symm)), w7, bd_some, nm_eq, show -ii 1 = (-1 : Int32) by decide]
  have k1 : zn (sadd (sM s) r u (p1 + p0)) = zn (sM s) := by unfold zn; rw [sadd_o (by omega) y2]
  have k2 : rn (sadd (sM s) r u (p1 + p0)) = rn (sM s) := by unfold rn; rw [sadd_o (by omega) y2]
  refine hk x.2.1 x.2.2 mz J1 ⟨?_, hS3, hs.ups (sadd_WF hW hr y2 y3 y4), w8, (hD.ext x2).el xl1, (j1 0 (by omega) (by omega)).trans hJ, xl1.2.1.trans (x1.2.1.trans ho), ?_, ?_⟩
  · show MkX 0 x.2.1 x.2.2 J1 (sadd (sM s) r u (p1 + p0)) (zn (sadd (sM s) r u (p1 + p0))) (zn (sadd (sM s) r u (p1 + p0))) (rn (sadd (sM s) r u (p1 + p0))) (rn (sadd (sM s) r u (p1 + p0))) (npt (sadd (sM s) r u (p1 + p0))) (stp (sadd (sM s) r u (p1 + p0)))
    rw [k1, k2]
    exact hX3
  · have := c1.1; have := cs1.1
    omega
  · have := c1.2; have := cs1.2
    omega
/-- what stays while resources are drawn -/
def RS (Z n : Nat) (M : WM) : Prop := zn M = Z ∧ rn M = n ∧ ∀ y, y < Z → wan M y ≤ 270
theorem RS.cg {Z n : Nat} (h : RS Z n M) (hW : WF M) (h0 : M' 0 = M 0) (h1 : M' 1 = M 1) (hz : ∀ j, 7 ≤ j → j < 79 → M' j = M j) : RS Z n M' := by
  obtain ⟨g1, g2, g3⟩ := h
  have zb := hW.1.zn
  have zc := zn_c hW.1
  refine ⟨by unfold zn at g1 ⊢; rw [h0]; exact g1, by unfold rn at g2 ⊢; rw [h1]; exact g2, fun y hy => ?_⟩
  rw [wan_cg (fun j a b => hz j (by omega) (by omega)) (wwz hW.1 (by omega))]
  exact g3 y hy
theorem dr658 {Z n : Nat} {x5 : Int} {k366 : Nat → Nat → Nat → Int32 → Int32 → Mem → AS → DM → Option (Nat × Mem × AS × DM)} {P : Nat × Mem × AS × DM → Prop}
    (hk : ∀ (A : AS) (dm : DM) (mm : Mem) (J : Nat → Nat) (s : ST), DI o d q (B1 + 6) (B2 + 36) A dm mm J s → RS Z (n + 1) (sM s) → Go (k366 o d q (ii (Z : Int)) (ii (x5 - 1)) mm A dm) prN A P) :
    ∀ (e k f : Nat) (p : Int) (A : AS) (dm : DM) (mm : Mem) (J : Nat → Nat) (s : ST), k = e → e < f → DI o d q (B1 + 2 * (3 - k)) (B2 + 12 * (3 - k)) A dm mm J s → RS Z (n + 1) (sM s) → stp (sM s) n + k ≤ 3 → (lpr (sM s) n ≤ p ∧ p ≤ 300 * stp (sM s) n) → Go (bL_drawn_l658 k366 f o d q (ii (Z : Int)) (ii x5) (ii (n : Int)) (ii (rest (sM s) n)) (ii p) (ii (k : Int)) mm A dm) prN A P := by
  have hend : ∀ (A : AS) (dm : DM) (mm : Mem) (J : Nat → Nat) (s : ST), DI o d q (B1 + 6) (B2 + 36) A dm mm J s → RS Z (n + 1) (sM s) → Go (bL_drawn_j785 k366 o d q (ii (Z : Int)) (ii x5) mm A dm) prN A P := by
    intro A dm mm J s hI hR
    unfold bL_drawn_j785
    rw [lm1, ii_add, nm_eq]
    exact hk A dm mm J s hI hR
  intro e
  induction e with
  | zero =>
    intro k f p A dm mm J s h1 h2 hI hR i5 i7
    obtain ⟨f, rfl⟩ : ∃ g, f = g + 1 := ⟨f - 1, by omega⟩
    subst h1
    rw [bL_drawn_l658, l0, if_neg (by rw [ii_lt (by omega) (by omega) (by omega) (by omega)]; omega)]
    exact hend A dm mm J s (hI.mo (by omega) (by omega)) hR
  | succ e ih =>
    intro k f p A dm mm J s h1 h2 hI hR i5 i7
    obtain ⟨f, rfl⟩ : ∃ g, f = g + 1 := ⟨f - 1, by omega⟩
    have hW := hI.2.2.1.1
    have rc := rn_c hW.1
    have rb := hW.1.rn
    have hn : n < rn (sM s) := by rw [hR.2.1]; omega
    have hw := wwr hW.1 hn
    have hrest : 0 ≤ rest (sM s) n ∧ rest (sM s) n ≤ 500 := by
      refine ⟨hW.2 n (by omega), ?_⟩
      have h8 := hw.2.1
      have := sm_nonneg (n := stp (sM s) n) (f := su (sM s) n) (fun k hk => by have := (hw.2.2.2.2.2.2.2 k hk).1; omega)
      unfold rest
      omega
    have hlb := lpr_bd hw
    rw [bL_drawn_l658, l0, if_pos (by rw [ii_lt (by omega) (by omega) (by omega) (by omega)]; omega), iflt (by omega) (by omega) (by omega) (by omega)]
    by_cases cr : 0 < rest (sM s) n
    · obtain ⟨w0, n0, e0, v0, x0, d0⟩ := next_ok hI.2.2.2.2.1 (n := rest (sM s) n) (by omega) (by omega)
      obtain ⟨w1, n1, e1, v1, x1, d1⟩ := next_ok d0 (n := 5) (by omega) (by omega)
      have hgo : ∀ (p0 : Int) (m' : DM), ExtK 7 A dm A m' → DrR A m' d → (0 ≤ p0 ∧ p0 < 300) → Go (bL_drawn_j699 k366 (fun x0 x1 x3 x4 x5 x7 x8 x9 x10 mm9 A9 dm9 => bL_drawn_l658 k366 f x0 x1 x3 x4 x5 x7 x8 x9 x10 mm9 A9 dm9) o d q (ii (Z : Int)) (ii x5) (ii (n : Int)) (ii (rest (sM s) n)) (ii (k : Int)) (ii (1 + w0)) (ii p0) (ii p) mm A m') prN A P := by
        intro p0 m' hx hd hp0
        have hn3 : stp (sM s) n < 3 := by omega
        refine dr699 (hI.k7 hx hd) hn ⟨by omega, by rw [Int.toNat_natCast]; omega, by rw [Int.toNat_natCast]; omega, by rw [Int.toNat_natCast]; omega⟩ (fun A' dm' m9 J' hI' => ?_)
        have hrst := (sadd_RW hw hn3 (u := 1 + w0) (p := p + p0) (by omega) (by omega)).2
        have hnext := ih (k - 1) f (p + p0) A' dm' m9 J' (sset s (sadd (sM s) n (1 + w0) (p + p0))) (by omega) (by omega) (hI'.mo (by omega) (by omega)) (hR.cg hW (sadd_o (by omega) hn3) (sadd_o (by omega) hn3) (fun j a b => sadd_o (by omega) hn3)) (by
          show stp (sadd (sM s) n (1 + w0) (p + p0)) n + (k - 1) ≤ 3
          rw [sadd_n]
          omega) (by
          show lpr (sadd (sM s) n (1 + w0) (p + p0)) n ≤ p + p0 ∧ p + p0 ≤ 300 * (stp (sadd (sM s) n (1 + w0) (p + p0)) n : Nat)
          rw [sadd_l hn3, sadd_n]
          omega)
        rw [lm1, ii_add, show (k : Int) + -1 = ((k - 1 : Nat) : Int) by omega]
        rw [show rest (sM (sset s (sadd (sM s) n (1 + w0) (p + p0)))) n = rest (sM s) n - (1 + w0) from hrst] at hnext
        exact hnext
      rw [if_pos cr, gkd_i hI.2.2.2.2.1.1, e0, bd_some]
      dsimp only
      rw [l1, ii_add, nm_eq, gkd_i hI.2.2.2.2.1.1, l5, e1, bd_some]
      dsimp only
      rw [ifeq (by omega) (by omega) (by omega) (by omega)]
      by_cases c : w1 = 0
      · rw [if_pos c]
        exact hgo 0 n1 (x0.tr x1) d1 (by omega)
      · obtain ⟨w2, n2, e2, v2, x2, d2⟩ := next_ok d1 (n := 300) (by omega) (by omega)
        rw [if_neg c, gkd_i hI.2.2.2.2.1.1, show (300 : Int32) = ii 300 by decide, e2, bd_some]
        exact hgo w2 n2 ((x0.tr x1).tr x2) d2 (by omega)
    · rw [if_neg cr]
      exact hend A dm mm J s (hI.mo (by omega) (by omega)) hR
theorem dr642 {Z n : Nat} {x5 : Int} {x6 : Nat} {k366 : Nat → Nat → Nat → Int32 → Int32 → Mem → AS → DM → Option (Nat × Mem × AS × DM)} {P : Nat × Mem × AS × DM → Prop}
    (hk : ∀ (A : AS) (dm : DM) (mm : Mem) (J : Nat → Nat) (s : ST), DI o d q (B1 + 6) (B2 + 36) A dm mm J s → RS Z (n + 1) (sM s) → Go (k366 o d q (ii (Z : Int)) (ii (x5 - 1)) mm A dm) prN A P) (hI : DI o d q B1 B2 A dm mm J s) (hR : RS Z (n + 1) (sM s)) (h6 : x6 = J (40 + n)) (hst : stp (sM s) n = 0) : Go (bL_drawn_j642 k366 o d q (ii (Z : Int)) (ii x5) x6 (ii (n : Int)) mm A dm) prN A P := by
  have hW := hI.2.2.1.1
  have rc := rn_c hW.1
  have rb := hW.1.rn
  have hn : n < rn (sM s) := by rw [hR.2.1]; omega
  have hw := wwr hW.1 hn
  have hrow := hI.1.2.2.2.2.2.2.2.2.2.2.1 n hn (by omega)
  rw [← h6] at hrow
  have hrest : rrw (sM s) n 1 = rest (sM s) n := by
    unfold rest rrw
    rw [hst, sm_0, show 79 + 13 * n + 1 = 80 + 13 * n by omega]
    omega
  have hl0 : lpr (sM s) n = 0 := by unfold lpr; rw [if_pos hst]
  obtain ⟨w0, n0, e0, v0, x0, d0⟩ := next_ok hI.2.2.2.2.1 (n := 4) (by omega) (by omega)
  unfold bL_drawn_j642
  rw [l1, hrow.rd (a := 1) (i := 1) rfl (by omega), hrest, gkd_i hI.2.2.2.2.1.1, l4, e0, bd_some, l0]
  dsimp only
  rw [show w0 = (w0.toNat : Int) by omega]
  exact dr658 (B1 := B1) (B2 := B2) (Z := Z) (n := n) hk w0.toNat w0.toNat FU 0 A n0 mm J s rfl (by have : FU = 20000 := rfl; omega) ((hI.k7 x0 d0).mo (by omega) (by omega)) hR (by omega) (by omega)
end
