/-! a new market, and all of a market drawn -/
def mem0 : Mem := fun c => match c with | 17 => (fun k => if k = 0 then 1 else 0) | 46 => (fun k => if k = 0 then 1 else 0) | 77 => (fun k => if k = 0 then 1 else 0) | 96 => (fun k => if k = 0 then 1 else 0) | 115 => (fun k => if k = 0 then 1 else 0) | 24 => (fun k => if k = 1 then 9999 else 0) | 53 => (fun k => if k = 1 then 9999 else 0) | 84 => (fun k => if k = 1 then 9999 else 0) | 103 => (fun k => if k = 1 then 9999 else 0) | 122 => (fun k => if k = 1 then 9999 else 0) | _ => fun _ => 0
def M0 : WM := fun j => if j = 0 then 1 else if j = 2 then 9999 else if j = 7 then -1 else 0
def ST0 : ST := (M0, M0, M0, false, false, fun _ => 0, 0, 0)
theorem M0_WF : WF M0 := by
  have e : ∀ j, j ≠ 0 → j ≠ 2 → j ≠ 7 → M0 j = 0 := fun j a b c => by
    unfold M0
    rw [if_neg a, if_neg b, if_neg c]
  have e0 : M0 0 = 1 := rfl
  have e1 : M0 1 = 0 := rfl
  have e2 : M0 2 = 9999 := rfl
  have e7 : M0 7 = -1 := rfl
  refine ⟨⟨fun j => ?_, by omega, by omega, by omega, fun k hk => ?_, e7, fun z hz => ?_, fun r hr => by omega⟩, fun r hr => by omega⟩
  · by_cases a : j = 0
    · rw [a]; omega
    · by_cases b : j = 2
      · rw [b]; omega
      · by_cases c : j = 7
        · rw [c]; omega
        · rw [e j a b c]; omega
  · rw [e _ (by omega) (by omega) (by omega)]; omega
  · have hz : z = 0 := by omega
    subst hz
    have np : npt M0 0 = 0 := rfl
    exact ⟨fun h => by omega, by rw [e _ (by omega) (by omega) (by omega)]; omega, by rw [e _ (by omega) (by omega) (by omega)]; omega, by rw [e _ (by omega) (by omega) (by omega)]; omega, fun k hk => by omega, fun k hk => by omega⟩
theorem m0_z : ∀ j, j < 79 → zj j = true → mem0 (17 + (cz j).1) (cz j).2 = ii (M0 j) := by decide +kernel
theorem m0_o : ∀ j, j < 235 → oj j = true → mem0 (24 + (cof j).1) (cof j).2 = ii (M0 j) := by decide +kernel
theorem m0_CI : CI mem0 ST0 := by
  refine ⟨⟨⟨ob_17, fun j hj => m0_z j (zj_lt hj) hj⟩, ⟨ob_24, fun j hj => m0_o j (oj_lt hj) hj⟩⟩, ?_, ?_, ?_, ?_, ?_, ?_, ?_⟩
  · intro h; cases h
  · intro h; cases h
  · decide
  · decide
  · decide
  · intro i hi; exact absurd hi (by show ¬ i < 0; omega)
  · decide
theorem m0_SW : SW ST0 := by
  refine ⟨M0_WF, ?_, ?_, by show 0 ≤ 500; omega, ?_⟩
  · intro h; cases h
  · intro h; cases h
  · intro i hi; exact absurd hi (by show ¬ i < 0; omega)
theorem M0_v : zn M0 = 1 ∧ rn M0 = 0 ∧ npt M0 0 = 0 ∧ wan M0 0 = 0 := ⟨rfl, rfl, rfl, rfl⟩
theorem M0_S : Sml M0 := by
  obtain ⟨h1, h2, h3, h4⟩ := M0_v
  refine ⟨by omega, by omega, fun z hz => ?_⟩
  have : z = 0 := by omega
  rw [this, h4]
  omega
section
variable {A A1 A2 A0 : AS} {dm m1 m2 dm0 : DM} {J J' : Nat → Nat} {M M' : WM} {s : ST} {mm : Mem} {o d q : Nat} {B1 B2 : Int}
/-- a new list, put into a field of the market -/
theorem go_list {β : Type} {pr : β → AS} {P : β → Prop} {t : Nat → AS → DM → Option β} {k : Nat} (ho : okd A q 8) (h : ∀ (A2 : AS) (m5 : DM), ExtK 8 A dm A2 m5 → (∀ g, LiR A2 m5 (A.1 + 1) 0 0 g) → A2.1 = A.1 + 1 → m5 q k = .ref (A.1 + 1) → (∀ j, j ≠ k → m5 q j = dm q j) → cst A A2 1 3 → Go (t (A.1 + 1) A2 m5) pr A2 P) : Go (alc pr A dm 9 0 3 dfl9 (fun q1 A2 m3 => bd (bAL_init A2 m3 q1) (fun r4 => gkd A2 q 8 (nm (up3 r4 q k (.ref q1)) (fun m5 => t q1 A2 m5))))) pr A P := by
  refine go_alc ?_
  obtain ⟨m', e1, e2, e3⟩ := li_new A dm id
  have hk := e2.kd ho
  have e4 : ∀ g, LiR (nw A 9 0 3) m' (A.1 + 1) 0 0 g := fun g => e3.e0 e3.1 rfl
  rw [e1, bd_some, gkd_i hk, nm_eq]
  have x1 : ExtK 8 (nw A 9 0 3) m' (nw A 9 0 3) (up3 m' q k (.ref (A.1 + 1))) := (ExtK.rf _ _).up (k := 0) hk k _
  exact h (nw A 9 0 3) (up3 m' q k (.ref (A.1 + 1))) (e2.k.tr x1) (fun g => (e4 g).ek x1 (by decide) (by decide)) rfl up3_s (fun j hj => by rw [up3_k hj]; exact e2.v ho j) (cst_nw A 9 0 3)
theorem DrR.k8 (h : DrR A dm d) (hx : ExtK 8 A dm A1 m1) : DrR A1 m1 d := ⟨hx.kd h.1, by rw [hx.v h.1 (by decide)]; exact h.2⟩
abbrev prA : AS × DM → AS := fun x => x.1
def J0f (q n : Nat) (i : Nat) : Nat := if i = 0 then q else if i = 1 then n + 1 else if i = 3 then n + 2 else if i = 5 then n + 3 else if i = 7 then n + 4 else if i = 9 then n + 5 else 0
theorem J0k (q n i : Nat) : (i = 0 ∧ J0f q n i = q) ∨ (i = 1 ∧ J0f q n i = n + 1) ∨ (i = 3 ∧ J0f q n i = n + 2) ∨ (i = 5 ∧ J0f q n i = n + 3) ∨ (i = 7 ∧ J0f q n i = n + 4) ∨ (i = 9 ∧ J0f q n i = n + 5) ∨ J0f q n i = 0 := by
  unfold J0f
  by_cases h0 : i = 0
  · rw [if_pos h0]; omega
  rw [if_neg h0]
  by_cases h1 : i = 1
  · rw [if_pos h1]; omega
  rw [if_neg h1]
  by_cases h3 : i = 3
  · rw [if_pos h3]; omega
  rw [if_neg h3]
  by_cases h5 : i = 5
  · rw [if_pos h5]; omega
  rw [if_neg h5]
  by_cases h7 : i = 7
  · rw [if_pos h7]; omega
  rw [if_neg h7]
  by_cases h9 : i = 9
  · rw [if_pos h9]; omega
  rw [if_neg h9]; omega
theorem J0_Sep {n : Nat} (hq : q ≤ n) (hA : n + 5 ≤ A.1) : Sep A (J0f q n) := by
  refine ⟨fun i => ?_, fun i j h h0 => ?_⟩
  · rcases J0k q n i with h | h | h | h | h | h | h <;> omega
  · rcases J0k q n i with hi | hi | hi | hi | hi | hi | hi <;> rcases J0k q n j with hj | hj | hj | hj | hj | hj | hj <;> omega
/-- a new market: one zone, its curve empty -/
theorem init_ok (ho : okd A q 8) (hD : DrR A dm d ∨ d = 0) : Go (bX8_init A dm q) prA A (fun y => ∃ J, MkX 0 y.1 y.2 J M0 1 1 0 0 (npt M0) (stp M0) ∧ Sep y.1 J ∧ J 0 = q ∧ y.1.2.2.2 = A.2.2.2 ∧ (DrR y.1 y.2 d ∨ d = 0) ∧ cst A y.1 12 62) := by
  unfold bX8_init
  refine go_list ho (fun A1 m1 x1 L1 s1 f1 g1 c1 => ?_)
  have ho1 := x1.kd ho
  refine go_list ho1 (fun A2 m2 x2 L2 s2 f2 g2 c2 => ?_)
  have ho2 := x2.kd ho1
  refine go_list ho2 (fun A3 m3 x3 L3 s3 f3 g3 c3 => ?_)
  have ho3 := x3.kd ho2
  refine go_list ho3 (fun A4 m4 x4 L4 s4 f4 g4 c4 => ?_)
  have ho4 := x4.kd ho3
  rw [l4, gnn_i (by omega) (by omega), show (ii 4).toNatClampNeg = 4 by decide]
  refine go_alc ?_
  have x5 := ext_nw A4 m4 20 4 4 (fun _ => .int 0)
  have r5 := NR_e0 A4 m4 4 (by decide)
  have c5 := cst_nw A4 20 4 4
  have s5 : (nw A4 20 4 4).1 = A4.1 + 1 := rfl
  generalize nw A4 20 4 4 = A5 at x5 r5 c5 s5 ⊢
  generalize nwm A4 m4 (fun _ => Value.int 0) = m5 at x5 r5 ⊢
  have ho5 := x5.kd ho4
  have hqA : q ≤ A.1 := ho.1.2
  have y6 : ExtK 8 A4 m4 A5 (up3 (up3 m5 q 4 (.ref (A4.1 + 1))) q 5 (.int (ii 9999))) := ((x5.k (kk := 8)).tr ((ExtK.rf A5 m5).up (k := 0) ho5 4 (.ref (A4.1 + 1)))).tr ((ExtK.rf A5 _).up (k := 0) ho5 5 (.int (ii 9999)))
  have w6 : ∀ j, j ≠ 4 → j ≠ 5 → up3 (up3 m5 q 4 (.ref (A4.1 + 1))) q 5 (.int (ii 9999)) q j = m4 q j := fun j h4 h5 => by
    rw [up3_k h5, up3_k h4]
    exact x5.v ho4 j
  have w4 : up3 (up3 m5 q 4 (.ref (A4.1 + 1))) q 5 (.int (ii 9999)) q 4 = .ref (A4.1 + 1) := by rw [up3_k (by omega), up3_s]
  have w5 : up3 (up3 m5 q 4 (.ref (A4.1 + 1))) q 5 (.int (ii 9999)) q 5 = .int (ii 9999) := up3_s
  have r6 : NR A5 (up3 (up3 m5 q 4 (.ref (A4.1 + 1))) q 5 (.int (ii 9999))) (A4.1 + 1) 4 (fun _ => 0) := (r5.ne (by omega)).ne (by omega)
  rw [gkd_i ho5, nm_eq, gkd_i ho5, l9999, nm_eq]
  generalize up3 (up3 m5 q 4 (.ref (A4.1 + 1))) q 5 (.int (ii 9999)) = m6 at y6 w6 w4 w5 r6 ⊢
  have ho6 := ho5
  have hX6 : MkX 0 A5 m6 (J0f q A.1) M0 0 0 0 0 (npt M0) (stp M0) := by
    refine ⟨⟨ho6, ?_, ?_, ?_, ?_, ?_⟩, ?_, fun _ => ?_, fun _ => ?_, fun _ => ?_, fun _ => ?_, fun _ => ?_, fun z hz => absurd hz (by omega), fun z hz => absurd hz (by omega), fun z hz => absurd hz (by omega), fun z hz => absurd hz (by omega), fun z hz => absurd hz (by omega), fun z hz => absurd hz (by omega)⟩
    · show m6 q 0 = .ref (A.1 + 1)
      rw [w6 0 (by omega) (by omega), g4 0 (by omega), g3 0 (by omega), g2 0 (by omega), f1]
    · show m6 q 1 = .ref (A.1 + 2)
      rw [w6 1 (by omega) (by omega), g4 1 (by omega), g3 1 (by omega), f2, s1]
    · show m6 q 2 = .ref (A.1 + 3)
      rw [w6 2 (by omega) (by omega), g4 2 (by omega), f3, s2, s1]
    · show m6 q 3 = .ref (A.1 + 4)
      rw [w6 3 (by omega) (by omega), f4, s3, s2, s1]
    · show m6 q 4 = .ref (A.1 + 5)
      rw [w4, s4, s3, s2, s1]
    · show m6 q 5 = .int (ii 9999)
      exact w5
    · exact ((((L1 _).ek x2 (by decide) (by decide)).ek x3 (by decide) (by decide)).ek x4 (by decide) (by decide)).ek y6 (by decide) (by decide)
    · have := (((L2 (fun z => J0f q A.1 (20 + z))).ek x3 (by decide) (by decide)).ek x4 (by decide) (by decide)).ek y6 (by decide) (by decide)
      rw [s1] at this
      exact this
    · have := ((L3 (fun z => J0f q A.1 (40 + z))).ek x4 (by decide) (by decide)).ek y6 (by decide) (by decide)
      rw [s2, s1] at this
      exact this
    · have := (L4 (fun z => J0f q A.1 (50 + z))).ek y6 (by decide) (by decide)
      rw [s3, s2, s1] at this
      exact this
    · have := r6
      rw [s4, s3, s2, s1] at this
      refine this.cg (fun k hk => ?_)
      unfold M0
      rw [if_neg (by omega), if_neg (by omega), if_neg (by omega)]
  have hS6 : Sep A5 (J0f q A.1) := J0_Sep hqA (by omega)
  have hD6 : DrR A5 m6 d ∨ d = 0 := hD.imp (fun h => (((((h.k8 x1).k8 x2).k8 x3).k8 x4).k8 y6)) id
  have ob6 := hX6.ob (q := q) rfl
  rw [gkd_i ho6, gtr_i ob6.2.1, l3, gnn_i (by omega) (by omega), show (ii 3).toNatClampNeg = 3 by decide]
  refine go_alc ?_
  have x7 := ext_nw A5 m6 20 3 3 (fun _ => .int 0)
  have r7 := NR_e0 A5 m6 3 (by decide)
  have c7 := cst_nw A5 20 3 3
  have s7 : (nw A5 20 3 3).1 = A5.1 + 1 := rfl
  generalize nw A5 20 3 3 = A7 at x7 r7 c7 s7 ⊢
  generalize nwm A5 m6 (fun _ => Value.int 0) = m7 at x7 r7 ⊢
  rw [lm1, l0, r7.wr (a := 0) (i := 0) rfl (by omega), l1, (r7.up 0 (-1)).wr (a := 1) (i := 1) rfl (by omega), l2, ((r7.up 0 (-1)).up 1 0).wr (a := 2) (i := 2) rfl (by omega)]
  have x8 := ((x7.up (c := A5.1 + 1) (by omega) 0 (.int (ii (-1)))).up (c := A5.1 + 1) (by omega) 1 (.int (ii 0))).up (c := A5.1 + 1) (by omega) 2 (.int (ii 0))
  have r8 := (((r7.up 0 (-1)).up 1 0).up 2 0)
  generalize up3 (up3 (up3 m7 (A5.1 + 1) 0 (.int (ii (-1)))) (A5.1 + 1) 1 (.int (ii 0))) (A5.1 + 1) 2 (.int (ii 0)) = m8 at x8 r8 ⊢
  have hX8 := hX6.ext x8
  have hrow : NR A7 m8 (A5.1 + 1) 3 (zrw M0 0) := r8.cg (fun i hi => by
    rcases (show i = 0 ∨ i = 1 ∨ i = 2 by omega) with rfl | rfl | rfl <;> rfl)
  rw [gkd_i (hX8.2.2.1 (by omega)).1]
  refine Go.call (g_zone (hS6.mo (A1 := A7) (by omega)) hX8 (by omega) hrow (fun i => by have := hS6.1 i; omega)) (fun x hx9 _ => ?_)
  obtain ⟨-, J1, hX3, hS3, j1, j1e, xl1, cs1⟩ := hx9
  have hJ1 : J1 0 = q := j1 0 (by omega) (by omega)
  obtain ⟨ob3, -, ob4, -⟩ := hX3.ob hJ1
  rw [gkd_i ob3, gtr_i ob4]
  refine go_alc ?_
  obtain ⟨m', e1, e2, e3⟩ := li_new x.2.1 x.2.2 id
  rw [e1, bd_some]
  have hX4 := hX3.ext e2
  have hS4 := hS3.mo (A1 := nw x.2.1 9 0 3) (by have := e2.1.1; omega)
  have c9 := cst_nw x.2.1 9 0 3
  have hD4 : DrR (nw x.2.1 9 0 3) m' d ∨ d = 0 := hD6.imp (fun h => ((h.ext x8).el xl1).ext e2) id
  have hob : (nw x.2.1 9 0 3).2.2.2 = A.2.2.2 := e2.2.1.trans (xl1.2.1.trans (x7.2.1.trans (y6.2.1.trans (x4.2.1.trans (x3.2.1.trans (x2.2.1.trans x1.2.1))))))
  generalize nw x.2.1 9 0 3 = A9 at e1 e2 e3 hX4 hS4 c9 hD4 hob ⊢
  rw [gkd_i (hX4.2.2.2.1 (by omega)).1]
  refine Go.call (g_curve hS4 hX4 rfl (by omega) e3 (fun i => by have := hS3.1 i; omega)) (fun y hy9 _ => ?_)
  obtain ⟨-, J2, hX5, hS5, j2, j2e, xl2, cs2⟩ := hy9
  have hJ2 : J2 0 = q := (j2 0 (by omega) (by omega)).trans hJ1
  refine Go.mk (le2.rf _) ⟨J2, hX5, hS5, hJ2, xl2.2.1.trans hob, hD4.imp (fun h => h.el xl2) id, ?_, ?_⟩
  · have := c1.1; have := c2.1; have := c3.1; have := c4.1; have := c5.1; have := c7.1; have := cs1.1; have := c9.1; have := cs2.1
    show (y.2.1.1 : Int) ≤ _
    omega
  · have := c1.2; have := c2.2; have := c3.2; have := c4.2; have := c5.2; have := c7.2; have := cs1.2; have := c9.2; have := cs2.2
    show (y.2.1.2.1 : Int) ≤ _
    omega
/-- a market drawn, by hand and in the class -/
theorem drawn_ok (hC : CI mm s) (hs : SW s) (hM : sM s = M0) (hD : DrR A dm d) : Go (bL_drawn mm A dm A.2.2.2 d) prN A (fun y => ∃ J s', y.1 = J 0 ∧ MkX 0 y.2.2.1 y.2.2.2 J (sM s') (zn (sM s')) (zn (sM s')) (rn (sM s')) (rn (sM s')) (npt (sM s')) (stp (sM s')) ∧ Sep y.2.2.1 J ∧ SW s' ∧ CI y.2.1 s' ∧ DrR y.2.2.1 y.2.2.2 d ∧ y.2.2.1.2.2.2 = A.2.2.2 ∧ Sml (sM s') ∧ cst A y.2.2.1 123 772) := by
  unfold bL_drawn
  refine go_alc ?_
  have x1 := ext_nw A dm 8 0 10 dfl8
  have ho := okd_nw A 8 0 10
  have c1 := cst_nw A 8 0 10
  have hD1 := hD.ext x1
  generalize nw A 8 0 10 = A1 at x1 ho c1 hD1 ⊢
  generalize nwm A dm dfl8 = m1 at x1 hD1 ⊢
  refine Go.call (init_ok ho (Or.inl hD1)) (fun x hx9 _ => ?_)
  obtain ⟨J, hX, hS, hJ, hb, hDd, cs⟩ := hx9
  have hD2 : DrR x.1 x.2 d := hDd.elim id (fun h => by have := hD.1.1; omega)
  obtain ⟨w0, n0, e0, v0, x0, d0⟩ := next_ok hD2 (n := 5) (by omega) (by omega)
  rw [gkd_i hD2.1, l5, e0, bd_some]
  dsimp only
  rw [l1, ii_add, nm_eq, show 1 + w0 = ((1 + w0).toNat : Int) by omega]
  obtain ⟨z1, z2, z3, z4⟩ := M0_v
  have hI : DI A.2.2.2 d (A.1 + 1) (x.1.1 - 4 + 4 * (1 : Nat)) (x.1.2.1 - 26 + 26 * (1 : Nat)) x.1 n0 mm J s := by
    refine ⟨?_, hS, hs, hC, d0, hJ, hb.trans x1.2.1, by omega, by omega⟩
    rw [hM, z1, z2]
    exact hX.k7 x0
  have h0 : ∀ y, y < 1 → npt (sM s) y = 0 := fun y hy => by
    have : y = 0 := by omega
    rw [hM, this, z3]
  have hz : zn (sM s) = 1 := by rw [hM, z1]
  have hr : rn (sM s) = 0 := by rw [hM, z2]
  have hZ5 : 1 ≤ (1 + w0).toNat ∧ (1 + w0).toNat ≤ 5 := by omega
  have := cs.1; have := cs.2; have := c1.1; have := c1.2
  refine dr20 (o := A.2.2.2) (d := d) (q := A.1 + 1) hZ5.2 (B1 := x.1.1 - 4) (B2 := x.1.2.1 - 26) (fun A2 dm2 mm2 J2 s2 hI2 i1 i2 i3 => ?_) ((1 + w0).toNat - 1) 1 FU x.1 n0 mm J s (by omega) (by have : FU = 20000 := rfl; omega) (Nat.le_refl _) hI hz hr h0
  refine dr161 (o := A.2.2.2) (d := d) (q := A.1 + 1) (B1 := x.1.1 - 4 + 4 * (1 + w0).toNat) (B2 := x.1.2.1 - 26 + 26 * (1 + w0).toNat) (fun n A3 dm3 mm3 J3 s3 hI3 i4 i5 i6 i7 => ?_) (1 + w0).toNat 0 FU A2 dm2 mm2 J2 s2 (by omega) (by have : FU = 20000 := rfl; omega) (hI2.mo (by omega) (by omega)) i1 i2 (fun y _ hy => i3 y hy) (fun y hy => absurd hy (by omega))
  refine dr366 (o := A.2.2.2) (d := d) (q := A.1 + 1) hZ5 (B1 := x.1.1 - 4 + 10 * (1 + w0).toNat) (B2 := x.1.2.1 - 26 + 62 * (1 + w0).toNat) (fun r A4 dm4 mm4 J4 s4 hI4 hR4 hr4 => ?_) n n FU 0 A3 dm3 mm3 J3 s3 rfl (by have : FU = 20000 := rfl; omega) (by omega) (hI3.mo (by omega) (by omega)) ⟨i4, i5, i6⟩
  refine Go.imp (dr805 hZ5 hr4 2 0 FU A4 dm4 mm4 J4 s4 (by omega) (by have : FU = 20000 := rfl; omega) hI4 hR4) (fun y hy => ?_)
  obtain ⟨y1, J5, s5, hI5, hR5⟩ := hy
  obtain ⟨g1, g2, g3, g4, g5, g6, g7, g8, g9⟩ := hI5
  exact ⟨J5, s5, y1.trans g6.symm, g1, g2, g3, g4, g5, g7, ⟨by rw [hR5.1]; omega, by rw [hR5.2.1]; omega, fun z hz => hR5.2.2 z (by rw [← hR5.1]; exact hz)⟩, by omega, by omega⟩
end
