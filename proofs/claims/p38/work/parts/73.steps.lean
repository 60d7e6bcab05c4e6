/-! steps of the drawing -/
abbrev prN : Nat × Mem × AS × DM → AS := fun x => x.2.2.1
section
variable {A A1 A2 A0 : AS} {dm m1 m2 dm0 : DM} {J J' : Nat → Nat} {M M' : WM} {s : ST} {mm : Mem} {x o d q a b c e n : Nat} {np ns np' ns' : Nat → Nat} {f : Nat → Int} {kk : Nat}
theorem zrw_cg {z : Nat} (h : ∀ j, 7 + 12 * z ≤ j → j < 10 + 12 * z → M' j = M j) {i : Nat} (_ : i < 3) : zrw M' z i = zrw M z i := by
  unfold zrw
  rw [h _ (by omega) (by omega), h _ (by omega) (by omega), h _ (by omega) (by omega)]
theorem ptr_cg {z k : Nat} (h : ∀ j, 11 + 12 * z + 2 * k ≤ j → j < 13 + 12 * z + 2 * k → M' j = M j) {i : Nat} (_ : i < 2) : ptr M' z k i = ptr M z k i := by
  unfold ptr pu pp
  rw [h _ (by omega) (by omega), h _ (by omega) (by omega)]
theorem rrw_cg {r : Nat} (h : ∀ j, 79 + 13 * r ≤ j → j < 85 + 13 * r → M' j = M j) {i : Nat} (hi : i < 6) : rrw M' r i = rrw M r i := h _ (by omega) (by omega)
theorem str_cg {r k : Nat} (h : ∀ j, 86 + 13 * r + 2 * k ≤ j → j < 88 + 13 * r + 2 * k → M' j = M j) {i : Nat} (_ : i < 2) : str M' r k i = str M r k i := by
  unfold str su sp
  rw [h _ (by omega) (by omega), h _ (by omega) (by omega)]
theorem MkX.cn (h : MkX x A dm J M a b c e np ns) (h1 : ∀ z, z < b → np' z = np z) (h2 : ∀ r, r < e → ns' r = ns r) : MkX x A dm J M a b c e np' ns' := by
  obtain ⟨hob, hce, p1, p3, p5, p7, p9, pz, pc, pp, pr, ps, pt⟩ := h
  exact ⟨hob, hce, p1, p3, p5, p7, p9, pz, fun z hz q => (h1 z hz) ▸ pc z hz q, fun z hz k hk => pp z hz k (by rw [← h1 z hz]; exact hk), pr, fun r hr q => (h2 r hr) ▸ ps r hr q, fun r hr k hk => pt r hr k (by rw [← h2 r hr]; exact hk)⟩
theorem MkX.ob (h : MkX x A dm J M a b c e np ns) (hq : J 0 = q) : okd A q 8 ∧ dm q 0 = .ref (J 1) ∧ dm q 1 = .ref (J 3) ∧ dm q 2 = .ref (J 5) ∧ dm q 3 = .ref (J 7) ∧ dm q 4 = .ref (J 9) := hq ▸ h.1
theorem ExtK.fr (h : ExtK kk A dm A1 m1) {cc : Nat} (hc : A.1 < cc) (i : Nat) (v : Value) : ExtK kk A dm A1 (up3 m1 cc i v) :=
  ⟨h.1, h.2.1, fun c hcc => ⟨(h.2.2 c hcc).1, fun e => (up3_ne (by omega)).trans ((h.2.2 c hcc).2 e)⟩⟩
theorem DrR.ne (h : DrR A dm d) {cc k : Nat} (hc : okd A cc k) (e : k ≠ 7) (i : Nat) (v : Value) : DrR A (up3 dm cc i v) d := by
  obtain ⟨h1, x, h2⟩ := h
  exact ⟨h1, x, by rw [up3_c (ne_k h1 hc (Ne.symm e))]; exact h2⟩
/-- a number is drawn and put down in a new row -/
theorem fil_st (hx : ExtK 7 A dm A1 m1) (hq : A.1 < q) (hr : NR A1 m1 q n f) (hd : DrR A1 m1 d) {N : Int} (h1 : 1 ≤ N) (h2 : N < 2147483648) (i : Nat) : ∃ (w : Int) (m' : DM), bX7_next A1 m1 d (ii N) = some (ii w, m') ∧ (0 ≤ w ∧ w < N) ∧ NR A1 m' q n f ∧ ∀ v : Int, ExtK 7 A dm A1 (up3 m' q i (.int (ii v))) ∧ NR A1 (up3 m' q i (.int (ii v))) q n (fun j => if j = i then v else f j) ∧ DrR A1 (up3 m' q i (.int (ii v))) d := by
  obtain ⟨w, m', e1, e2, e3, e4⟩ := next_ok hd h1 h2
  have hr2 := hr.ek e3 (by decide)
  exact ⟨w, m', e1, e2, hr2, fun v => ⟨(hx.tr e3).fr hq i _, hr2.up i v, e4.ne hr2.1 (by decide) i _⟩⟩
theorem li_new (A : AS) (dm : DM) (g : Nat → Nat) : ∃ m', bAL_init (nw A 9 0 3) (nwm A dm dfl9) (A.1 + 1) = some m' ∧ Ext A dm (nw A 9 0 3) m' ∧ LiR (nw A 9 0 3) m' (A.1 + 1) 0 0 g := by
  have hx := ext_nw A dm 9 0 3 dfl9
  have hk := okd_nw A 9 0 3
  refine ⟨up3 (up3 (nwm A dm dfl9) (A.1 + 1) 0 (.int 0)) (A.1 + 1) 1 (.ref 0), ?_, (hx.up (by omega) _ _).up (by omega) _ _, hk, by omega, ?_, ⟨0, ?_⟩, up3_s, Or.inl ⟨rfl, rfl⟩, fun i hi => absurd hi (by omega)⟩
  · unfold bAL_init bAB_init bAC_init
    rw [bd_some, gkd_i hk, nm_eq, bd_some, gkd_i hk, nm_eq]
  · rw [up3_k (by omega), up3_k (by omega), nwm_s]
    rfl
  · rw [up3_k (by omega), up3_s]
theorem NR_e0 (A : AS) (dm : DM) (n : Nat) (hn : n < 2147483648) : NR (nw A 20 n n) (nwm A dm (fun _ => .int 0)) (A.1 + 1) n (fun _ => 0) := NR_new A dm n hn
theorem c_set_y (h : CI mm s) (hs : SW s) {a k v : Int} (h1 : -2147483648 ≤ a) (h2 : a < 2147483648) (h3 : -2147483648 ≤ k) (h4 : k < 2147483648) (h5 : -2147483648 ≤ v) (h6 : v < 2147483648) {j : Nat} (hj : plc (sM s) a k v = (j : Int)) : ∃ m', f6_set mm (ii a) (ii k) (ii v) = some (ii (if sM s j = v then 0 else 1), m') ∧ CI m' (sset s (up (sM s) j v)) ∧ SW (sset s (up (sM s) j v)) := by
  have hw : SW (sset s (up (sM s) j v)) := hs.ups (plc_WF hs.1 hj)
  obtain ⟨-, q⟩ := c_set h hs h1 h2 h3 h4 h5 h6 _ rfl
  obtain ⟨q1, q2⟩ := q j hj
  by_cases c : sM s j = v
  · refine ⟨mm, by rw [if_pos c]; exact q1 c, ?_, hw⟩
    have e : up (sM s) j v = sM s := by
      funext i
      by_cases hi : i = j
      · rw [hi, ← c]
        simp [up]
      · exact up_ne _ _ hi
    rw [e]
    exact h
  · obtain ⟨m', g1, -, g3⟩ := q2 c
    exact ⟨m', by rw [if_neg c]; exact g1, g3, hw⟩
/-- what holds between two calls of the drawing -/
def DI (o d q : Nat) (B1 B2 : Int) (A : AS) (dm : DM) (mm : Mem) (J : Nat → Nat) (s : ST) : Prop :=
  MkX 0 A dm J (sM s) (zn (sM s)) (zn (sM s)) (rn (sM s)) (rn (sM s)) (npt (sM s)) (stp (sM s)) ∧ Sep A J ∧ SW s ∧ CI mm s ∧ DrR A dm d ∧ J 0 = q ∧ A.2.2.2 = o ∧ (A.1 : Int) ≤ B1 ∧ (A.2.1 : Int) ≤ B2
theorem zn_zoa {a b c : Int} : zn (zoa M a b c) = zn M + 1 := by
  show ((zn M : Int) + 1).toNat = _
  omega
theorem rn_zoa {a b c : Int} : rn (zoa M a b c) = rn M := by
  unfold rn
  rw [zoa_o (by omega) (by omega)]
theorem npt_zoa {a b c : Int} {z : Nat} (hz : z < zn M) : npt (zoa M a b c) z = npt M z := by
  unfold npt
  rw [zoa_o (by omega) (by omega)]
theorem npt_zoa0 {a b c : Int} : npt (zoa M a b c) (zn M) = 0 := by
  have p10 : zoa M a b c (10 + 12 * zn M) = 0 := by
    unfold zoa up
    rw [if_neg (by omega), if_pos rfl]
  unfold npt
  rw [p10]
  rfl
theorem zrw_zoa {a b c : Int} : zrw (zoa M a b c) (zn M) 0 = a ∧ zrw (zoa M a b c) (zn M) 1 = b ∧ zrw (zoa M a b c) (zn M) 2 = c := by
  refine ⟨?_, ?_, ?_⟩
  · show zoa M a b c (7 + 12 * zn M) = a
    unfold zoa up
    rw [if_neg (by omega), if_neg (by omega), if_neg (by omega), if_neg (by omega), if_pos rfl]
  · show zoa M a b c (8 + 12 * zn M) = b
    unfold zoa up
    rw [if_neg (by omega), if_neg (by omega), if_neg (by omega), if_pos rfl]
  · show zoa M a b c (9 + 12 * zn M) = c
    unfold zoa up
    rw [if_neg (by omega), if_neg (by omega), if_pos rfl]
theorem dr20 {Z : Nat} (hZ : Z ≤ 5) {B1 B2 : Int} {P : Nat × Mem × AS × DM → Prop}
    (hk : ∀ (A : AS) (dm : DM) (mm : Mem) (J : Nat → Nat) (s : ST), DI o d q (B1 + 4 * Z) (B2 + 26 * Z) A dm mm J s → zn (sM s) = Z → rn (sM s) = 0 → (∀ y, y < Z → npt (sM s) y = 0) → Go (bL_drawn_l161 FU o d q (ii (Z : Int)) (ii 0) mm A dm) prN A P) :
    ∀ (e z f : Nat) (A : AS) (dm : DM) (mm : Mem) (J : Nat → Nat) (s : ST), z + e = Z → e < f → 1 ≤ z → DI o d q (B1 + 4 * z) (B2 + 26 * z) A dm mm J s → zn (sM s) = z → rn (sM s) = 0 → (∀ y, y < z → npt (sM s) y = 0) → Go (bL_drawn_l20 f o d q (ii (Z : Int)) (ii (z : Int)) mm A dm) prN A P := by
  intro e
  induction e with
  | zero =>
    intro z f A dm mm J s h1 h2 h3 hI i1 i2 i3
    obtain ⟨f, rfl⟩ : ∃ g, f = g + 1 := ⟨f - 1, by omega⟩
    have e : z = Z := by omega
    subst e
    rw [bL_drawn_l20, if_neg (by rw [ii_lt (by omega) (by omega) (by omega) (by omega)]; omega), l0]
    exact hk A dm mm J s hI i1 i2 i3
  | succ e ih =>
    intro z f A dm mm J s h1 h2 h3 hI i1 i2 i3
    obtain ⟨f, rfl⟩ : ∃ g, f = g + 1 := ⟨f - 1, by omega⟩
    obtain ⟨hX, hS, hs, hC, hD, hJ, ho, b1, b2⟩ := hI
    have hW := hs.1
    have zc := zn_c hW.1
    rw [bL_drawn_l20, if_pos (by rw [ii_lt (by omega) (by omega) (by omega) (by omega)]; omega), l3, gnn_i (by omega) (by omega), show (ii 3).toNatClampNeg = 3 by decide]
    refine go_alc ?_
    have x1 := ext_nw A dm 20 3 3 (fun _ => .int 0)
    have r1 := NR_e0 A dm 3 (by decide)
    have c1 := cst_nw A 20 3 3
    have s1 : (nw A 20 3 3).1 = A.1 + 1 := rfl
    generalize nw A 20 3 3 = A1 at x1 r1 c1 s1 ⊢
    generalize nwm A dm (fun _ => Value.int 0) = m1 at x1 r1 ⊢
    have hD1 := hD.ext x1
    obtain ⟨w0, n0, q0, v0, r0, k0⟩ := fil_st x1.k (by omega) r1 hD1 (N := (z : Int)) (by omega) (by omega) 0
    obtain ⟨y1, r2, d2⟩ := k0 w0
    obtain ⟨w1, n1, q1, v1, r3, k1⟩ := fil_st y1 (by omega) r2 d2 (N := 120) (by omega) (by omega) 1
    obtain ⟨y2, r4, d3⟩ := k1 w1
    obtain ⟨w2, n2, q2, v2, r5, k2⟩ := fil_st y2 (by omega) r4 d3 (N := 120) (by omega) (by omega) 2
    obtain ⟨y3, r6, d4⟩ := k2 w2
    rw [gkd_i hD1.1, q0, bd_some]
    dsimp only
    rw [l0, r0.wr (a := 0) (i := 0) rfl (by omega), gkd_i hD1.1, show (120 : Int32) = ii 120 by decide, q1, bd_some]
    dsimp only
    rw [l1, r3.wr (a := 1) (i := 1) rfl (by omega), gkd_i hD1.1, q2, bd_some]
    dsimp only
    rw [l2, r5.wr (a := 2) (i := 2) rfl (by omega)]
    generalize up3 n2 (A.1 + 1) 2 (.int (ii w2)) = m3 at y3 r6 d4 ⊢
    have hX1 := hX.k7 y3
    have hS1 := hS.mo (A1 := A1) (by omega)
    have hX2 : MkX 0 A1 m3 J (zoa (sM s) w0 w1 w2) (zn (sM s)) (zn (sM s)) (rn (sM s)) (rn (sM s)) (npt (zoa (sM s) w0 w1 w2)) (stp (zoa (sM s) w0 w1 w2)) := by
      refine (hX1.cm (zoa_o (by omega) (by omega)) (fun _ k hk => zoa_o (by omega) (by omega)) (fun z hz _ i hi => zrw_cg (fun j g1 g2 => zoa_o (by omega) (by omega)) hi) (fun z hz k hk i hi => absurd hk (by rw [i3 z (by omega)]; omega)) (fun r hr _ i hi => absurd hr (by omega)) (fun r hr k hk i hi => absurd hr (by omega))).cn (fun z hz => npt_zoa hz) (fun r hr => absurd hr (by omega))
    have hrow : NR A1 m3 (A.1 + 1) 3 (zrw (zoa (sM s) w0 w1 w2) (zn (sM s))) := r6.cg (fun i hi => by
      obtain ⟨t0, t1, t2⟩ := zrw_zoa (M := sM s) (a := w0) (b := w1) (c := w2)
      rcases (show i = 0 ∨ i = 1 ∨ i = 2 by omega) with rfl | rfl | rfl
      · rw [t0]; rfl
      · rw [t1]; rfl
      · rw [t2]; rfl)
    obtain ⟨ob1, ob2, -⟩ := hX2.ob hJ
    rw [gkd_i ob1, gtr_i ob2, gkd_i (hX2.2.2.1 (by omega)).1]
    refine Go.call (g_zone hS1 hX2 (by omega) hrow (fun i => by have := hS.1 i; omega)) (fun x hx9 _ => ?_)
    obtain ⟨-, J1, hX3, hS3, j1, j1e, xl1, cs1⟩ := hx9
    have hJ1 : J1 0 = q := (j1 0 (by omega) (by omega)).trans hJ
    obtain ⟨ob3, -, ob4, -⟩ := hX3.ob hJ1
    rw [gkd_i ob3, gtr_i ob4]
    refine go_alc ?_
    obtain ⟨m', e1, e2, e3⟩ := li_new x.2.1 x.2.2 id
    rw [e1, bd_some]
    have hX4 := hX3.ext e2
    have hS4 := hS3.mo (A1 := nw x.2.1 9 0 3) (by have := e2.1.1; omega)
    have c3 := cst_nw x.2.1 9 0 3
    have hD4 := (d4.el xl1).ext e2
    have ho4 : (nw x.2.1 9 0 3).2.2.2 = o := e2.2.1.trans (xl1.2.1.trans (x1.2.1.trans ho))
    generalize nw x.2.1 9 0 3 = A4 at e1 e2 e3 hX4 hS4 c3 hD4 ho4 ⊢
    rw [gkd_i (hX4.2.2.2.1 (by omega)).1]
    refine Go.call (g_curve hS4 hX4 npt_zoa0 (by omega) e3 (fun i => by have := hS3.1 i; omega)) (fun y hy9 _ => ?_)
    obtain ⟨-, J2, hX5, hS5, j2, j2e, xl2, cs2⟩ := hy9
    have hJ2 : J2 0 = q := (j2 0 (by omega) (by omega)).trans hJ1
    have hr5 := hX5.2.2.2.2.2.2.2.1 (zn (sM s)) (by omega) (by omega)
    rw [j2 _ (by omega) (by omega), j1e] at hr5
    obtain ⟨t0, t1, t2⟩ := zrw_zoa (M := sM s) (a := w0) (b := w1) (c := w2)
    obtain ⟨mz, w7, -, w8⟩ := c_zone_y hC hs (a := w0) (b := w1) (c := w2) ⟨by omega, by omega, by omega, by omega⟩
    rw [hr5.rd (a := 0) (i := 0) rfl (by omega), hr5.rd (a := 1) (i := 1) rfl (by omega), hr5.rd (a := 2) (i := 2) rfl (by omega), t0, t1, t2, gob_i (ho4.symm.trans xl2.2.1.symm), w7, bd_some, nm_eq, ii_add]
    refine ih (z + 1) f y.2.1 y.2.2 mz J2 (sset s (zoa (sM s) w0 w1 w2)) (by omega) (by omega) (by omega) ⟨?_, hS5, hs.ups (zoa_WF hW (by omega) (by omega) (by omega) (by omega)), w8, hD4.el xl2, hJ2, xl2.2.1.trans ho4, ?_, ?_⟩ ?_ ?_ (fun y hy => ?_)
    · show MkX 0 y.2.1 y.2.2 J2 (zoa (sM s) w0 w1 w2) (zn (zoa (sM s) w0 w1 w2)) (zn (zoa (sM s) w0 w1 w2)) (rn (zoa (sM s) w0 w1 w2)) (rn (zoa (sM s) w0 w1 w2)) (npt (zoa (sM s) w0 w1 w2)) (stp (zoa (sM s) w0 w1 w2))
      rw [zn_zoa, rn_zoa]
      exact hX5
    · have := c1.1; have := cs1.1; have := c3.1; have := cs2.1
      omega
    · have := c1.2; have := cs1.2; have := c3.2; have := cs2.2
      omega
    · show zn (zoa (sM s) w0 w1 w2) = z + 1
      rw [zn_zoa, i1]
    · show rn (zoa (sM s) w0 w1 w2) = 0
      rw [rn_zoa, i2]
    · show npt (zoa (sM s) w0 w1 w2) y = 0
      by_cases e9 : y = zn (sM s)
      · rw [e9]
        exact npt_zoa0
      · rw [npt_zoa (by omega)]
        exact i3 y (by omega)
end
