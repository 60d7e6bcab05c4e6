/-! levels by hand and by the class are one -/
theorem sh16 (v : Int32) : ∃ k : Nat, k < 65536 ∧ (v.toUInt32 >>> ((16 : Int32).toUInt32 &&& Int32.toUInt32 31)).toInt32 = ii k := by
  refine ⟨(v.toUInt32 >>> ((16 : Int32).toUInt32 &&& Int32.toUInt32 31)).toNat, ?_, ?_⟩
  · rw [show ((16 : Int32).toUInt32 &&& Int32.toUInt32 31) = (16 : UInt32) by decide, UInt32.toNat_shiftRight, show (16 : UInt32).toNat % 32 = 16 by decide, Nat.shiftRight_eq_div_pow]
    have := v.toUInt32.toNat_lt
    omega
  · generalize (v.toUInt32 >>> ((16 : Int32).toUInt32 &&& Int32.toUInt32 31)) = x
    rw [show ii (x.toNat : Int) = Int32.ofNat x.toNat from Int32.ofInt_eq_ofNat, ← UInt32.toInt32_ofNat', UInt32.ofNat_toNat]
/-- the drawing object -/
def DrR (A : AS) (dm : DM) (d : Nat) : Prop := okd A d 7 ∧ ∃ x, dm d 0 = .int x
section
variable {A A1 A0 : AS} {dm m1 dm0 : DM} {J : Nat → Nat} {M : WM} {d : Nat}
theorem DrR.ext (h : DrR A dm d) (hx : Ext A dm A1 m1) : DrR A1 m1 d := ⟨hx.kd h.1, by rw [hx.v h.1]; exact h.2⟩
theorem next_ok (h : DrR A dm d) {n : Int} (h1 : 1 ≤ n) (h2 : n < 2147483648) : ∃ (w : Int) (m' : DM), bX7_next A dm d (ii n) = some (ii w, m') ∧ (0 ≤ w ∧ w < n) ∧ ExtK 7 A dm A m' ∧ DrR A m' d := by
  obtain ⟨hk, x, hx⟩ := h
  obtain ⟨k, hk6, hs⟩ := sh16 (x * 1103515245 + 12345)
  refine ⟨(k : Int) - k / n * n, up3 dm d 0 (.int (x * 1103515245 + 12345)), ?_, ?_, (ExtK.rf A dm).up (k := 0) hk 0 _, hk, _, up3_s⟩
  · unfold bX7_next
    have hd : 0 ≤ (k : Int) / n := Int.ediv_nonneg (by omega) (by omega)
    have hd2 : (k : Int) / n ≤ k := Int.ediv_le_self _ (by omega)
    rw [gkd_i hk, gti_i hx, gkd_i hk, nm_eq, gkd_i hk, gti_i up3_s, dvz_ii (by omega) h2 (by omega), hs, ii_div (by omega) (by omega) (by omega) (by omega), ii_mul, ii_sub]
  · have e := Int.emod_add_mul_ediv (k : Int) n
    have e1 := Int.emod_nonneg (k : Int) (show n ≠ 0 by omega)
    have e2 := Int.emod_lt_of_pos (k : Int) (show 0 < n by omega)
    rw [Int.mul_comm] at e
    omega
theorem w_mono {z : Nat} (hw : ZW M z) {u v : Int} (h1 : 1 ≤ u) (h2 : u ≤ v) (h3 : v ≤ wan M z) : wor M z v ≤ wor M z u := by
  have h := (Wt_iff hw (u := v) (wor M z v) (by omega) h3).mp (Int.le_refl _)
  exact (Wt_iff hw (u := u) (wor M z v) h1 (by omega)).mpr (by omega)
theorem w_0 (z : Nat) : wor M z 0 = -1 := by
  unfold wor
  by_cases h : fk M z 0 = npt M z
  · rw [if_pos h]
  · rw [if_neg h, if_pos (by omega)]
theorem w_up {z : Nat} (hw : ZW M z) : wor M z (wan M z + 1) = -1 := by
  unfold wor
  have hle := ffl_le (fun k => wan M z + 1 ≤ pu M z k) (npt M z) 0
  by_cases h : fk M z (wan M z + 1) = npt M z
  · rw [if_pos h]
  · exfalso
    have hlt : fk M z (wan M z + 1) < npt M z := by unfold fk at h ⊢; omega
    have ha := fk_at hlt
    have hm := hw.mono (i := fk M z (wan M z + 1)) (j := npt M z - 1) (by omega) (by omega)
    have : wan M z = pu M z (npt M z - 1) := by unfold wan; rw [if_neg (by omega)]
    omega
theorem lj_li {r k : Nat} (h0 : lu M r k ≠ 0) : lj M r k = li M r k (flr M r) := by
  unfold lj
  by_cases c : k < stp M r
  · rw [if_pos c]
  · rw [if_neg c]
    rcases lu_there h0 with h3 | h3
    · unfold li
      rw [if_pos h3]
    · exact absurd h3 c
/-- in the midst of it -/
def LI (kk : Nat) (A0 : AS) (dm0 : DM) (d : Nat) (s : ST) (c1 c2 : Int) (A : AS) (dm : DM) (mm : Mem) : Prop := ExtK kk A0 dm0 A dm ∧ DrR A dm d ∧ CI mm s ∧ cst A0 A c1 c2
variable {s : ST} {c1 c2 : Int} {mm m' : Mem} {kk : Nat}
theorem LI.x (h : LI kk A0 dm0 d s c1 c2 A dm mm) (hx : Ext A dm A1 m1) {a b : Int} (hc : cst A A1 a b) {c3 c4 : Int} (h3 : c1 + a ≤ c3) (h4 : c2 + b ≤ c4) : LI kk A0 dm0 d s c3 c4 A1 m1 mm := ⟨h.1.tr hx.k, h.2.1.ext hx, h.2.2.1, (h.2.2.2.tr hc).mo h3 h4⟩
theorem LI.m (h : LI kk A0 dm0 d s c1 c2 A dm mm) (hm : CI m' s) : LI kk A0 dm0 d s c1 c2 A dm m' := ⟨h.1, h.2.1, hm, h.2.2.2⟩
theorem LI.mo (h : LI kk A0 dm0 d s c1 c2 A dm mm) {c3 c4 : Int} (h3 : c1 ≤ c3) (h4 : c2 ≤ c4) : LI kk A0 dm0 d s c3 c4 A dm mm := ⟨h.1, h.2.1, h.2.2.1, h.2.2.2.mo h3 h4⟩
theorem LI.o (h : LI kk A0 dm0 d s c1 c2 A dm mm) : A0.2.2.2 = A.2.2.2 := h.1.2.1.symm
abbrev prM : Int32 × Mem × AS × DM → AS := fun x => x.2.2.1
theorem lineS_at {r k : Nat} {b : Int} (hr : r < rn M) (hrc : M 1 = (rn M : Int)) (hk : k < 4) : lineS M (r : Int) (k : Int) b = if 0 < lu M r k then (if b = 0 then lu M r k else li M r k (flr M r)) else -1 := by
  unfold lineS
  rw [Int.toNat_natCast, Int.toNat_natCast]
  by_cases h : 0 < lu M r k
  · rw [if_pos ⟨by omega, by omega, h⟩, if_pos h]
  · rw [if_neg (fun q => h q.2.2), if_neg h]
theorem al255 (hM : MkR A0 dm0 J M) (hs : SW s) (hsM : sM s = M) {r : Nat} (hr : r < rn M) {k241 : Nat → Nat → Int32 → Mem → AS → DM → Option (Int32 × Mem × AS × DM)} {P : Int32 × Mem × AS × DM → Prop}
    (hk : ∀ (A' : AS) (dm' : DM) (m' : Mem), LI 7 A0 dm0 d s (c1 + 8) (c2 + 24) A' dm' m' → Go (k241 A0.2.2.2 (J 0) (ii ((r : Int) + 1)) m' A' dm') prM A' P) :
    ∀ (e k f : Nat) (A : AS) (dm : DM) (mm : Mem), k + e = 4 → e < f → LI 7 A0 dm0 d s (c1 + 2 * k) (c2 + 6 * k) A dm mm → Go (bL_areLevels_l255 k241 f A0.2.2.2 (J 0) (ii (r : Int)) (ii (k : Int)) mm A dm) prM A P := by
  have hW : WF M := hsM ▸ hs.1
  have hrb := hW.1.rn
  have hrc := rn_c hW.1
  intro e
  induction e with
  | zero =>
    intro k f A dm mm h1 h2 hL
    obtain ⟨f, rfl⟩ : ∃ g, f = g + 1 := ⟨f - 1, by omega⟩
    have e : k = 4 := by omega
    subst e
    rw [bL_areLevels_l255, l4, if_neg (by rw [ii_lt (by omega) (by omega) (by omega) (by omega)]; omega), nm_eq, l1, ii_add]
    exact hk A dm mm (hL.mo (by omega) (by omega))
  | succ e ih =>
    intro k f A dm mm h1 h2 hL
    obtain ⟨f, rfl⟩ : ∃ g, f = g + 1 := ⟨f - 1, by omega⟩
    have hM1 := hM.k7 hL.1
    have hk4 : k < 4 := by omega
    have hlb := lj_bd hW hr k
    have hlu := lu_nn hW hr k
    rw [bL_areLevels_l255, l4, if_pos (by rw [ii_lt (by omega) (by omega) (by omega) (by omega)]; omega), gkd_i hM1.o]
    refine Go.call (line_ok hM1 hW hr hk4) (fun x hx9 _ => ?_)
    obtain ⟨g1, g2, g3, -⟩ := hx9
    have hL2 : LI 7 A0 dm0 d s (c1 + 2 * (k + 1 : Nat)) (c2 + 6 * (k + 1 : Nat)) x.2.1 x.2.2 mm := hL.x g1 g3 (by omega) (by omega)
    have hnext := ih (k + 1) f x.2.1 x.2.2 mm (by omega) (by omega) hL2
    have q0 := c_line hL.2.2.1 hs (a := (r : Int)) (k := (k : Int)) (b := 0) (by omega) (by omega) (by omega) (by omega) (Or.inl rfl)
    have q1 := c_line hL.2.2.1 hs (a := (r : Int)) (k := (k : Int)) (b := 1) (by omega) (by omega) (by omega) (by omega) (Or.inr rfl)
    rw [hsM, lineS_at hr hrc hk4] at q0 q1
    rw [if_pos rfl] at q0
    rw [if_neg (show ¬ (1 : Int) = 0 by decide)] at q1
    rw [gob_i hL2.o, l0, q0, bd_some, g2.rd (a := 0) (i := 0) rfl (by omega), show lrw M r k 0 = lu M r k from rfl, iflt (by omega) (by omega) (by omega) (by omega)]
    have h319 : ∀ v : Int, v = (if 0 < lu M r k then li M r k (flr M r) else -1) → Go (bL_areLevels_j319 k241 (fun x0 x1 x3 x4 mm9 A9 dm9 => bL_areLevels_l255 k241 f x0 x1 x3 x4 mm9 A9 dm9) A0.2.2.2 (J 0) (ii (r : Int)) (ii (k : Int)) (ii v) (ii (if 0 < lu M r k then li M r k (flr M r) else -1)) mm x.2.1 x.2.2) prM x.2.1 P := by
      intro v hv
      unfold bL_areLevels_j319
      rw [hv, if_pos rfl, nm_eq, l1, ii_add]
      exact hnext
    have h293 : ∀ v : Int, v = (if 0 < lu M r k then lu M r k else -1) → Go (bL_areLevels_j293 k241 (fun x0 x1 x3 x4 mm9 A9 dm9 => bL_areLevels_l255 k241 f x0 x1 x3 x4 mm9 A9 dm9) A0.2.2.2 (J 0) (ii (r : Int)) (ii (k : Int)) x.1 (ii v) (ii (if 0 < lu M r k then lu M r k else -1)) mm x.2.1 x.2.2) prM x.2.1 P := by
      intro v hv
      unfold bL_areLevels_j293
      rw [hv, if_pos rfl, gob_i hL2.o, l1, q1, bd_some, l0, g2.rd (a := 0) (i := 0) rfl (by omega), show lrw M r k 0 = lu M r k from rfl, iflt (by omega) (by omega) (by omega) (by omega)]
      by_cases c : 0 < lu M r k
      · rw [if_pos c, g2.rd (a := 1) (i := 1) rfl (by omega), show lrw M r k 1 = lj M r k from rfl]
        exact h319 _ (by rw [if_pos c]; exact lj_li (by omega))
      · rw [if_neg c, ii_neg]
        exact h319 _ (by rw [if_neg c])
    by_cases c : 0 < lu M r k
    · rw [if_pos c, g2.rd (a := 0) (i := 0) rfl (by omega), show lrw M r k 0 = lu M r k from rfl]
      exact h293 _ (by rw [if_pos c])
    · rw [if_neg c, lm1]
      exact h293 _ (by rw [if_neg c])
theorem al241 (hM : MkR A0 dm0 J M) (hs : SW s) (hsM : sM s = M) : ∀ (e r f : Nat) (A : AS) (dm : DM) (mm : Mem), r + e = rn M → e < f → LI 7 A0 dm0 d s (c1 + 8 * r) (c2 + 24 * r) A dm mm → Go (bL_areLevels_l241 f A0.2.2.2 (J 0) (ii (r : Int)) mm A dm) prM A (fun y => y.1 = ii 1 ∧ LI 7 A0 dm0 d s (c1 + 8 * rn M) (c2 + 24 * rn M) y.2.2.1 y.2.2.2 y.2.1) := by
  have hW : WF M := hsM ▸ hs.1
  have hrb := hW.1.rn
  have hrc := rn_c hW.1
  have hzb := hW.1.zn
  have hzc := zn_c hW.1
  intro e
  induction e with
  | zero =>
    intro r f A dm mm h1 h2 hL
    obtain ⟨f, rfl⟩ : ∃ g, f = g + 1 := ⟨f - 1, by omega⟩
    have hM1 := hM.k7 hL.1
    have e : r = rn M := by omega
    subst e
    rw [bL_areLevels_l241, gkd_i hM1.o, gtr_i hM1.f2, gkd_i hM1.rl.k, bAL_size_ok hM1.rl, bd_some, if_neg (by rw [ii_lt (by omega) (by omega) (by omega) (by omega)]; omega), gkd_i hM1.o, gtr_i hM1.f0, gkd_i hM1.zl.k, bAL_size_ok hM1.zl, bd_some]
    have w1 := c_worth hL.2.2.1 hs (a := (zn M : Int)) (u := 1) (by omega) (by omega) (by omega) (by omega)
    rw [hsM, if_neg (by omega)] at w1
    have w2 := c_wants hL.2.2.1 hs (a := (zn M : Int)) (p := 1) (by omega) (by omega) (by omega) (by omega)
    rw [hsM, if_neg (by omega)] at w2
    have w3 := c_wants hL.2.2.1 hs (a := 0) (p := 10000) (by omega) (by omega) (by omega) (by omega)
    rw [hsM, if_neg (by omega)] at w3
    obtain ⟨n4, w4, -, k4⟩ := c_level hL.2.2.1 hs (a := (zn M : Int)) (p := 1) (b := 1) (by omega) (by omega) (by omega) (by omega) (Or.inr rfl)
    rw [hsM, show lvS M (zn M : Int) 1 1 = -1000000 by unfold lvS; rw [if_neg (by omega)]] at w4
    obtain ⟨n5, w5, -, k5⟩ := c_level k4 hs (a := 0) (p := -1) (b := 1) (by omega) (by omega) (by omega) (by omega) (Or.inr rfl)
    rw [hsM, show lvS M 0 (-1) 1 = -1000000 by unfold lvS; rw [if_neg (by omega)]] at w5
    have w6 := c_line k5 hs (a := (rn M : Int)) (k := 0) (b := 0) (by omega) (by omega) (by omega) (by omega) (Or.inl rfl)
    rw [hsM, show lineS M (rn M : Int) 0 0 = -1 by unfold lineS; rw [if_neg (by omega)]] at w6
    have w7 := c_line k5 hs (a := 0) (k := 4) (b := 0) (by omega) (by omega) (by omega) (by omega) (Or.inl rfl)
    rw [hsM, show lineS M 0 4 0 = -1 by unfold lineS; rw [if_neg (by omega)]] at w7
    rw [gob_i hL.o, l0, lm1, l1, l4, l10000, lm1000000, w1, bd_some, if_pos rfl, gob_i hL.o, w2, bd_some, if_pos rfl, gob_i hL.o, w3, bd_some, if_pos rfl, gob_i hL.o, w4, bd_some]
    dsimp only
    rw [if_pos rfl, gob_i hL.o, w5, bd_some]
    dsimp only
    rw [if_pos rfl, gkd_i hM1.o, gtr_i hM1.f2, gkd_i hM1.rl.k, bAL_size_ok hM1.rl, bd_some, gob_i hL.o, w6, bd_some, if_pos rfl, gob_i hL.o, w7, bd_some, if_pos rfl]
    exact Go.mk (le2.rf _) ⟨rfl, hL.m k5⟩
  | succ e ih =>
    intro r f A dm mm h1 h2 hL
    obtain ⟨f, rfl⟩ : ∃ g, f = g + 1 := ⟨f - 1, by omega⟩
    have hM1 := hM.k7 hL.1
    have hr : r < rn M := by omega
    rw [bL_areLevels_l241, gkd_i hM1.o, gtr_i hM1.f2, gkd_i hM1.rl.k, bAL_size_ok hM1.rl, bd_some, if_pos (by rw [ii_lt (by omega) (by omega) (by omega) (by omega)]; omega), l0]
    exact al255 hM hs hsM hr (c1 := c1 + 8 * r) (c2 := c2 + 24 * r) (k241 := fun x0 x1 x3 mm9 A9 dm9 => bL_areLevels_l241 f x0 x1 x3 mm9 A9 dm9) (fun A' dm' m' hL' => ih (r + 1) f A' dm' m' (by omega) (by omega) (hL'.mo (by omega) (by omega))) 4 0 FU A dm mm (by omega) (by have : FU = 20000 := rfl; omega) (hL.mo (by omega) (by omega))
theorem lvS_at {z : Nat} {p b : Int} (hz : z < zn M) (hzc : M 0 = (zn M : Int)) (hp : 0 ≤ p ∧ p ≤ 9999) (hb : b = 0 ∨ b = 1) : lvS M (z : Int) p b = Lz (Dc M) z (p + b) := by
  unfold lvS
  rw [if_pos ⟨by omega, hp⟩, Int.toNat_natCast]
  rcases hb with rfl | rfl
  · rw [if_pos rfl, Int.add_zero]
  · rw [if_neg (by decide)]
theorem al168 (hM : MkR A0 dm0 J M) (hs : SW s) (hsM : sM s = M) (hS : Sml M) {z : Nat} (hz : z < zn M) {q n : Nat} {fw : Nat → Int} {k2 : Nat → Nat → Nat → Int32 → Mem → AS → DM → Option (Int32 × Mem × AS × DM)} {k108 : Nat → Nat → Nat → Int32 → Nat → Int32 → Mem → AS → DM → Option (Int32 × Mem × AS × DM)} {P : Int32 × Mem × AS × DM → Prop} {k : Nat}
    (hk : ∀ (A' : AS) (dm' : DM) (m' : Mem), LI 7 A0 dm0 d s (c1 + 107) (c2 + 3258) A' dm' m' → NR A' dm' q n fw → Go (k108 A0.2.2.2 (J 0) d (ii (z : Int)) q (ii ((k : Int) + 1)) m' A' dm') prM A' P) {p : Int} (hp : 0 ≤ p ∧ p ≤ 9999) (hL : LI 7 A0 dm0 d s c1 c2 A dm mm) (hq : NR A dm q n fw) : Go (bL_areLevels_j168 k2 k108 A0.2.2.2 (J 0) d (ii (z : Int)) q (ii (k : Int)) (ii p) mm A dm) prM A P := by
  have hW : WF M := hsM ▸ hs.1
  have hzb := hW.1.zn
  have hzc := zn_c hW.1
  have hM1 := hM.k7 hL.1
  have hwan := hS.2.2 z hz
  have w1 := c_wants hL.2.2.1 hs (a := (z : Int)) (p := p) (by omega) (by omega) (by omega) (by omega)
  rw [hsM, if_pos ⟨by omega, hp⟩, Int.toNat_natCast] at w1
  unfold bL_areLevels_j168
  rw [gob_i hL.o, w1, bd_some, gkd_i hM1.o]
  refine Go.call (wants_ok hM1 hW hz (by omega) (by omega)) (fun x hx9 _ => ?_)
  obtain ⟨g1, g2, g3⟩ := hx9
  have hL2 : LI 7 A0 dm0 d s (c1 + 1) (c2 + 270) x.2.1 x.2.2 mm := hL.x g2 g3 (by omega) (by omega)
  have hM2 := hM1.ext g2
  obtain ⟨n2, w2, -, k2'⟩ := c_level hL.2.2.1 hs (a := (z : Int)) (p := p) (b := 0) (by omega) (by omega) (by omega) (by omega) (Or.inl rfl)
  rw [hsM, lvS_at hz hzc hp (Or.inl rfl)] at w2
  obtain ⟨n3, w3, -, k3'⟩ := c_level k2' hs (a := (z : Int)) (p := p) (b := 1) (by omega) (by omega) (by omega) (by omega) (Or.inr rfl)
  rw [hsM, lvS_at hz hzc hp (Or.inr rfl)] at w3
  rw [g1, if_pos rfl, gob_i hL2.o, l0, w2, bd_some, gkd_i hM2.o]
  refine Go.call (level6 hW hS (p := p) (h := 0) (by omega) (Or.inl rfl) hM2 hz) (fun y hy9 _ => ?_)
  obtain ⟨i1, i2, i3⟩ := hy9
  have hL3 : LI 7 A0 dm0 d s (c1 + 54) (c2 + 1764) y.2.1 y.2.2 n2 := (hL2.x i2 i3 (by omega) (by omega)).m k2'
  have hM3 := hM2.ext i2
  rw [i1]
  dsimp only
  rw [if_pos rfl, gob_i hL3.o, l1, w3, bd_some, gkd_i hM3.o]
  refine Go.call (level6 hW hS (p := p) (h := 1) (by omega) (Or.inr rfl) hM3 hz) (fun w hw9 _ => ?_)
  obtain ⟨j1, j2, j3⟩ := hw9
  rw [j1]
  dsimp only
  rw [if_pos rfl, nm_eq, ii_add]
  exact hk w.2.1 w.2.2 n3 ((hL3.x j2 j3 (by omega) (by omega)).m k3') (((hq.ext g2).ext i2).ext j2)
theorem LI.dr (h : LI 7 A0 dm0 d s c1 c2 A dm mm) {m2 : DM} (hx : ExtK 7 A dm A m2) (hd : DrR A m2 d) : LI 7 A0 dm0 d s c1 c2 A m2 mm := ⟨h.1.tr hx, hd, h.2.2.1, h.2.2.2⟩
theorem al108 (hM : MkR A0 dm0 J M) (hs : SW s) (hsM : sM s = M) (hS : Sml M) {z : Nat} (hz : z < zn M) {q : Nat} {k2 : Nat → Nat → Nat → Int32 → Mem → AS → DM → Option (Int32 × Mem × AS × DM)} {P : Int32 × Mem × AS × DM → Prop}
    (hk : ∀ (A' : AS) (dm' : DM) (m' : Mem), LI 7 A0 dm0 d s (c1 + 642) (c2 + 19548) A' dm' m' → Go (k2 A0.2.2.2 (J 0) d (ii ((z : Int) + 1)) m' A' dm') prM A' P) :
    ∀ (e k f : Nat) (A : AS) (dm : DM) (mm : Mem), k + e = 6 → e < f → LI 7 A0 dm0 d s (c1 + 107 * k) (c2 + 3258 * k) A dm mm → NR A dm q (wan M z).toNat (wv M z) → Go (bL_areLevels_l108 k2 f A0.2.2.2 (J 0) d (ii (z : Int)) q (ii (k : Int)) mm A dm) prM A P := by
  have hW : WF M := hsM ▸ hs.1
  have hzb := hW.1.zn
  have hzc := zn_c hW.1
  have hw := wwz hW.1 hz
  have hwan := wan_le hw
  intro e
  induction e with
  | zero =>
    intro k f A dm mm h1 h2 hL hq
    obtain ⟨f, rfl⟩ : ∃ g, f = g + 1 := ⟨f - 1, by omega⟩
    have e : k = 6 := by omega
    subst e
    rw [bL_areLevels_l108, show (6 : Int32) = ii 6 by decide, if_neg (by rw [ii_lt (by omega) (by omega) (by omega) (by omega)]; omega), nm_eq, l1, ii_add]
    exact hk A dm mm (hL.mo (by omega) (by omega))
  | succ e ih =>
    intro k f A dm mm h1 h2 hL hq
    obtain ⟨f, rfl⟩ : ∃ g, f = g + 1 := ⟨f - 1, by omega⟩
    have h168 : ∀ (p : Int) (m2 : DM), 0 ≤ p ∧ p ≤ 9999 → ExtK 7 A dm A m2 → DrR A m2 d → Go (bL_areLevels_j168 k2 (fun x0 x1 x2 x3 x4 x5 mm9 A9 dm9 => bL_areLevels_l108 k2 f x0 x1 x2 x3 x4 x5 mm9 A9 dm9) A0.2.2.2 (J 0) d (ii (z : Int)) q (ii (k : Int)) (ii p) mm A m2) prM A P := by
      intro p m2 hp hx hd
      exact al168 hM hs hsM hS hz (c1 := c1 + 107 * k) (c2 := c2 + 3258 * k) (fun A' dm' m' hL' hq' => ih (k + 1) f A' dm' m' (by omega) (by omega) (hL'.mo (by omega) (by omega)) hq') hp (hL.dr hx hd) (hq.ek hx (by decide))
    have h161 : Go (bL_areLevels_j161 k2 (fun x0 x1 x2 x3 x4 x5 mm9 A9 dm9 => bL_areLevels_l108 k2 f x0 x1 x2 x3 x4 x5 mm9 A9 dm9) A0.2.2.2 (J 0) d (ii (z : Int)) q (ii (k : Int)) mm A dm) prM A P := by
      obtain ⟨w, m', e1, e2, e3, e4⟩ := next_ok hL.2.1 (n := 1000) (by omega) (by omega)
      unfold bL_areLevels_j161
      rw [gkd_i hL.2.1.1, show (1000 : Int32) = ii 1000 by decide, e1, bd_some]
      exact h168 w m' (by omega) e3 e4
    have hlen : nI (lenA A q) = ii (wan M z) := by rw [lenA_pos hq.1, hq.2.1, ii_nI]; congr 1; omega
    rw [bL_areLevels_l108, show (6 : Int32) = ii 6 by decide, if_pos (by rw [ii_lt (by omega) (by omega) (by omega) (by omega)]; omega), l0, l1, l4, l9999, ifeq (by omega) (by omega) (by omega) (by omega)]
    by_cases ca : (k : Int) = 0
    · rw [if_pos ca]
      exact h168 0 dm (by omega) (ExtK.rf A dm) hL.2.1
    rw [if_neg ca, ifeq (by omega) (by omega) (by omega) (by omega)]
    by_cases cb : (k : Int) = 1
    · rw [if_pos cb]
      exact h168 9999 dm (by omega) (ExtK.rf A dm) hL.2.1
    rw [if_neg cb, gal_i (Or.inl hq.1), hlen, iflt (by omega) (by omega) (by omega) (by omega)]
    by_cases cc : 0 < wan M z
    · rw [if_pos cc, iflt (by omega) (by omega) (by omega) (by omega)]
      by_cases cd : (k : Int) < 4
      · obtain ⟨w, m', e1, e2, e3, e4⟩ := next_ok hL.2.1 (n := wan M z) (by omega) (by omega)
        have hq2 := hq.ek e3 (by decide)
        have hwb := wv_bd hw (i := w.toNat) (by omega)
        rw [if_pos cd, gal_i (Or.inl hq.1), gkd_i hL.2.1.1, e1, bd_some]
        dsimp only
        rw [hq2.rd (a := w) (i := w.toNat) (by omega) (by omega)]
        exact h168 _ m' (by omega) e3 e4
      · rw [if_neg cd]
        exact h161
    · rw [if_neg cc]
      exact h161
theorem al23 (hM : MkR A0 dm0 J M) (hs : SW s) (hsM : sM s = M) (hS : Sml M) {z : Nat} (hz : z < zn M) {q : Nat} {k2 : Nat → Nat → Nat → Int32 → Mem → AS → DM → Option (Int32 × Mem × AS × DM)} {P : Int32 × Mem × AS × DM → Prop}
    (hk : ∀ (A' : AS) (dm' : DM) (m' : Mem), LI 7 A0 dm0 d s (c1 + 642) (c2 + 19548) A' dm' m' → Go (k2 A0.2.2.2 (J 0) d (ii ((z : Int) + 1)) m' A' dm') prM A' P) (hL : LI 7 A0 dm0 d s c1 c2 A dm mm) (hq : NR A dm q (wan M z).toNat (wv M z)) :
    ∀ (e u f : Nat), (u : Int) + e = wan M z + 1 → e < f → 1 ≤ u → Go (bL_areLevels_l23 k2 f A0.2.2.2 (J 0) d (ii (z : Int)) q (ii (u : Int)) mm A dm) prM A P := by
  have hW : WF M := hsM ▸ hs.1
  have hzb := hW.1.zn
  have hzc := zn_c hW.1
  have hw := wwz hW.1 hz
  have hwan := wan_le hw
  have hlen : nI (lenA A q) = ii (wan M z) := by rw [lenA_pos hq.1, hq.2.1, ii_nI]; congr 1; omega
  have wo : ∀ u : Int, 0 ≤ u → u ≤ 3000 → f6_worth mm (ii (z : Int)) (ii u) = some (ii (wor M z u)) := by
    intro u h1 h2
    have w1 := c_worth hL.2.2.1 hs (a := (z : Int)) (u := u) (by omega) (by omega) (by omega) (by omega)
    rw [hsM, if_pos (by omega), Int.toNat_natCast] at w1
    exact w1
  intro e
  induction e with
  | zero =>
    intro u f h1 h2 h3
    obtain ⟨f, rfl⟩ : ∃ g, f = g + 1 := ⟨f - 1, by omega⟩
    rw [bL_areLevels_l23, gal_i (Or.inl hq.1), hlen, if_pos (by rw [ii_lt (by omega) (by omega) (by omega) (by omega)]; omega), gob_i hL.o, l0, lm1, l1, ii_add, wo 0 (by omega) (by omega), bd_some, w_0, if_pos rfl, gal_i (Or.inl hq.1), gob_i hL.o, wo _ (by omega) (by omega), bd_some, w_up hw, if_pos rfl]
    exact al108 hM hs hsM hS hz hk 6 0 FU A dm mm (by omega) (by have : FU = 20000 := rfl; omega) (hL.mo (by omega) (by omega)) hq
  | succ e ih =>
    intro u f h1 h2 h3
    obtain ⟨f, rfl⟩ : ∃ g, f = g + 1 := ⟨f - 1, by omega⟩
    have hnext : Go (bL_areLevels_j73 k2 (fun x0 x1 x2 x3 x4 x5 mm9 A9 dm9 => bL_areLevels_l23 k2 f x0 x1 x2 x3 x4 x5 mm9 A9 dm9) A0.2.2.2 (J 0) d (ii (z : Int)) q (ii (u : Int)) mm A dm) prM A P := by
      unfold bL_areLevels_j73
      rw [nm_eq, l1, ii_add]
      exact ih (u + 1) f (by omega) (by omega) (by omega)
    have hb1 := wv_bd hw (i := u - 1) (by omega)
    have hv1 : wv M z (u - 1) = wor M z u := by unfold wv; congr 1; omega
    rw [bL_areLevels_l23, gal_i (Or.inl hq.1), hlen, if_neg (by rw [ii_lt (by omega) (by omega) (by omega) (by omega)]; omega), gob_i hL.o, wo u (by omega) (by omega), bd_some, l1, l2, ii_sub, ii_sub, hq.rd (i := u - 1) (by omega) (by omega), hv1, if_pos rfl, iflt (by omega) (by omega) (by omega) (by omega)]
    by_cases c : (1 : Int) < u
    · have hb2 := wv_bd hw (i := u - 2) (by omega)
      have hv2 : wv M z (u - 2) = wor M z ((u : Int) - 1) := by unfold wv; congr 1; omega
      have hmo := w_mono hw (u := (u : Int) - 1) (v := (u : Int)) (by omega) (by omega) (by omega)
      rw [if_pos c, hq.rd (i := u - 1) (by omega) (by omega), hq.rd (i := u - 2) (by omega) (by omega), hv1, hv2, if_neg (by rw [ii_lt (by omega) (by omega) (by omega) (by omega)]; omega)]
      exact hnext
    · rw [if_neg c]
      exact hnext
theorem al2 (hM : MkR A0 dm0 J M) (hs : SW s) (hsM : sM s = M) (hS : Sml M) : ∀ (e z f : Nat) (A : AS) (dm : DM) (mm : Mem), z + e = zn M → e < f → LI 7 A0 dm0 d s (c1 + 643 * z) (c2 + 19818 * z) A dm mm → Go (bL_areLevels_l2 f A0.2.2.2 (J 0) d (ii (z : Int)) mm A dm) prM A (fun y => y.1 = ii 1 ∧ LI 7 A0 dm0 d s (c1 + 643 * zn M + 8 * rn M) (c2 + 19818 * zn M + 24 * rn M) y.2.2.1 y.2.2.2 y.2.1) := by
  have hW : WF M := hsM ▸ hs.1
  have hzb := hW.1.zn
  have hzc := zn_c hW.1
  have hrb := hW.1.rn
  have hrc := rn_c hW.1
  intro e
  induction e with
  | zero =>
    intro z f A dm mm h1 h2 hL
    obtain ⟨f, rfl⟩ : ∃ g, f = g + 1 := ⟨f - 1, by omega⟩
    have hM1 := hM.k7 hL.1
    have e : z = zn M := by omega
    subst e
    rw [bL_areLevels_l2, gkd_i hM1.o, gtr_i hM1.f0, gkd_i hM1.zl.k, bAL_size_ok hM1.zl, bd_some, if_neg (by rw [ii_lt (by omega) (by omega) (by omega) (by omega)]; omega), l0]
    exact al241 hM hs hsM (rn M) 0 FU A dm mm (by omega) (by have : FU = 20000 := rfl; omega) (hL.mo (by omega) (by omega))
  | succ e ih =>
    intro z f A dm mm h1 h2 hL
    obtain ⟨f, rfl⟩ : ∃ g, f = g + 1 := ⟨f - 1, by omega⟩
    have hM1 := hM.k7 hL.1
    have hz : z < zn M := by omega
    have hwan := hS.2.2 z hz
    have hw0 := wan_le (wwz hW.1 hz)
    rw [bL_areLevels_l2, gkd_i hM1.o, gtr_i hM1.f0, gkd_i hM1.zl.k, bAL_size_ok hM1.zl, bd_some, if_pos (by rw [ii_lt (by omega) (by omega) (by omega) (by omega)]; omega), gkd_i hM1.o]
    refine Go.call (worths_ok hM1 hW hz) (fun x hx9 _ => ?_)
    obtain ⟨g1, g2, g3, -⟩ := hx9
    have hL2 : LI 7 A0 dm0 d s (c1 + 643 * z + 1) (c2 + 19818 * z + 270) x.2.1 x.2.2 mm := hL.x g1 g3 (by omega) (by omega)
    rw [l1]
    exact al23 hM hs hsM hS hz (k2 := fun x0 x1 x2 x3 mm9 A9 dm9 => bL_areLevels_l2 f x0 x1 x2 x3 mm9 A9 dm9) (fun A' dm' m' hL' => ih (z + 1) f A' dm' m' (by omega) (by omega) (hL'.mo (by omega) (by omega))) hL2 g2 (wan M z).toNat 1 FU (by omega) (by have : FU = 20000 := rfl; omega) (by omega)
theorem areLevels_ok (hM : MkR A dm J M) (hs : SW s) (hsM : sM s = M) (hS : Sml M) (hC : CI mm s) (hd : DrR A dm d) : Go (bL_areLevels mm A dm A.2.2.2 (J 0) d) prM A (fun y => y.1 = ii 1 ∧ LI 7 A dm d s 3263 99234 y.2.2.1 y.2.2.2 y.2.1) := by
  have h5 := hS.1
  have h6 := hS.2.1
  unfold bL_areLevels
  rw [l0]
  exact Go.imp (al2 hM hs hsM hS (c1 := 0) (c2 := 0) (zn M) 0 FU A dm mm (by omega) (by have : FU = 20000 := rfl; omega) ⟨ExtK.rf A dm, hd, hC, (cst.rf A).mo (by omega) (by omega)⟩) (fun y hy => ⟨hy.1, hy.2.mo (by omega) (by omega)⟩)
end
