/-! what is cleared by hand and by the class is one, and even -/
def LE (A0 : AS) (dm0 : DM) (s : ST) (c1 c2 : Int) (A : AS) (dm : DM) (mm : Mem) : Prop := Ext A0 dm0 A dm ∧ CI mm s ∧ cst A0 A c1 c2
def CB (A0 : AS) (dm0 : DM) (J : Nat → Nat) (M : WM) (s : ST) (b : Nat) : Prop := MkR A0 dm0 J M ∧ SW s ∧ sM s = M ∧ Sml M ∧ CLR A0 dm0 (J 0) b M
section
variable {A A1 A0 : AS} {dm m1 dm0 : DM} {J : Nat → Nat} {M : WM} {s : ST} {b : Nat} {c1 c2 : Int} {mm m' : Mem}
theorem LE.x (h : LE A0 dm0 s c1 c2 A dm mm) (hx : Ext A dm A1 m1) {a b : Int} (hc : cst A A1 a b) {c3 c4 : Int} (h3 : c1 + a ≤ c3) (h4 : c2 + b ≤ c4) : LE A0 dm0 s c3 c4 A1 m1 mm := ⟨h.1.tr hx, h.2.1, (h.2.2.tr hc).mo h3 h4⟩
theorem LE.m (h : LE A0 dm0 s c1 c2 A dm mm) (hm : CI m' s) : LE A0 dm0 s c1 c2 A dm m' := ⟨h.1, hm, h.2.2⟩
theorem LE.mo (h : LE A0 dm0 s c1 c2 A dm mm) {c3 c4 : Int} (h3 : c1 ≤ c3) (h4 : c2 ≤ c4) : LE A0 dm0 s c3 c4 A dm mm := ⟨h.1, h.2.1, h.2.2.mo h3 h4⟩
theorem LE.o (h : LE A0 dm0 s c1 c2 A dm mm) : A0.2.2.2 = A.2.2.2 := h.1.2.1.symm
theorem CB.wf (h : CB A0 dm0 J M s b) : WF M := h.2.2.1 ▸ h.2.1.1
theorem CB.wd (h : CB A0 dm0 J M s b) : WD (Dc M) := Dg_WD h.wf (ii 0) false
theorem CB.zc (h : CB A0 dm0 J M s b) : M 0 = (zn M : Int) ∧ zn M ≤ 5 ∧ 1 ≤ zn M := by
  have := h.wf.1.zn
  have := zn_c h.wf.1
  have := h.2.2.2.1.1
  omega
theorem CB.rc (h : CB A0 dm0 J M s b) : M 1 = (rn M : Int) ∧ rn M ≤ 6 := ⟨rn_c h.wf.1, h.2.2.2.1.2.1⟩
theorem q_price (h : CB A0 dm0 J M s b) (hC : CI mm s) {a : Int} {z : Nat} (ha : a = z) (hz : z < zn M) : ∃ m', f6_price mm (ii a) = some (ii (Pz (Dc M) z : Int), m') ∧ CI m' s := by
  have hzc := h.zc
  obtain ⟨m', e1, -, e2⟩ := c_price hC h.2.1 (a := a) (by omega) (by omega)
  rw [h.2.2.1, if_pos (by omega), ha, Int.toNat_natCast] at e1
  exact ⟨m', by rw [ha]; exact e1, e2⟩
theorem q_net (h : CB A0 dm0 J M s b) (hC : CI mm s) {z : Nat} (hz : z < zn M) : ∃ m', f6_net mm (ii (z : Int)) = some (ii (Nz (Dc M) z), m') ∧ CI m' s := by
  have hzc := h.zc
  obtain ⟨m', e1, -, e2⟩ := c_net hC h.2.1 (a := (z : Int)) (by omega) (by omega)
  rw [h.2.2.1, if_pos (by omega), Int.toNat_natCast] at e1
  exact ⟨m', e1, e2⟩
theorem q_served (h : CB A0 dm0 J M s b) (hC : CI mm s) {z : Nat} (hz : z < zn M) : ∃ m', f6_served mm (ii (z : Int)) = some (ii (Sz (Dc M) z), m') ∧ CI m' s := by
  have hzc := h.zc
  obtain ⟨m', e1, -, e2⟩ := c_served hC h.2.1 (a := (z : Int)) (by omega) (by omega)
  rw [h.2.2.1, if_pos (by omega), Int.toNat_natCast] at e1
  exact ⟨m', e1, e2⟩
theorem q_charged (h : CB A0 dm0 J M s b) (hC : CI mm s) {z : Nat} (hz : z < zn M) : ∃ m', f6_charged mm (ii (z : Int)) = some (ll ((Pz (Dc M) z : Int) * Sz (Dc M) z), m') ∧ CI m' s := by
  have hzc := h.zc
  obtain ⟨m', e1, -, e2⟩ := c_charged hC h.2.1 (a := (z : Int)) (by omega) (by omega)
  rw [h.2.2.1, if_pos (by omega), Int.toNat_natCast] at e1
  exact ⟨m', e1, e2⟩
theorem q_binds (h : CB A0 dm0 J M s b) (hC : CI mm s) {z : Nat} (hz : z < zn M) : ∃ m', f6_binds mm (ii (z : Int)) = some (ii (if z = 0 then 0 else bnd M (Dc M) z), m') ∧ CI m' s := by
  have hzc := h.zc
  obtain ⟨m', e1, -, e2⟩ := c_binds hC h.2.1 (a := (z : Int)) (by omega) (by omega)
  rw [h.2.2.1, if_pos (by omega), Int.toNat_natCast] at e1
  refine ⟨m', ?_, e2⟩
  rw [e1]
  by_cases e : z = 0
  · rw [if_pos e, if_pos (by omega)]
  · rw [if_neg e, if_neg (by omega)]
theorem q_rent (h : CB A0 dm0 J M s b) (hC : CI mm s) {z : Nat} (hz : z < zn M) : ∃ m', f6_rent mm (ii (z : Int)) = some (ll (if z = 0 then 0 else rto (Dc M) z), m') ∧ CI m' s := by
  have hzc := h.zc
  obtain ⟨m', e1, -, e2⟩ := c_rent hC h.2.1 (a := (z : Int)) (by omega) (by omega)
  rw [h.2.2.1, if_pos (by omega), Int.toNat_natCast] at e1
  refine ⟨m', ?_, e2⟩
  rw [e1]
  by_cases e : z = 0
  · rw [if_pos e, if_pos (by omega)]
  · rw [if_neg e, if_neg (by omega)]
theorem q_paid (h : CB A0 dm0 J M s b) (hC : CI mm s) {r : Nat} (hr : r < rn M) : ∃ m', f6_paid mm (ii (r : Int)) = some (ll (pdt (Dc M) r), m') ∧ CI m' s := by
  have hrc := h.rc
  obtain ⟨m', e1, -, e2⟩ := c_paid hC h.2.1 (a := (r : Int)) (by omega) (by omega)
  rw [h.2.2.1, if_pos (by omega), Int.toNat_natCast] at e1
  exact ⟨m', e1, e2⟩
theorem q_paidk (h : CB A0 dm0 J M s b) (hC : CI mm s) {k : Nat} (hk : k < 6) : ∃ m', f6_paid mm (ii (100 + (k : Int))) = some (ll (sm (rn M) (pow' M (Dc M) (k : Int))), m') ∧ CI m' s := by
  have hrc := h.rc
  obtain ⟨m', e1, -, e2⟩ := c_paid hC h.2.1 (a := 100 + (k : Int)) (by omega) (by omega)
  rw [h.2.2.1, if_neg (by omega), if_pos (by omega), show 100 + (k : Int) - 100 = (k : Int) by omega] at e1
  exact ⟨m', e1, e2⟩
theorem q_takenr (h : CB A0 dm0 J M s b) (hC : CI mm s) {r : Nat} (hr : r < rn M) : ∃ m', f6_taken mm (ii (r : Int)) (ii (-1)) = some (ii (tko (Dc M) r), m') ∧ CI m' s := by
  have hrc := h.rc
  obtain ⟨m', e1, -, e2⟩ := c_taken hC h.2.1 (a := (r : Int)) (b := -1) (by omega) (by omega) (by omega) (by omega)
  refine ⟨m', ?_, e2⟩
  rw [e1, h.2.2.1]
  unfold tkS
  rw [if_pos (by omega), if_pos rfl, Int.toNat_natCast]
theorem q_taken (h : CB A0 dm0 J M s b) (hC : CI mm s) {r k : Nat} (hr : r < rn M) (hk : k < 4) : ∃ m', f6_taken mm (ii (r : Int)) (ii (k : Int)) = some (ii (if 0 < lu M r k then Tz (Dc M) (4 * r + k) else -1), m') ∧ CI m' s := by
  have hrc := h.rc
  obtain ⟨m', e1, -, e2⟩ := c_taken hC h.2.1 (a := (r : Int)) (b := (k : Int)) (by omega) (by omega) (by omega) (by omega)
  refine ⟨m', ?_, e2⟩
  rw [e1, h.2.2.1]
  unfold tkS
  rw [if_pos (by omega), if_neg (by omega), Int.toNat_natCast, Int.toNat_natCast]
  by_cases c : 0 < lu M r k
  · rw [if_pos ⟨by omega, c⟩, if_pos c]
  · rw [if_neg (fun q => c q.2), if_neg c]
theorem Lmm : (-1000000000000000 : Int64) = ll (-1000000000000000) := by decide
theorem is616 (hb : CB A0 dm0 J M s b) (hx : Ext A0 dm0 A dm) {k : Nat} (hk : k < 6) {C p R : Int} {k603 : Nat → Nat → Int64 → Int64 → Int64 → Int32 → Mem → AS → DM → Option (Int32 × Mem × AS × DM)} {Q : Int32 × Mem × AS × DM → Prop}
    (hk603 : ∀ m', CI m' s → Go (k603 A0.2.2.2 (J 0) (ll C) (ll (p + sm (rn M) (pow' M (Dc M) (k : Int)))) (ll R) (ii ((k : Int) + 1)) m' A dm) prM A Q) :
    ∀ (e r f : Nat) (mm : Mem), r + e = rn M → e < f → CI mm s → Go (bL_isCleared_l616 k603 f A0.2.2.2 (J 0) (ll C) (ll p) (ll R) (ii (k : Int)) (ll (sm r (pow' M (Dc M) (k : Int)))) (ii (r : Int)) mm A dm) prM A Q := by
  have hM1 := hb.1.ext hx
  have ho : A0.2.2.2 = A.2.2.2 := hx.2.1.symm
  have hrc := hb.rc
  have hW := hb.wf
  intro e
  induction e with
  | zero =>
    intro r f mm h1 h2 hI
    obtain ⟨f, rfl⟩ : ∃ g, f = g + 1 := ⟨f - 1, by omega⟩
    have e : r = rn M := by omega
    subst e
    obtain ⟨m', w1, w2⟩ := q_paidk hb hI hk
    rw [bL_isCleared_l616, gkd_i hM1.o, gtr_i hM1.f2, gkd_i hM1.rl.k, bAL_size_ok hM1.rl, bd_some, if_neg (by rw [ii_lt (by omega) (by omega) (by omega) (by omega)]; omega), gob_i ho, l100, ii_add, w1, bd_some]
    dsimp only
    rw [l0, if_pos (lgc_s _), ll_add, nm_eq, nm_eq, l1, ii_add]
    exact hk603 m' w2
  | succ e ih =>
    intro r f mm h1 h2 hI
    obtain ⟨f, rfl⟩ : ∃ g, f = g + 1 := ⟨f - 1, by omega⟩
    have hr : r < rn M := by omega
    have hcc := rrw_c (wwr hW.1 hr)
    have hee := rrw_e M r
    rw [bL_isCleared_l616, gkd_i hM1.o, gtr_i hM1.f2, gkd_i hM1.rl.k, bAL_size_ok hM1.rl, bd_some, if_pos (by rw [ii_lt (by omega) (by omega) (by omega) (by omega)]; omega), gkd_i hM1.o, gtr_i hM1.f2, gkd_i hM1.rl.k, bAL_get_ok hM1.rl rfl hr, bd_some, l3, (hM1.r hr).rd2 (a := 3) (i := 3) rfl (by omega), ifeq (by omega) (by omega) (by omega) (by omega)]
    by_cases c : rrw M r 3 = (k : Int)
    · obtain ⟨m', w1, w2⟩ := q_paid hb hI hr
      have hnext := ih (r + 1) f m' (by omega) (by omega) w2
      rw [sm_s, show pow' M (Dc M) (k : Int) r = pdt (Dc M) r by unfold pow'; rw [if_pos (by omega)]] at hnext
      rw [if_pos c, gob_i ho, w1, bd_some]
      unfold bL_isCleared_j659
      dsimp only
      rw [nm_eq, nm_eq, ll_add, l1, ii_add]
      exact hnext
    · have hnext := ih (r + 1) f mm (by omega) (by omega) hI
      rw [sm_s, show pow' M (Dc M) (k : Int) r = 0 by unfold pow'; rw [if_neg (by omega)]] at hnext
      rw [if_neg c]
      unfold bL_isCleared_j659
      rw [nm_eq, nm_eq, L0, ll_add, l1, ii_add]
      exact hnext
theorem own_sum (hb : CB A0 dm0 J M s b) : sm 6 (fun k => sm (rn M) (pow' M (Dc M) (k : Int))) = sm (rn M) (pdt (Dc M)) := by
  rw [sm_swap]
  refine sm_congr (fun r hr => ?_)
  have h := (wwr hb.wf.1 hr).2.2.2.1
  rw [sm_one (k := (M (82 + 13 * r)).toNat) (by omega) _ (fun i hi hn => by unfold pow'; rw [if_neg (by omega)])]
  unfold pow'
  rw [if_pos (by omega)]
theorem is603 (hb : CB A0 dm0 J M s b) {C R : Int} (hCR : C = sm (rn M) (pdt (Dc M)) + R) :
    ∀ (e k f : Nat) (mm : Mem), k + e = 6 → e < f → LE A0 dm0 s c1 c2 A dm mm → Go (bL_isCleared_l603 f A0.2.2.2 (J 0) (ll C) (ll (sm k (fun k => sm (rn M) (pow' M (Dc M) (k : Int))))) (ll R) (ii (k : Int)) mm A dm) prM A (fun y => y.1 = ii 1 ∧ LE A0 dm0 s (c1 + 53) (c2 + 1494) y.2.2.1 y.2.2.2 y.2.1) := by
  have hrc := hb.rc
  have hzc := hb.zc
  have hW := hb.wf
  intro e
  induction e with
  | zero =>
    intro k f mm h1 h2 hL
    obtain ⟨f, rfl⟩ : ∃ g, f = g + 1 := ⟨f - 1, by omega⟩
    have e : k = 6 := by omega
    subst e
    have hM1 := hb.1.ext hL.1
    obtain ⟨n1, w1, -, i1⟩ := c_surplus hL.2.1 hb.2.1
    rw [hb.2.2.1] at w1
    rw [bL_isCleared_l603, show (6 : Int32) = ii 6 by decide, if_neg (by rw [ii_lt (by omega) (by omega) (by omega) (by omega)]; omega), gkd_i hM1.o, gtr_i hM1.f0, gkd_i hM1.zl.k, bAL_size_ok hM1.zl, bd_some, own_sum hb, ll_add, ← hCR, l0, if_pos (lgc_s _), gob_i hL.o, w1, bd_some, gkd_i hM1.o]
    refine Go.call (surplus_ok hM1 hW hb.2.2.2.1 (hb.2.2.2.2.ext hb.1.o hL.1)) (fun x hx9 _ => ?_)
    obtain ⟨g1, g2, g3⟩ := hx9
    have hL2 : LE A0 dm0 s (c1 + 53) (c2 + 1494) x.2.1 x.2.2 n1 := (hL.x g2 g3 (by omega) (by omega)).m i1
    obtain ⟨n2, w2, -, i2⟩ := c_paid i1 hb.2.1 (a := 106) (by omega) (by omega)
    rw [hb.2.2.1, if_neg (by omega), if_neg (by omega)] at w2
    obtain ⟨n3, w3, -, i3⟩ := c_paid i2 hb.2.1 (a := 99) (by omega) (by omega)
    rw [hb.2.2.1, if_neg (by omega), if_neg (by omega)] at w3
    obtain ⟨n4, w4, -, i4⟩ := c_price i3 hb.2.1 (a := (zn M : Int)) (by omega) (by omega)
    rw [hb.2.2.1, if_neg (by omega)] at w4
    obtain ⟨n5, w5, -, i5⟩ := c_net i4 hb.2.1 (a := (zn M : Int)) (by omega) (by omega)
    rw [hb.2.2.1, if_neg (by omega)] at w5
    obtain ⟨n6, w6, -, i6⟩ := c_served i5 hb.2.1 (a := -1) (by omega) (by omega)
    rw [hb.2.2.1, if_neg (by omega)] at w6
    obtain ⟨n7, w7, -, i7⟩ := c_rent i6 hb.2.1 (a := (zn M : Int)) (by omega) (by omega)
    rw [hb.2.2.1, if_neg (by omega)] at w7
    obtain ⟨n8, w8, -, i8⟩ := c_charged i7 hb.2.1 (a := (zn M : Int)) (by omega) (by omega)
    rw [hb.2.2.1, if_neg (by omega)] at w8
    obtain ⟨n9, w9, -, i9⟩ := c_binds i8 hb.2.1 (a := (zn M : Int)) (by omega) (by omega)
    rw [hb.2.2.1, if_neg (by omega)] at w9
    rw [g1]
    dsimp only
    rw [if_pos (lgc_s _), gob_i hL2.o, show (106 : Int32) = ii 106 by decide, show (99 : Int32) = ii 99 by decide, Lmm, lm1, lm1000000, w2, bd_some]
    dsimp only
    rw [if_pos (lgc_s _), gob_i hL2.o, w3, bd_some]
    dsimp only
    rw [if_pos (lgc_s _), gob_i hL2.o, w4, bd_some]
    dsimp only
    rw [if_pos rfl, gob_i hL2.o, w5, bd_some]
    dsimp only
    rw [if_pos rfl, gob_i hL2.o, w6, bd_some]
    dsimp only
    rw [if_pos rfl, gob_i hL2.o, w7, bd_some]
    dsimp only
    rw [if_pos (lgc_s _), gob_i hL2.o, w8, bd_some]
    dsimp only
    rw [if_pos (lgc_s _), gob_i hL2.o, w9, bd_some]
    dsimp only
    rw [if_pos rfl, l1]
    exact Go.mk (le2.rf _) ⟨rfl, hL2.m i9⟩
  | succ e ih =>
    intro k f mm h1 h2 hL
    obtain ⟨f, rfl⟩ : ∃ g, f = g + 1 := ⟨f - 1, by omega⟩
    rw [bL_isCleared_l603, show (6 : Int32) = ii 6 by decide, if_pos (by rw [ii_lt (by omega) (by omega) (by omega) (by omega)]; omega), l0, L0]
    exact is616 hb hL.1 (k := k) (by omega) (k603 := fun x0 x1 x2 x4 x6 x8 mm9 A9 dm9 => bL_isCleared_l603 f x0 x1 x2 x4 x6 x8 mm9 A9 dm9) (fun m' hI => ih (k + 1) f m' (by omega) (by omega) (hL.m hI)) (rn M) 0 FU mm (by omega) (by have : FU = 20000 := rfl; omega) hL.2.1
theorem is503 (hb : CB A0 dm0 J M s b) {C p R : Int} {r : Nat} (hr : r < rn M) {k488 : Nat → Nat → Int64 → Int64 → Int64 → Int32 → Mem → AS → DM → Option (Int32 × Mem × AS × DM)} {Q : Int32 × Mem × AS × DM → Prop}
    (hk : ∀ (A' : AS) (dm' : DM) (m' : Mem), LE A0 dm0 s (c1 + 8) (c2 + 24) A' dm' m' → Go (k488 A0.2.2.2 (J 0) (ll C) (ll p) (ll R) (ii ((r : Int) + 1)) m' A' dm') prM A' Q) :
    ∀ (e k f : Nat) (A : AS) (dm : DM) (mm : Mem), k + e = 4 → e < f → LE A0 dm0 s (c1 + 2 * k) (c2 + 6 * k) A dm mm → Go (bL_isCleared_l503 k488 f A0.2.2.2 (J 0) (ll C) (ll p) (ll R) (ii (r : Int)) (ii (k : Int)) mm A dm) prM A Q := by
  have hrc := hb.rc
  have hzc := hb.zc
  have hW := hb.wf
  have hD := hb.wd
  have hcc := rrw_c (wwr hW.1 hr)
  have hdz : dz (Dc M) r = (M (79 + 13 * r)).toNat := rfl
  have hz0 : rrw M r 0 = M (79 + 13 * r) := rfl
  intro e
  induction e with
  | zero =>
    intro k f A dm mm h1 h2 hL
    obtain ⟨f, rfl⟩ : ∃ g, f = g + 1 := ⟨f - 1, by omega⟩
    have e : k = 4 := by omega
    subst e
    have hM1 := hb.1.ext hL.1
    have hC1 := hb.2.2.2.2.ext hb.1.o hL.1
    obtain ⟨n1, w1, i1⟩ := q_paid hb hL.2.1 hr
    obtain ⟨n2, w2, i2⟩ := q_price hb i1 (a := rrw M r 0) (z := dz (Dc M) r) (by omega) (by omega)
    have hP := (PN_9 hD (z := dz (Dc M) r) (show dz (Dc M) r < zn M by omega)).2.2
    have hT := tko_bd hD (r := r) hr (show dz (Dc M) r < zn M by omega)
    rw [bL_isCleared_l503, l4, if_neg (by rw [ii_lt (by omega) (by omega) (by omega) (by omega)]; omega), gob_i hL.o, w1, bd_some]
    dsimp only
    rw [gkd_i hM1.o, gtr_i hM1.f2, gkd_i hM1.rl.k, bAL_get_ok hM1.rl rfl hr, bd_some, l0, (hM1.r hr).rd2 (a := 0) (i := 0) rfl (by omega), gob_i hL.o, w2, bd_some]
    dsimp only
    rw [gkd_i hM1.o, taken_ok hM1.o hC1 (by omega) hr, bd_some, ii_ll (by omega) (by omega), ii_ll (by omega) (by omega), ll_mul, show (Pz (Dc M) (dz (Dc M) r) : Int) * tko (Dc M) r = pdt (Dc M) r from rfl, if_pos (lgc_s _), nm_eq, l1, ii_add]
    exact hk A dm n2 ((hL.m i2).mo (by omega) (by omega))
  | succ e ih =>
    intro k f A dm mm h1 h2 hL
    obtain ⟨f, rfl⟩ : ∃ g, f = g + 1 := ⟨f - 1, by omega⟩
    have hk4 : k < 4 := by omega
    have hM1 := hb.1.ext hL.1
    obtain ⟨n1, w1, i1⟩ := q_taken hb hL.2.1 hr hk4
    have hlu := lu_nn hW hr k
    rw [bL_isCleared_l503, l4, if_pos (by rw [ii_lt (by omega) (by omega) (by omega) (by omega)]; omega), gob_i hL.o, w1, bd_some, gkd_i hM1.o]
    refine Go.call (line_ok hM1 hW hr hk4) (fun x hx9 _ => ?_)
    obtain ⟨g1, g2, g3, -⟩ := hx9
    have hL2 : LE A0 dm0 s (c1 + 2 * (k + 1 : Nat)) (c2 + 6 * (k + 1 : Nat)) x.2.1 x.2.2 n1 := (hL.x g1 g3 (by omega) (by omega)).m i1
    have hnext := ih (k + 1) f x.2.1 x.2.2 n1 (by omega) (by omega) hL2
    have hM2 := hM1.ext g1
    have hC2 := hb.2.2.2.2.ext hb.1.o hL2.1
    have hrow := hC2.2.2.2.2.2 r hr
    have ht := hC2.2.2.2.2.1
    have h544 : ∀ v : Int, v = (if 0 < lu M r k then Tz (Dc M) (4 * r + k) else -1) → Go (bL_isCleared_j544 k488 (fun x0 x1 x2 x4 x6 x8 x9 mm9 A9 dm9 => bL_isCleared_l503 k488 f x0 x1 x2 x4 x6 x8 x9 mm9 A9 dm9) A0.2.2.2 (J 0) (ll C) (ll p) (ll R) (ii (r : Int)) (ii (k : Int)) (ii v) (ii (if 0 < lu M r k then Tz (Dc M) (4 * r + k) else -1)) n1 x.2.1 x.2.2) prM x.2.1 Q := by
      intro v hv
      unfold bL_isCleared_j544
      rw [hv, if_pos rfl, nm_eq, l1, ii_add]
      exact hnext
    dsimp only
    rw [l0, g2.rd (a := 0) (i := 0) rfl (by omega), show lrw M r k 0 = lu M r k from rfl, iflt (by omega) (by omega) (by omega) (by omega)]
    by_cases c : 0 < lu M r k
    · rw [if_pos c, gkd_i hM2.o, gtr_i hC2.1.2.2.2, gkd_i ht.1, gix_i ht.2.1 (by omega) (by omega) (by omega), tn_i (by omega), gtr_i (ht.2.2 r hr), hrow.rd rfl hk4]
      exact h544 _ (by rw [if_pos c])
    · rw [if_neg c, lm1]
      exact h544 _ (by rw [if_neg c])
theorem is488 (hb : CB A0 dm0 J M s b) {C R : Int} (hCR : C = sm (rn M) (pdt (Dc M)) + R) :
    ∀ (e r f : Nat) (A : AS) (dm : DM) (mm : Mem), r + e = rn M → e < f → LE A0 dm0 s (c1 + 8 * r) (c2 + 24 * r) A dm mm → Go (bL_isCleared_l488 f A0.2.2.2 (J 0) (ll C) (ll 0) (ll R) (ii (r : Int)) mm A dm) prM A (fun y => y.1 = ii 1 ∧ LE A0 dm0 s (c1 + 8 * rn M + 53) (c2 + 24 * rn M + 1494) y.2.2.1 y.2.2.2 y.2.1) := by
  have hrc := hb.rc
  intro e
  induction e with
  | zero =>
    intro r f A dm mm h1 h2 hL
    obtain ⟨f, rfl⟩ : ∃ g, f = g + 1 := ⟨f - 1, by omega⟩
    have e : r = rn M := by omega
    subst e
    have hM1 := hb.1.ext hL.1
    rw [bL_isCleared_l488, gkd_i hM1.o, gtr_i hM1.f2, gkd_i hM1.rl.k, bAL_size_ok hM1.rl, bd_some, if_neg (by rw [ii_lt (by omega) (by omega) (by omega) (by omega)]; omega), l0]
    have := is603 hb hCR 6 0 FU mm (by omega) (by have : FU = 20000 := rfl; omega) hL
    rw [sm_0] at this
    exact this
  | succ e ih =>
    intro r f A dm mm h1 h2 hL
    obtain ⟨f, rfl⟩ : ∃ g, f = g + 1 := ⟨f - 1, by omega⟩
    have hr : r < rn M := by omega
    have hM1 := hb.1.ext hL.1
    rw [bL_isCleared_l488, gkd_i hM1.o, gtr_i hM1.f2, gkd_i hM1.rl.k, bAL_size_ok hM1.rl, bd_some, if_pos (by rw [ii_lt (by omega) (by omega) (by omega) (by omega)]; omega), l0]
    exact is503 hb hr (c1 := c1 + 8 * r) (c2 := c2 + 24 * r) (k488 := fun x0 x1 x2 x4 x6 x8 mm9 A9 dm9 => bL_isCleared_l488 f x0 x1 x2 x4 x6 x8 mm9 A9 dm9) (fun A' dm' m' hL' => ih (r + 1) f A' dm' m' (by omega) (by omega) (hL'.mo (by omega) (by omega))) 4 0 FU A dm mm (by omega) (by have : FU = 20000 := rfl; omega) (hL.mo (by omega) (by omega))
end
