/-! what is cleared by hand and by the class is one: each zone -/
section
variable {A A1 A0 : AS} {dm m1 dm0 : DM} {J : Nat → Nat} {M : WM} {s : ST} {b : Nat} {c1 c2 : Int} {mm m' : Mem}
def lsv (M : WM) (z : Nat) : Int := if Pz (Dc M) z = 0 ∨ Lz (Dc M) z (Pz (Dc M) z : Int) < Nz (Dc M) z then 1 else 0
def rtz (D : DT) (z : Nat) : Int := if z = 0 then 0 else rto D z
abbrev K16 : Type := Nat → Nat → Int64 → Int64 → Int64 → Int32 → Mem → AS → DM → Option (Int32 × Mem × AS × DM)
theorem z_bd (hb : CB A0 dm0 J M s b) {z : Nat} (hz : z < zn M) : Pz (Dc M) z ≤ 9999 ∧ (-100000 ≤ Nz (Dc M) z ∧ Nz (Dc M) z ≤ 100000) ∧ (-200000 ≤ Sz (Dc M) z ∧ Sz (Dc M) z ≤ 2000) := by
  have h1 : Pz (Dc M) z ≤ 9999 := (PN_9 hb.wd (z := z) hz).2.2
  have h2 := N_bd hb.wd (z := z) hz
  have h3 := S_bd hb.wd (z := z) hz
  have h4 := hb.wd.wb (z := z) hz (Pz (Dc M) z)
  omega
theorem is446 (hb : CB A0 dm0 J M s b) (hx : Ext A0 dm0 A dm) (hI : CI mm s) {z : Nat} (h1 : 1 ≤ z) (hz : z < zn M) {C p R : Int64} {k16 : K16} {Q : Int32 × Mem × AS × DM → Prop}
    (hk : ∀ m', CI m' s → Go (k16 A0.2.2.2 (J 0) C p R (ii ((z : Int) + 1)) m' A dm) prM A Q) : Go (bL_isCleared_j446 k16 A0.2.2.2 (J 0) C p R (ii (z : Int)) (ii (Pz (Dc M) z : Int)) (ii (Nz (Dc M) z)) (ii (Pz (Dc M) (ouz M z) : Int)) mm A dm) prM A Q := by
  have ho : A0.2.2.2 = A.2.2.2 := hx.2.1.symm
  have hou := (ou_lt hb.wf h1 hz).2
  have b1 := z_bd hb hz
  have b2 := z_bd hb (z := ouz M z) (by omega)
  have hrt := rto_nn hb.wd h1 (z := z) hz
  obtain ⟨n1, w1, i1⟩ := q_rent hb hI hz
  obtain ⟨n2, w2, i2⟩ := q_rent hb i1 hz
  rw [if_neg (by omega)] at w1 w2
  unfold bL_isCleared_j446
  rw [gob_i ho, w1, bd_some]
  dsimp only
  rw [ii_sub, ii_ll (by omega) (by omega), ii_ll (by omega) (by omega), ll_mul, show Nz (Dc M) z * ((Pz (Dc M) (ouz M z) : Int) - (Pz (Dc M) z : Int)) = rto (Dc M) z from rfl, l0, if_pos (lgc_s _), gob_i ho, w2, bd_some]
  dsimp only
  rw [L0, if_neg (lgc_nn hrt.1 hrt.2)]
  unfold bL_isCleared_j479
  rw [nm_eq, l1, ii_add]
  exact hk n2 i2
theorem is416 (hb : CB A0 dm0 J M s b) (hx : Ext A0 dm0 A dm) (hI : CI mm s) {z : Nat} (h1 : 1 ≤ z) (hz : z < zn M) {C p R : Int64} {k16 : K16} {Q : Int32 × Mem × AS × DM → Prop}
    (hk : ∀ m', CI m' s → Go (k16 A0.2.2.2 (J 0) C p R (ii ((z : Int) + 1)) m' A dm) prM A Q) {v : Int} (hv : v = bnd M (Dc M) z) : Go (bL_isCleared_j416 k16 A0.2.2.2 (J 0) C p R (ii (z : Int)) (ii (Pz (Dc M) z : Int)) (ii (Nz (Dc M) z)) (ii (lsv M z)) (ii (Pz (Dc M) (ouz M z) : Int)) (ii v) mm A dm) prM A Q := by
  have ho : A0.2.2.2 = A.2.2.2 := hx.2.1.symm
  have hou := (ou_lt hb.wf h1 hz).2
  have b1 := z_bd hb hz
  have b2 := z_bd hb (z := ouz M z) (by omega)
  obtain ⟨n1, w1, i1⟩ := q_binds hb hI hz
  rw [if_neg (by omega), ← hv] at w1
  unfold bL_isCleared_j416
  rw [gob_i ho, w1, bd_some]
  dsimp only
  rw [if_pos rfl, ifeq (by omega) (by omega) (by omega) (by omega)]
  by_cases c : (Pz (Dc M) z : Int) = (Pz (Dc M) (ouz M z) : Int)
  · rw [if_pos c]
    exact is446 hb hx i1 h1 hz hk
  · have hne : Pz (Dc M) z ≠ Pz (Dc M) (dou (Dc M) z) := fun q => c (by rw [q]; rfl)
    obtain ⟨g1, g2⟩ := prs hb.wd h1 (z := z) hz hne
    have hlv : lsv M z = 1 := by unfold lsv; rw [if_pos g1]
    have hv2 : v = 1 ∨ v = 2 := by
      rw [hv]
      unfold bnd
      rcases g2 with ⟨g2, g3⟩ | ⟨g2, g3⟩
      · rw [if_pos ⟨g2, g3⟩]
        exact Or.inl rfl
      · rw [if_neg (show ¬ (Nz (Dc M) z = -(M (8 + 12 * z)) ∧ Pz (Dc M) (dou (Dc M) z) < Pz (Dc M) z) by omega), if_pos ⟨g2, g3⟩]
        exact Or.inr rfl
    rw [if_neg c, l0, ifeq (by omega) (by omega) (by omega) (by omega), if_neg (by omega), hlv, ifeq (by omega) (by omega) (by omega) (by omega), if_neg (by omega)]
    exact is446 hb hx i1 h1 hz hk
theorem is415 (hb : CB A0 dm0 J M s b) (hx : Ext A0 dm0 A dm) (hI : CI mm s) {z : Nat} (h1 : 1 ≤ z) (hz : z < zn M) {C p R : Int64} {k16 : K16} {Q : Int32 × Mem × AS × DM → Prop}
    (hk : ∀ m', CI m' s → Go (k16 A0.2.2.2 (J 0) C p R (ii ((z : Int) + 1)) m' A dm) prM A Q) (hn1 : ¬ (Nz (Dc M) z = -(M (8 + 12 * z)) ∧ Pz (Dc M) (ouz M z) < Pz (Dc M) z)) : Go (bL_isCleared_j395 k16 A0.2.2.2 (J 0) C p R (ii (z : Int)) (J (10 + z)) (ii (Pz (Dc M) z : Int)) (ii (Nz (Dc M) z)) (ii (lsv M z)) (ii (Pz (Dc M) (ouz M z) : Int)) mm A dm) prM A Q := by
  have hM1 := hb.1.ext hx
  have hou := (ou_lt hb.wf h1 hz).2
  have b1 := z_bd hb hz
  have b2 := z_bd hb (z := ouz M z) (by omega)
  have hw := wwz hb.wf.1 hz
  have hb2 := hw.2.2.1
  have h415 : (¬ (Nz (Dc M) z = M (9 + 12 * z) ∧ Pz (Dc M) z < Pz (Dc M) (ouz M z))) → Go (bL_isCleared_j415 k16 A0.2.2.2 (J 0) C p R (ii (z : Int)) (ii (Pz (Dc M) z : Int)) (ii (Nz (Dc M) z)) (ii (lsv M z)) (ii (Pz (Dc M) (ouz M z) : Int)) mm A dm) prM A Q := by
    intro hn2
    unfold bL_isCleared_j415
    rw [l0]
    refine is416 hb hx hI h1 hz hk ?_
    unfold bnd
    rw [show dou (Dc M) z = ouz M z from rfl, if_neg hn1, if_neg hn2]
  unfold bL_isCleared_j395
  rw [l2, (hM1.z hz).rd (a := 2) (i := 2) rfl (by omega), show zrw M z 2 = M (9 + 12 * z) from rfl, ifeq (by omega) (by omega) (by omega) (by omega)]
  by_cases c : Nz (Dc M) z = M (9 + 12 * z)
  · rw [if_pos c, iflt (by omega) (by omega) (by omega) (by omega)]
    by_cases c2 : (Pz (Dc M) z : Int) < (Pz (Dc M) (ouz M z) : Int)
    · rw [if_pos c2]
      refine is416 hb hx hI h1 hz hk ?_
      unfold bnd
      rw [show dou (Dc M) z = ouz M z from rfl, if_neg hn1, if_pos ⟨c, show Pz (Dc M) z < Pz (Dc M) (ouz M z) by omega⟩]
    · rw [if_neg c2]
      exact h415 (fun q => c2 (by have := q.2; omega))
  · rw [if_neg c]
    exact h415 (fun q => c q.1)
theorem is227 (hb : CB A0 dm0 J M s b) (hx : Ext A0 dm0 A dm) {z : Nat} (hz : z < zn M) {C p R : Int} {k16 : K16} {Q : Int32 × Mem × AS × DM → Prop}
    (hk : ∀ m', CI m' s → Go (k16 A0.2.2.2 (J 0) (ll (C + (Pz (Dc M) z : Int) * Sz (Dc M) z)) (ll p) (ll (R + rtz (Dc M) z)) (ii ((z : Int) + 1)) m' A dm) prM A Q) :
    ∀ (e c f : Nat) (mm : Mem), c + e = zn M → e < f → z < c → CI mm s → Go (bL_isCleared_l227 k16 f A0.2.2.2 (J 0) (ll C) (ll p) (ll R) (ii (z : Int)) (J (10 + z)) (ii (Pz (Dc M) z : Int)) (ii (Nz (Dc M) z)) (ii (lsv M z)) (ii (sm (rn M) (tkr (Dc M) z) - Sz (Dc M) z + sm c (ntz (Dc M) z))) (ii (c : Int)) mm A dm) prM A Q := by
  have hM1 := hb.1.ext hx
  have ho : A0.2.2.2 = A.2.2.2 := hx.2.1.symm
  have hzc := hb.zc
  have b1 := z_bd hb hz
  have hw := wwz hb.wf.1 hz
  intro e
  induction e with
  | zero =>
    intro c f mm h1 h2 h3 hI
    obtain ⟨f, rfl⟩ : ∃ g, f = g + 1 := ⟨f - 1, by omega⟩
    have e : c = zn M := by omega
    subst e
    have hev : sm (rn M) (tkr (Dc M) z) - Sz (Dc M) z + sm (zn M) (ntz (Dc M) z) = Nz (Dc M) z := by
      have := even hb.wd (z := z) hz
      have : sm (rn M) (tkr (Dc M) z) + sm (zn M) (ntz (Dc M) z) - Sz (Dc M) z = Nz (Dc M) z := this
      omega
    obtain ⟨n1, w1, i1⟩ := q_charged hb hI hz
    obtain ⟨n2, w2, i2⟩ := q_served hb i1 hz
    obtain ⟨n3, w3, i3⟩ := q_charged hb i2 hz
    obtain ⟨n4, w4, i4⟩ := q_rent hb i3 hz
    rw [bL_isCleared_l227, gkd_i hM1.o, gtr_i hM1.f0, gkd_i hM1.zl.k, bAL_size_ok hM1.zl, bd_some, if_neg (by rw [ii_lt (by omega) (by omega) (by omega) (by omega)]; omega), hev, if_pos rfl, gob_i ho, w1, bd_some]
    dsimp only
    rw [gob_i ho, w2, bd_some]
    dsimp only
    rw [ii_ll (by omega) (by omega), ii_ll (by omega) (by omega), ll_mul, l0, if_pos (lgc_s _), gob_i ho, w3, bd_some]
    dsimp only
    rw [ll_add, nm_eq, gob_i ho, w4, bd_some]
    dsimp only
    rw [ll_add, nm_eq, ifeq (by omega) (by omega) (by omega) (by omega)]
    have hk2 : ∀ m', CI m' s → Go (k16 A0.2.2.2 (J 0) (ll (C + (Pz (Dc M) z : Int) * Sz (Dc M) z)) (ll p) (ll (R + if z = 0 then 0 else rto (Dc M) z)) (ii ((z : Int) + 1)) m' A dm) prM A Q := hk
    by_cases e0 : z = 0
    · subst e0
      have hN : Nz (Dc M) 0 = 0 := (PN_0 (Dc M)).2
      have hl : lsv M 0 = 1 := by unfold lsv; rw [if_pos (lst_0 (Dc M))]
      obtain ⟨n5, w5, i5⟩ := q_binds hb i4 hz
      obtain ⟨n6, w6, i6⟩ := q_rent hb i5 hz
      rw [if_pos rfl] at w5 w6
      have w5 : f6_binds n4 (ii 0) = some (ii 0, n5) := w5
      have w6 : f6_rent n5 (ii 0) = some (ll 0, n6) := w6
      rw [if_pos (by omega), hN, hl, if_pos rfl, ifeq (by omega) (by omega) (by omega) (by omega), if_neg (by omega), gob_i ho, w5, bd_some]
      dsimp only
      rw [if_pos rfl, gob_i ho, w6, bd_some]
      dsimp only
      rw [L0, if_pos (lgc_s _)]
      unfold bL_isCleared_j479
      rw [nm_eq, l1, ii_add]
      exact hk2 n6 i6
    · have h1z : 1 ≤ z := by omega
      have hou := ou_lt hb.wf h1z hz
      have hb1 := hw.2.1
      have b2 := z_bd hb (z := ouz M z) (by omega)
      obtain ⟨n5, w5, i5⟩ := q_price hb i4 (a := M (7 + 12 * z)) (z := ouz M z) (by unfold ouz; omega) (by omega)
      rw [if_neg (by omega), (hM1.z hz).rd (a := 0) (i := 0) rfl (by omega), show zrw M z 0 = M (7 + 12 * z) from rfl, gob_i ho, w5, bd_some]
      dsimp only
      rw [l1, (hM1.z hz).rd (a := 1) (i := 1) rfl (by omega), show zrw M z 1 = M (8 + 12 * z) from rfl, ii_neg, ifeq (by omega) (by omega) (by omega) (by omega)]
      by_cases c1 : Nz (Dc M) z = -(M (8 + 12 * z))
      · rw [if_pos c1, iflt (by omega) (by omega) (by omega) (by omega)]
        by_cases c2 : (Pz (Dc M) (ouz M z) : Int) < (Pz (Dc M) z : Int)
        · rw [if_pos c2]
          refine is416 hb hx i5 h1z hz hk2 ?_
          unfold bnd
          rw [if_pos ⟨c1, show Pz (Dc M) (ouz M z) < Pz (Dc M) z by omega⟩]
        · rw [if_neg c2]
          exact is415 hb hx i5 h1z hz hk2 (fun q => c2 (by have := q.2; omega))
      · rw [if_neg c1]
        exact is415 hb hx i5 h1z hz hk2 (fun q => c1 q.1)
  | succ e ih =>
    intro c f mm h1 h2 h3 hI
    obtain ⟨f, rfl⟩ : ∃ g, f = g + 1 := ⟨f - 1, by omega⟩
    have hc : c < zn M := by omega
    have hou := ou_lt hb.wf (c := c) (by omega) hc
    rw [bL_isCleared_l227, gkd_i hM1.o, gtr_i hM1.f0, gkd_i hM1.zl.k, bAL_size_ok hM1.zl, bd_some, if_pos (by rw [ii_lt (by omega) (by omega) (by omega) (by omega)]; omega), gkd_i hM1.o, gtr_i hM1.f0, gkd_i hM1.zl.k, bAL_get_ok hM1.zl rfl hc, bd_some, l0, (hM1.z hc).rd2 (a := 0) (i := 0) rfl (by omega), show zrw M c 0 = M (7 + 12 * c) from rfl, ifeq (by omega) (by omega) (by omega) (by omega)]
    have hdou : dou (Dc M) c = ouz M c := rfl
    by_cases c1 : M (7 + 12 * c) = (z : Int)
    · obtain ⟨n1, w1, i1⟩ := q_net hb hI hc
      have hnext := ih (c + 1) f n1 (by omega) (by omega) (by omega) i1
      rw [sm_s, show ntz (Dc M) z c = Nz (Dc M) c by unfold ntz; rw [if_pos ⟨h3, by rw [hdou]; unfold ouz; omega⟩], ← Int.add_assoc] at hnext
      rw [if_pos c1, gob_i ho, w1, bd_some]
      unfold bL_isCleared_j270
      dsimp only
      rw [nm_eq, nm_eq, ii_add, l1, ii_add]
      exact hnext
    · have hnext := ih (c + 1) f mm (by omega) (by omega) (by omega) hI
      rw [sm_s, show ntz (Dc M) z c = 0 by unfold ntz; rw [if_neg (fun q => by have := q.2; rw [hdou] at this; unfold ouz at this; omega)], ← Int.add_assoc] at hnext
      rw [if_neg c1]
      unfold bL_isCleared_j270
      rw [nm_eq, nm_eq, ii_add, l1, ii_add]
      exact hnext
theorem is168 (hb : CB A0 dm0 J M s b) (hx : Ext A0 dm0 A dm) {z : Nat} (hz : z < zn M) {C p R : Int} {k16 : K16} {Q : Int32 × Mem × AS × DM → Prop}
    (hk : ∀ m', CI m' s → Go (k16 A0.2.2.2 (J 0) (ll (C + (Pz (Dc M) z : Int) * Sz (Dc M) z)) (ll p) (ll (R + rtz (Dc M) z)) (ii ((z : Int) + 1)) m' A dm) prM A Q) :
    ∀ (e r f : Nat) (mm : Mem), r + e = rn M → e < f → CI mm s → Go (bL_isCleared_l168 k16 f A0.2.2.2 (J 0) (ll C) (ll p) (ll R) (ii (z : Int)) (J (10 + z)) (ii (Pz (Dc M) z : Int)) (ii (Nz (Dc M) z)) (ii (lsv M z)) (ii (sm r (tkr (Dc M) z) - Sz (Dc M) z)) (ii (r : Int)) mm A dm) prM A Q := by
  have hM1 := hb.1.ext hx
  have ho : A0.2.2.2 = A.2.2.2 := hx.2.1.symm
  have hzc := hb.zc
  have hrc := hb.rc
  have hW := hb.wf
  intro e
  induction e with
  | zero =>
    intro r f mm h1 h2 hI
    obtain ⟨f, rfl⟩ : ∃ g, f = g + 1 := ⟨f - 1, by omega⟩
    have e : r = rn M := by omega
    subst e
    rw [bL_isCleared_l168, gkd_i hM1.o, gtr_i hM1.f2, gkd_i hM1.rl.k, bAL_size_ok hM1.rl, bd_some, if_neg (by rw [ii_lt (by omega) (by omega) (by omega) (by omega)]; omega), l1, ii_add, nm_eq]
    have := is227 hb hx hz hk (zn M - (z + 1)) (z + 1) FU mm (by omega) (by have : FU = 20000 := rfl; omega) (by omega) hI
    rw [show sm (z + 1) (ntz (Dc M) z) = 0 from sm_zero (fun c hc => by unfold ntz; rw [if_neg (by omega)]), Int.add_zero] at this
    exact this
  | succ e ih =>
    intro r f mm h1 h2 hI
    obtain ⟨f, rfl⟩ : ∃ g, f = g + 1 := ⟨f - 1, by omega⟩
    have hr : r < rn M := by omega
    have hzr := (wwr hW.1 hr).1
    have hdz : dz (Dc M) r = (M (79 + 13 * r)).toNat := rfl
    rw [bL_isCleared_l168, gkd_i hM1.o, gtr_i hM1.f2, gkd_i hM1.rl.k, bAL_size_ok hM1.rl, bd_some, if_pos (by rw [ii_lt (by omega) (by omega) (by omega) (by omega)]; omega), gkd_i hM1.o, gtr_i hM1.f2, gkd_i hM1.rl.k, bAL_get_ok hM1.rl rfl hr, bd_some, l0, (hM1.r hr).rd2 (a := 0) (i := 0) rfl (by omega), show rrw M r 0 = M (79 + 13 * r) from rfl, ifeq (by omega) (by omega) (by omega) (by omega)]
    by_cases c1 : M (79 + 13 * r) = (z : Int)
    · obtain ⟨n1, w1, i1⟩ := q_takenr hb hI hr
      have hnext := ih (r + 1) f n1 (by omega) (by omega) i1
      rw [sm_s, show tkr (Dc M) z r = tko (Dc M) r by unfold tkr; rw [if_pos (by omega)]] at hnext
      rw [if_pos c1, gob_i ho, lm1, w1, bd_some]
      unfold bL_isCleared_j212
      dsimp only
      rw [nm_eq, nm_eq, ii_add, l1, ii_add, show sm r (tkr (Dc M) z) - Sz (Dc M) z + tko (Dc M) r = sm r (tkr (Dc M) z) + tko (Dc M) r - Sz (Dc M) z by omega]
      exact hnext
    · have hnext := ih (r + 1) f mm (by omega) (by omega) hI
      rw [sm_s, show tkr (Dc M) z r = 0 by unfold tkr; rw [if_neg (by omega)]] at hnext
      rw [if_neg c1]
      unfold bL_isCleared_j212
      rw [nm_eq, nm_eq, ii_add, l1, ii_add, show sm r (tkr (Dc M) z) - Sz (Dc M) z + 0 = sm r (tkr (Dc M) z) + 0 - Sz (Dc M) z by omega]
      exact hnext
theorem is154 (hb : CB A0 dm0 J M s b) (hx : Ext A0 dm0 A dm) {z : Nat} (hz : z < zn M) {C p R : Int} {k16 : K16} {Q : Int32 × Mem × AS × DM → Prop}
    (hk : ∀ m', CI m' s → Go (k16 A0.2.2.2 (J 0) (ll (C + (Pz (Dc M) z : Int) * Sz (Dc M) z)) (ll p) (ll (R + rtz (Dc M) z)) (ii ((z : Int) + 1)) m' A dm) prM A Q) (hI : CI mm s) {v : Int} (hv : v = lsv M z) : Go (bL_isCleared_j154 k16 A0.2.2.2 (J 0) (ll C) (ll p) (ll R) (ii (z : Int)) (J (10 + z)) (ii (Pz (Dc M) z : Int)) (ii (Nz (Dc M) z)) (ii v) mm A dm) prM A Q := by
  have ho : A0.2.2.2 = A.2.2.2 := hx.2.1.symm
  have hrc := hb.rc
  obtain ⟨n1, w1, i1⟩ := q_served hb hI hz
  have := is168 hb hx hz hk (rn M) 0 FU n1 (by omega) (by have : FU = 20000 := rfl; omega) i1
  rw [sm_0, Int.zero_sub] at this
  unfold bL_isCleared_j154
  rw [gob_i ho, w1, bd_some, hv]
  dsimp only
  rw [ii_neg, nm_eq, l0]
  exact this
theorem is16 (hb : CB A0 dm0 J M s b) :
    ∀ (e z f : Nat) (A : AS) (dm : DM) (mm : Mem), z + e = zn M → e < f → LE A0 dm0 s (c1 + 159 * z) (c2 + 4482 * z) A dm mm → Go (bL_isCleared_l16 f A0.2.2.2 (J 0) (ll (sm z (fun z => (Pz (Dc M) z : Int) * Sz (Dc M) z))) (ll 0) (ll (sm z (rtz (Dc M)))) (ii (z : Int)) mm A dm) prM A (fun y => y.1 = ii 1 ∧ LE A0 dm0 s (c1 + 159 * zn M + 8 * rn M + 53) (c2 + 4482 * zn M + 24 * rn M + 1494) y.2.2.1 y.2.2.2 y.2.1) := by
  have hzc := hb.zc
  have hrc := hb.rc
  have hW := hb.wf
  have hD := hb.wd
  have hs := hb.2.2.2.1
  intro e
  induction e with
  | zero =>
    intro z f A dm mm h1 h2 hL
    obtain ⟨f, rfl⟩ : ∃ g, f = g + 1 := ⟨f - 1, by omega⟩
    have e : z = zn M := by omega
    subst e
    have hM1 := hb.1.ext hL.1
    have hmo : sm (zn M) (fun z => (Pz (Dc M) z : Int) * Sz (Dc M) z) = sm (rn M) (pdt (Dc M)) + sm (zn M) (rtz (Dc M)) := money hD (fun r hr => by
      have := (wwr hW.1 hr).1
      show (M (79 + 13 * r)).toNat < zn M
      omega)
    rw [bL_isCleared_l16, gkd_i hM1.o, gtr_i hM1.f0, gkd_i hM1.zl.k, bAL_size_ok hM1.zl, bd_some, if_neg (by rw [ii_lt (by omega) (by omega) (by omega) (by omega)]; omega), l0]
    exact is488 hb hmo (c1 := c1 + 159 * zn M) (c2 := c2 + 4482 * zn M) (rn M) 0 FU A dm mm (by omega) (by have : FU = 20000 := rfl; omega) (hL.mo (by omega) (by omega))
  | succ e ih =>
    intro z f A dm mm h1 h2 hL
    obtain ⟨f, rfl⟩ : ∃ g, f = g + 1 := ⟨f - 1, by omega⟩
    have hz : z < zn M := by omega
    have hM1 := hb.1.ext hL.1
    have hC1 := hb.2.2.2.2.ext hb.1.o hL.1
    have b1 := z_bd hb hz
    have p9 := PN_9 hD (z := z) hz
    have hLb := Lz_bd hD (z := z) hz (Pz (Dc M) z : Int)
    have hLb2 := Lz_bd hD (z := z) hz ((Pz (Dc M) z : Int) + 1)
    obtain ⟨n1, w1, i1⟩ := q_price hb hL.2.1 (a := (z : Int)) rfl hz
    obtain ⟨n2, w2, i2⟩ := q_net hb i1 hz
    obtain ⟨n3, w3, i3⟩ := q_served hb i2 hz
    have hk : ∀ (A' : AS) (dm' : DM), Ext A0 dm0 A' dm' → cst A0 A' (c1 + 159 * (z + 1 : Nat)) (c2 + 4482 * (z + 1 : Nat)) → ∀ m', CI m' s → Go ((fun x0 x1 x2 x4 x6 x8 mm9 A9 dm9 => bL_isCleared_l16 f x0 x1 x2 x4 x6 x8 mm9 A9 dm9) A0.2.2.2 (J 0) (ll (sm z (fun z => (Pz (Dc M) z : Int) * Sz (Dc M) z) + (Pz (Dc M) z : Int) * Sz (Dc M) z)) (ll 0) (ll (sm z (rtz (Dc M)) + rtz (Dc M) z)) (ii ((z : Int) + 1)) m' A' dm') prM A' (fun y => y.1 = ii 1 ∧ LE A0 dm0 s (c1 + 159 * zn M + 8 * rn M + 53) (c2 + 4482 * zn M + 24 * rn M + 1494) y.2.2.1 y.2.2.2 y.2.1) := by
      intro A' dm' hx' hc' m' hI'
      have := ih (z + 1) f A' dm' m' (by omega) (by omega) ⟨hx', hI', hc'⟩
      rw [sm_s, sm_s] at this
      exact this
    rw [bL_isCleared_l16, gkd_i hM1.o, gtr_i hM1.f0, gkd_i hM1.zl.k, bAL_size_ok hM1.zl, bd_some, if_pos (by rw [ii_lt (by omega) (by omega) (by omega) (by omega)]; omega), gkd_i hM1.o, gtr_i hM1.f0, gkd_i hM1.zl.k, bAL_get_ok hM1.zl rfl hz, bd_some, gkd_i (hM1.z hz).1, gob_i hL.o, w1, bd_some]
    dsimp only
    rw [gob_i hL.o, w2, bd_some]
    dsimp only
    rw [gkd_i hM1.o, gtr_i hC1.1.1, hC1.2.1.rd rfl hz, if_pos rfl, gkd_i hM1.o, gtr_i hC1.1.2.1, hC1.2.2.1.rd rfl hz, if_pos rfl, gob_i hL.o, w3, bd_some]
    dsimp only
    rw [gkd_i hM1.o, gtr_i hC1.1.2.2.1, hC1.2.2.2.1.rd rfl hz, if_pos rfl, gkd_i hM1.o, l0]
    refine Go.call (level6 hW hs (p := (Pz (Dc M) z : Int)) (h := 0) (by omega) (Or.inl rfl) hM1 hz) (fun x hx9 _ => ?_)
    obtain ⟨g1, g2, g3⟩ := hx9
    have hM2 := hM1.ext g2
    rw [g1, Int.add_zero, if_neg (by rw [ii_lt (by omega) (by omega) (by omega) (by omega)]; omega), gkd_i hM2.o, l1]
    refine Go.call (level6 hW hs (p := (Pz (Dc M) z : Int)) (h := 1) (by omega) (Or.inr rfl) hM2 hz) (fun y hy9 _ => ?_)
    obtain ⟨j1, j2, j3⟩ := hy9
    have hM3 := hM2.ext j2
    rw [j1, if_neg (by rw [ii_lt (by omega) (by omega) (by omega) (by omega)]; omega), ifeq (by omega) (by omega) (by omega) (by omega)]
    have hx3 := (hL.1.tr g2).tr j2
    have hc3 := (hL.2.2.tr g3).tr j3
    by_cases e0 : (Pz (Dc M) z : Int) = 0
    · rw [if_pos e0]
      unfold bL_isCleared_j149
      rw [l1]
      exact is154 hb hx3 hz (hk _ _ hx3 (hc3.mo (by omega) (by omega))) i3 (by unfold lsv; rw [if_pos (Or.inl (by omega))])
    · rw [if_neg e0, gkd_i hM3.o, ii_sub]
      refine Go.call (level6 hW hs (p := (Pz (Dc M) z : Int) - 1) (h := 1) (by omega) (Or.inr rfl) hM3 hz) (fun w hw9 _ => ?_)
      obtain ⟨k1, k2, k3⟩ := hw9
      have hx4 := hx3.tr k2
      have hc4 := hc3.tr k3
      rw [k1, show (Pz (Dc M) z : Int) - 1 + 1 = (Pz (Dc M) z : Int) by omega, iflt (by omega) (by omega) (by omega) (by omega)]
      by_cases c : Lz (Dc M) z (Pz (Dc M) z : Int) < Nz (Dc M) z
      · rw [if_pos c]
        unfold bL_isCleared_j149
        rw [l1]
        exact is154 hb hx4 hz (hk _ _ hx4 (hc4.mo (by omega) (by omega))) i3 (by unfold lsv; rw [if_pos (Or.inr c)])
      · rw [if_neg c]
        exact is154 hb hx4 hz (hk _ _ hx4 (hc4.mo (by omega) (by omega))) i3 (by unfold lsv; rw [if_neg (by omega)])
/-- cleared by hand and by the class: one -/
theorem isCleared_ok (hM : MkR A dm J M) (hs : SW s) (hsM : sM s = M) (hS : Sml M) (hC : CI mm s) : Go (bL_isCleared mm A dm A.2.2.2 (J 0)) prM A (fun y => y.1 = ii 1 ∧ MkR y.2.2.1 y.2.2.2 J M ∧ ExtK 8 A dm y.2.2.1 y.2.2.2 ∧ CI y.2.1 s ∧ cst A y.2.2.1 6080 165105) := by
  have hW : WF M := hsM ▸ hs.1
  have h5 := hS.1
  have h6 := hS.2.1
  unfold bL_isCleared
  rw [gkd_i hM.o]
  refine Go.call (gclear_ok hM hW hS) (fun x hx9 _ => ?_)
  obtain ⟨g1, g2, g3, g4, g5⟩ := hx9
  rw [l0, L0, show A.2.2.2 = x.2.1.2.2.2 from g4.2.1.symm]
  have := is16 (A0 := x.2.1) (dm0 := x.2.2) (J := J) (M := M) (s := s) (b := A.1) (c1 := 0) (c2 := 0) ⟨g2, hs, hsM, hS, g3⟩ (zn M) 0 FU x.2.1 x.2.2 mm (by omega) (by have : FU = 20000 := rfl; omega) ⟨Ext.rf _ _, hC, (cst.rf _).mo (by omega) (by omega)⟩
  rw [sm_0, sm_0] at this
  refine Go.imp this (fun y hy => ⟨hy.1, g2.ext hy.2.1, g4.tr hy.2.1.k, hy.2.2.1, (g5.tr hy.2.2.2).mo (by omega) (by omega)⟩)
end
