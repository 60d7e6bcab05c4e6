theorem sh1 : ∀ k, k < 14 → (ii ((2 ^ (k + 1) / 2 : Nat) : Int)) >>> ((1 : Int32) &&& 31) = ii ((2 ^ k / 2 : Nat) : Int) := by decide +kernel
theorem pw_s (k : Nat) : 2 ^ (k + 1) / 2 = 2 ^ k ∧ 2 ^ (k + 1) = 2 ^ k + 2 ^ k ∧ 0 < 2 ^ k := by
  have := Nat.pow_succ 2 k
  have h : 0 < 2 ^ k := Nat.pow_pos (by omega)
  omega
section
variable {M : WM} {x : Nat}
def Qs (D : DT) (z : Nat) (nt : Int) (tp t : Nat) : Prop := t ≤ tp ∧ Lz D z t < nt
theorem cl7 (hM : WF M) {z : Nat} (hz : z < zn M) {nt : Int} (hn1 : -100000 ≤ nt) (hn2 : nt ≤ 100000) : ∀ (k n y : Nat) (m : Mem), k ≤ 14 → k < n → AK m x M → LK m x (Dc M) → m x 11 = ii (tpn M) → (y = 0 ∨ Qs (Dc M) z nt (tpn M) y) → ¬ Qs (Dc M) z nt (tpn M) (y + 2 ^ k) → ∃ m' w, FrQ (x + 26) m m' ∧ (w = 0 ∨ Qs (Dc M) z nt (tpn M) w) ∧ ¬ Qs (Dc M) z nt (tpn M) (w + 1) ∧ f0_leastPrice_l7 n x (ii z) (ii nt) (ii y) (ii ((2 ^ k / 2 : Nat) : Int)) m = some (ii (w : Nat), m') := by
  have hD : WD (Dc M) := Dg_WD hM (ii 0) false
  have tb := (tpn_c hM.1).2
  have hb := zn_bd hM.1
  intro k
  induction k with
  | zero =>
    intro n y m hk hkn hA hL ht hy hq
    obtain ⟨q, rfl⟩ : ∃ q, n = q + 1 := ⟨n - 1, by omega⟩
    refine ⟨m, y, FrQ.rf _ m, hy, hq, ?_⟩
    rw [f0_leastPrice_l7, l0, if_neg (by decide)]
  | succ k ih =>
    intro n y m hk hkn hA hL ht hy hq
    obtain ⟨q, rfl⟩ : ∃ q, n = q + 1 := ⟨n - 1, by omega⟩
    obtain ⟨p1, p2, p3⟩ := pw_s k
    have y9 : y ≤ 9999 := by
      rcases hy with rfl | h
      · omega
      · have := h.1; omega
    have pk : 2 ^ k ≤ 8192 := by
      have := Nat.pow_le_pow_right (n := 2) (by omega) (show k ≤ 13 by omega)
      omega
    have s := sh1 k (by omega)
    rw [f0_leastPrice_l7, l0, if_pos (ilt (by omega) (by omega) (by omega)), ht, ii_add]
    unfold f0_leastPrice_j53
    rw [s, nm_eq]
    have ey : (y : Int) + ((2 ^ (k + 1) / 2 : Nat) : Int) = ((y + 2 ^ k : Nat) : Int) := by omega
    rw [ey]
    by_cases c : tpn M < y + 2 ^ k
    · rw [if_pos (ilt (by omega) (by omega) (by omega))]
      exact ih q y m (by omega) (by omega) hA hL ht hy (fun h => by have := h.1; omega)
    · rw [if_neg (inlt (by omega) (by omega) (by omega))]
      obtain ⟨m1, f1, f2, f3⟩ := fill_ok hA hL hM (q := x + 26) (Or.inl rfl) (f := z) hz (p := ((y + 2 ^ k : Nat) : Int)) (by omega) (by omega)
      have b := Lz_bd hD (z := z) hz ((y + 2 ^ k : Nat) : Int)
      have hA1 := hA.fq (q := x + 26) (by omega) f1
      have hL1 := hL.fr (f1 (x + 24) (by omega)) (f1 (x + 25) (by omega))
      have ht1 : m1 x 11 = ii (tpn M) := by rw [f1 x (by omega)]; exact ht
      rw [f3, bd_some, at_i m1 (ak_ln hA1).2.2.2.2.2.2.1 (by omega) (by omega), bd_some, f2 z (Nat.le_refl _) hz]
      by_cases e : Lz (Dc M) z ((y + 2 ^ k : Nat) : Int) < nt
      · rw [if_pos (ilt e (by omega) (by omega)), nm_eq]
        obtain ⟨m', w, g1, g2, g3, g4⟩ := ih q (y + 2 ^ k) m1 (by omega) (by omega) hA1 hL1 ht1 (Or.inr ⟨by omega, e⟩) (by rw [show y + 2 ^ k + 2 ^ k = y + 2 ^ (k + 1) by omega]; exact hq)
        exact ⟨m', w, f1.tr g1, g2, g3, g4⟩
      · rw [if_neg (inlt (by omega) (by omega) (by omega))]
        obtain ⟨m', w, g1, g2, g3, g4⟩ := ih q y m1 (by omega) (by omega) hA1 hL1 ht1 hy (fun h => e h.2)
        exact ⟨m', w, f1.tr g1, g2, g3, g4⟩
theorem leastPrice_ok {mm : Mem} (hA : AK mm x M) (hL : LK mm x (Dc M)) (hM : WF M) (ht : mm x 11 = ii (tpn M)) {z : Nat} (hz : z < zn M) {nt : Int} (hn1 : -100000 ≤ nt) (hn2 : nt ≤ 100000) (hn3 : nt ≤ Lz (Dc M) z ((tpn M : Int) + 1)) : ∃ m', FrQ (x + 26) mm m' ∧ f0_leastPrice mm x (ii z) (ii nt) = some (ii (lp (Dc M) z nt), m') := by
  have hD : WD (Dc M) := Dg_WD hM (ii 0) false
  have tb := (tpn_c hM.1).2
  obtain ⟨m', w, f1, f2, f3, f4⟩ := cl7 (x := x) hM hz hn1 hn2 14 FU 0 mm (by omega) (by unfold FU; omega) hA hL ht (Or.inl rfl) (fun h => by
    have := h.1
    have e : 2 ^ 14 = 16384 := rfl
    omega)
  have w1 : w ≤ tpn M := by
    rcases f2 with rfl | h
    · omega
    · exact h.1
  have e : lp (Dc M) z nt = w := by
    refine lp_un (by omega) ?_ (fun q hq => ?_)
    · by_cases c : w + 1 ≤ tpn M
      · have a : ¬ Lz (Dc M) z ((w + 1 : Nat) : Int) < nt := fun h => f3 ⟨c, h⟩
        have e1 : ((w + 1 : Nat) : Int) = (w : Int) + 1 := by omega
        rw [e1] at a
        omega
      · have e1 : w = tpn M := by omega
        rw [e1]; exact hn3
    · rcases f2 with rfl | h
      · omega
      · have a := Lz_mn hD (z := z) hz (p := (q : Int) + 1) (q := (w : Int)) (by omega)
        have b := h.2
        omega
  refine ⟨m', f1, ?_⟩
  unfold f0_leastPrice
  rw [l0, l8192, e]
  exact f4
theorem p15 (hM : WF M) {z : Nat} (hz : z < zn M) : ∀ (d i n : Nat) (m : Mem), i + d = 4 * rn M → d < n → AK m x M → LK m x (Dc M) → ∃ m', FrQ (x + 23) m m' ∧ (∀ j, i ≤ j → j < 4 * rn M → dz (Dc M) (j / 4) = z → m' (x + 23) j = ii (Tz (Dc M) j)) ∧ (∀ j, (j < i ∨ dz (Dc M) (j / 4) ≠ z) → m' (x + 23) j = m (x + 23) j) ∧ f0_partToLines_l15 n x (ii z) (ii (Pz (Dc M) z)) (x + 1 + 8) (ii (lq (Dc M) z i)) (ii i) m = some (ii (lq (Dc M) z (4 * rn M)), m') := by
  have hD : WD (Dc M) := Dg_WD hM (ii 0) false
  have hb := zn_bd hM.1
  have hrb := rn_bd hM.1
  have pb := PN_9 hD (z := z) hz
  intro d
  induction d with
  | zero =>
    intro i n m hi hdn hA hL
    obtain ⟨q, rfl⟩ : ∃ q, n = q + 1 := ⟨n - 1, by omega⟩
    refine ⟨m, FrQ.rf _ m, fun j h1 h2 h3 => by omega, fun j hj => rfl, ?_⟩
    rw [f0_partToLines_l15, hA.2.2.n, rn_c hM.1, l4, ii_mul, if_neg (inlt (by omega) (by omega) (by omega)), show i = 4 * rn M by omega]
  | succ d ih =>
    intro i n m hi hdn hA hL
    obtain ⟨q, rfl⟩ : ∃ q, n = q + 1 := ⟨n - 1, by omega⟩
    have hi4 : i < 4 * rn M := by omega
    have hw := wwr hM.1 (r := i / 4) (by omega)
    have o := hw.1
    have zc := zn_c hM.1
    have hln := ak_ln hA
    have eo : M (79 + 13 * (i / 4)) = (dz (Dc M) (i / 4) : Int) := by
      show M (79 + 13 * (i / 4)) = ((M (79 + 13 * (i / 4))).toNat : Int)
      omega
    have ei : (i : Int) / 4 = ((i / 4 : Nat) : Int) := by omega
    obtain ⟨a, v, vb, b, c⟩ := hL i hi4
    have uj := hD.uj (i := i) hi4
    have lb := lq_bd hD (z := z) hz (i := i) (show i ≤ 4 * rn M by omega)
    have ls := lq_s (Dc M) z i
    rw [f0_partToLines_l15, hA.2.2.n, rn_c hM.1, l4, ii_mul, if_pos (ilt (by omega) (by omega) (by omega)), dvz_ii (by omega) (by omega) (by omega), ii_div (by omega) (by omega) (by omega) (by omega), ei, o_zn hA.2.2 (by omega), bd_some, eo]
    by_cases e : dz (Dc M) (i / 4) = z
    · have lT := lq_T (D := Dc M) i e
      rw [if_pos (by rw [e]), at_i m hln.2.2.2.2.2.1 (by omega) (by omega), bd_some, b]
      have fin : ∀ got les : Int, got = Tz (Dc M) i → lq (Dc M) z i - les = lq (Dc M) z (i + 1) → ∃ m', FrQ (x + 23) m m' ∧ (∀ j, i ≤ j → j < 4 * rn M → dz (Dc M) (j / 4) = z → m' (x + 23) j = ii (Tz (Dc M) j)) ∧ (∀ j, (j < i ∨ dz (Dc M) (j / 4) ≠ z) → m' (x + 23) j = m (x + 23) j) ∧ f0_partToLines_j107 (fun x0 x1 x2 x4 x5 x6 mm => f0_partToLines_l15 q x0 x1 x2 x4 x5 x6 mm) x (ii z) (ii (Pz (Dc M) z)) (x + 1 + 8) (ii (lq (Dc M) z i - les)) (ii i) (ii got) m = some (ii (lq (Dc M) z (4 * rn M)), m') := by
        intro got les hg1 hg2
        unfold f0_partToLines_j107 f0_partToLines_j118
        rw [put_i m hln.2.2.2.1 (by omega) (by omega), bd_some, iSu, nm_eq, hg2]
        have F := (FrQ.rf (x + 23) m).u i (ii got)
        obtain ⟨m', f1, f2, f3, f4⟩ := ih (i + 1) q _ (by omega) (by omega) (hA.fq (q := x + 23) (by omega) F) (hL.fr (F (x + 24) (by omega)) (F (x + 25) (by omega)))
        refine ⟨m', F.tr f1, fun j h1 h2 h3 => ?_, fun j hj => ?_, f4⟩
        · by_cases ej : j = i
          · rw [f3 j (by omega), ej, up2_at, hg1]
          · exact f2 j (by omega) h2 h3
        · rw [f3 j (by omega), up2_k _ _ _ _ (fun ej => by subst ej; omega)]
      have z0 : lq (Dc M) z i = lq (Dc M) z i - 0 := by omega
      by_cases c0 : dU (Dc M) i = 0
      · rw [if_pos c0] at lT
        rw [if_neg (fun h => h.2.1 c0)] at ls
        have J : f0_partToLines_j69 (fun x0 x1 x2 x4 x5 x6 mm => f0_partToLines_l15 q x0 x1 x2 x4 x5 x6 mm) x (ii z) (ii (Pz (Dc M) z)) (x + 1 + 8) (ii (lq (Dc M) z i)) (ii i) (ii 0) m = f0_partToLines_j107 (fun x0 x1 x2 x4 x5 x6 mm => f0_partToLines_l15 q x0 x1 x2 x4 x5 x6 mm) x (ii z) (ii (Pz (Dc M) z)) (x + 1 + 8) (ii (lq (Dc M) z i - 0)) (ii i) (ii 0) m := by
          unfold f0_partToLines_j69
          rw [at_i m hln.2.2.2.2.2.1 (by omega) (by omega), bd_some, b]
          by_cases c2 : v = Pz (Dc M) z
          · rw [if_pos (by rw [c2]), at_i m hln.2.2.2.2.1 (by omega) (by omega), bd_some, a, c0, mni_ii (by omega) (by omega) (by omega) (by omega), nm_eq, ii_sub, nm_eq, Int.min_eq_right (by omega)]
          · rw [if_neg (ine c2 vb.1 vb.2 (by omega) (by omega)), Int.sub_zero]
        rw [at_i m hln.2.2.2.2.1 (by omega) (by omega), bd_some, a, c0, l0]
        by_cases c1 : v < Pz (Dc M) z
        · rw [if_pos (ilt c1 (by omega) (by omega)), J]
          exact fin 0 0 lT.symm (by omega)
        · rw [if_neg (inlt (by omega) (by omega) (by omega)), J]
          exact fin 0 0 lT.symm (by omega)
      · have ev := c c0
        subst ev
        rw [if_neg c0] at lT
        by_cases c1 : dJ (Dc M) i < Pz (Dc M) z
        · rw [if_pos c1] at lT
          rw [if_neg (by omega)] at ls
          rw [if_pos (ilt c1 (by omega) (by omega)), at_i m hln.2.2.2.2.1 (by omega) (by omega), bd_some, a]
          unfold f0_partToLines_j69
          rw [at_i m hln.2.2.2.2.2.1 (by omega) (by omega), bd_some, b, if_neg (ine (by omega) (by omega) (by omega) (by omega) (by omega)), z0]
          exact fin _ 0 lT.symm (by omega)
        · rw [if_neg c1] at lT
          rw [if_neg (inlt (by omega) (by omega) (by omega)), l0]
          unfold f0_partToLines_j69
          rw [at_i m hln.2.2.2.2.2.1 (by omega) (by omega), bd_some, b]
          by_cases c2 : dJ (Dc M) i = Pz (Dc M) z
          · rw [if_pos c2] at lT
            rw [if_pos ⟨e, c0, c2⟩] at ls
            rw [if_pos (by rw [c2]), at_i m hln.2.2.2.2.1 (by omega) (by omega), bd_some, a, mni_ii (by omega) (by omega) (by omega) (by omega), nm_eq, ii_sub, nm_eq]
            exact fin _ _ lT.symm ls.symm
          · rw [if_neg c2] at lT
            rw [if_neg (fun h => c2 h.2.2)] at ls
            rw [if_neg (ine c2 (by omega) (by omega) (by omega) (by omega)), z0]
            exact fin 0 0 lT.symm (by omega)
    · rw [if_neg (ine (by omega) (by omega) (by omega) (by omega) (by omega))]
      rw [if_neg (fun h => e h.1)] at ls
      unfold f0_partToLines_j118
      rw [iSu, nm_eq, ← ls]
      obtain ⟨m', f1, f2, f3, f4⟩ := ih (i + 1) q m (by omega) (by omega) hA hL
      refine ⟨m', f1, fun j h1 h2 h3 => ?_, fun j hj => f3 j (by omega), f4⟩
      by_cases ej : j = i
      · subst ej; exact absurd h3 e
      · exact f2 j (by omega) h2 h3
def prc (D : DT) (y : Nat) : Int := if y = 0 then -1 else if Lz D y (Pz D (dou D y)) ≤ Nz D y ∧ Nz D y ≤ Lz D y ((Pz D (dou D y) : Int) + 1) then (Pz D (dou D y) : Int) else -1
theorem prc_P {D : DT} (h : WD D) {y : Nat} (hy : y < dn D) : (prc D y = -1 → Pz D y = lp D y (Nz D y)) ∧ (prc D y ≠ -1 → prc D y = Pz D y) ∧ -1 ≤ prc D y ∧ prc D y ≤ 9999 := by
  unfold prc
  by_cases e : y = 0
  · subst e
    rw [if_pos rfl, (PN_0 D).1, (PN_0 D).2]
    exact ⟨fun _ => rfl, fun h => absurd rfl h, by omega, by omega⟩
  · rw [if_neg e]
    have q := (PN_s h (z := y) (by omega) hy).2
    have ho := h.ou (z := y) (by omega) hy
    have pb := PN_9 h (z := dou D y) (by omega)
    by_cases c : Lz D y (Pz D (dou D y)) ≤ Nz D y ∧ Nz D y ≤ Lz D y ((Pz D (dou D y) : Int) + 1)
    · rw [if_pos c]
      rw [if_pos c] at q
      exact ⟨fun h => by omega, fun _ => by rw [q], by omega, by omega⟩
    · rw [if_neg c]
      rw [if_neg c] at q
      exact ⟨fun _ => q, fun h => absurd rfl h, by omega, by omega⟩
theorem p17 (hM : WF M) {z : Nat} (hz : z < zn M) : ∀ (d c n : Nat) (m : Mem), c + d = zn M → d < n → z < c → AK m x M → (∀ y, z < y → y < zn M → m (x + 27) y = ii (Lz (Dc M) y (Pz (Dc M) z)) ∧ m (x + 28) y = ii (Lz (Dc M) y ((Pz (Dc M) z : Int) + 1))) → ∃ m', (∀ q, q ≠ x + 20 → q ≠ x + 21 → m' q = m q) ∧ (∀ y, m' (x + 21) y = if c ≤ y ∧ y < zn M ∧ dou (Dc M) y = z then ii (Nz (Dc M) y) else m (x + 21) y) ∧ (∀ y, m' (x + 20) y = if c ≤ y ∧ y < zn M ∧ dou (Dc M) y = z then ii (prc (Dc M) y) else m (x + 20) y) ∧ f0_partToInner_l17 n x (ii z) (ii (Pz (Dc M) z)) (x + 1 + 1) (ii (lbq (Dc M) z c)) (ii c) m = some (ii (lbq (Dc M) z (zn M)), m') := by
  have hD : WD (Dc M) := Dg_WD hM (ii 0) false
  have hb := zn_bd hM.1
  have pb := PN_9 hD (z := z) hz
  intro d
  induction d with
  | zero =>
    intro c n m hc hdn hzc hA h78
    obtain ⟨q, rfl⟩ : ∃ q, n = q + 1 := ⟨n - 1, by omega⟩
    refine ⟨m, fun _ _ _ => rfl, fun y => by rw [if_neg (by omega)], fun y => by rw [if_neg (by omega)], ?_⟩
    rw [f0_partToInner_l17, hA.2.1.n, zn_c hM.1, if_neg (inlt (by omega) (by omega) (by omega)), show c = zn M by omega]
  | succ d ih =>
    intro c n m hc hdn hzc hA h78
    obtain ⟨q, rfl⟩ : ∃ q, n = q + 1 := ⟨n - 1, by omega⟩
    have hcn : c < zn M := by omega
    have hw := wwz hM.1 hcn
    have o := hw.1 (by omega)
    have yc := h78 c hzc hcn
    have hln := ak_ln hA
    have b0 := Lz_bd hD (z := c) hcn (Pz (Dc M) z)
    have b1 := Lz_bd hD (z := c) hcn ((Pz (Dc M) z : Int) + 1)
    have c0 := cu_bd hD (z := c) hcn (Lz (Dc M) c (Pz (Dc M) z))
    have c1 := cu_bd hD (z := c) hcn (Lz (Dc M) c ((Pz (Dc M) z : Int) + 1))
    have lb0 := lbq_bd hD (z := z) hz (c := c) (show c ≤ zn M by omega)
    have ls := lbq_s (Dc M) z c
    have nb := N_bd hD (z := c) hcn
    have eo : M (7 + 12 * c) = (dou (Dc M) c : Int) := by
      show M (7 + 12 * c) = ((M (7 + 12 * c)).toNat : Int)
      omega
    have ecu : ∀ a, max (-(M (8 + 12 * c))) (min (M (9 + 12 * c)) a) = cu (Dc M) c a := fun _ => rfl
    rw [f0_partToInner_l17, hA.2.1.n, zn_c hM.1, if_pos (ilt (by omega) (by omega) (by omega)), z_out hA.2.1 (by omega) (by omega), bd_some, eo]
    by_cases e : dou (Dc M) c = z
    · have eN := lbq_N hD (z := z) (c := c) hcn ⟨hzc, e⟩
      have er : room (Dc M) c (Pz (Dc M) z) = cu (Dc M) c (Lz (Dc M) c ((Pz (Dc M) z : Int) + 1)) - cu (Dc M) c (Lz (Dc M) c (Pz (Dc M) z)) := rfl
      rw [if_pos ⟨hzc, e⟩] at ls
      rw [if_pos (by rw [e]), at_i m hln.2.2.2.2.2.2.2.1 (by omega) (by omega), bd_some, at_i m hln.2.2.2.2.2.2.2.2 (by omega) (by omega), bd_some, yc.1, yc.2, f5_cut_ok hA.2.1 hw (by omega) (by omega) (by omega), bd_some, f5_cut_ok hA.2.1 hw (by omega) (by omega) (by omega), bd_some, ecu, ecu, ii_sub, ← er, mni_ii (by omega) (by omega) (by omega) (by omega), nm_eq, ii_sub, nm_eq, ii_add, nm_eq, put_i m hln.2.1 (by omega) (by omega), bd_some, ← eN, ← ls]
      have fin : ∀ pr : Int, pr = prc (Dc M) c → ∃ m', (∀ q, q ≠ x + 20 → q ≠ x + 21 → m' q = m q) ∧ (∀ y, m' (x + 21) y = if c ≤ y ∧ y < zn M ∧ dou (Dc M) y = z then ii (Nz (Dc M) y) else m (x + 21) y) ∧ (∀ y, m' (x + 20) y = if c ≤ y ∧ y < zn M ∧ dou (Dc M) y = z then ii (prc (Dc M) y) else m (x + 20) y) ∧ f0_partToInner_j143 (fun x0 x1 x2 x4 x5 x6 mm => f0_partToInner_l17 q x0 x1 x2 x4 x5 x6 mm) x (ii z) (ii (Pz (Dc M) z)) (x + 1 + 1) (ii (lbq (Dc M) z (c + 1))) (ii c) (ii pr) (ii c) (x + 20) (up2 m (x + 21) c (ii (Nz (Dc M) c))) = some (ii (lbq (Dc M) z (zn M)), m') := by
        intro pr hpr
        unfold f0_partToInner_j143 f0_partToInner_j146
        rw [put_i _ hln.1 (by omega) (by omega), bd_some, iSu, nm_eq, hpr]
        generalize hm2 : up2 (up2 m (x + 21) c (ii (Nz (Dc M) c))) (x + 20) c (ii (prc (Dc M) c)) = m2
        have F : ∀ q, q ≠ x + 20 → q ≠ x + 21 → m2 q = m q := fun q h0 h1 => by
          rw [← hm2]; funext j; rw [up2_c _ _ _ _ h0, up2_c _ _ _ _ h1]
        obtain ⟨m', f1, f2, f3, f4⟩ := ih (c + 1) q m2 (by omega) (by omega) (by omega) (hA.fr (fun a h1 h2 => F a (by omega) (by omega))) (fun y h1 h2 => by
          rw [F _ (by omega) (by omega), F _ (by omega) (by omega)]; exact h78 y h1 h2)
        refine ⟨m', fun a h0 h1 => by rw [f1 a h0 h1, F a h0 h1], fun y => ?_, fun y => ?_, f4⟩
        · rw [f2 y]
          by_cases e1 : c + 1 ≤ y ∧ y < zn M ∧ dou (Dc M) y = z
          · rw [if_pos e1, if_pos ⟨by omega, e1.2⟩]
          · rw [if_neg e1, ← hm2, up2_c _ _ _ _ (by omega)]
            by_cases e2 : y = c
            · rw [e2, up2_at, if_pos ⟨Nat.le_refl _, hcn, e⟩]
            · rw [up2_k _ _ _ _ e2, if_neg]
              intro h
              exact e1 ⟨by omega, h.2⟩
        · rw [f3 y]
          by_cases e1 : c + 1 ≤ y ∧ y < zn M ∧ dou (Dc M) y = z
          · rw [if_pos e1, if_pos ⟨by omega, e1.2⟩]
          · rw [if_neg e1, ← hm2]
            by_cases e2 : y = c
            · rw [e2, up2_at, if_pos ⟨Nat.le_refl _, hcn, e⟩]
            · rw [up2_k _ _ _ _ e2, up2_c _ _ _ _ (by omega), if_neg]
              intro h
              exact e1 ⟨by omega, h.2⟩
      have hpc : prc (Dc M) c = if Lz (Dc M) c (Pz (Dc M) z) ≤ Nz (Dc M) c ∧ Nz (Dc M) c ≤ Lz (Dc M) c ((Pz (Dc M) z : Int) + 1) then (Pz (Dc M) z : Int) else -1 := by
        unfold prc
        rw [if_neg (by omega), e]
      unfold f0_partToInner_j142
      by_cases c2 : Nz (Dc M) c < Lz (Dc M) c (Pz (Dc M) z)
      · rw [if_pos (ilt c2 (by omega) (by omega)), l1, ii_neg]
        exact fin _ (by rw [hpc, if_neg (by omega)])
      · rw [if_neg (inlt (by omega) (by omega) (by omega))]
        by_cases c3 : Lz (Dc M) c ((Pz (Dc M) z : Int) + 1) < Nz (Dc M) c
        · rw [if_pos (ilt c3 (by omega) (by omega)), l1, ii_neg]
          exact fin _ (by rw [hpc, if_neg (by omega)])
        · rw [if_neg (inlt (by omega) (by omega) (by omega))]
          exact fin _ (by rw [hpc, if_pos (by omega)])
    · rw [if_neg (ine (by omega) (by omega) (by omega) (by omega) (by omega))]
      rw [if_neg (fun h => e h.2)] at ls
      unfold f0_partToInner_j146
      rw [iSu, nm_eq, ← ls]
      obtain ⟨m', f1, f2, f3, f4⟩ := ih (c + 1) q m (by omega) (by omega) (by omega) hA h78
      have ne : ∀ y, (c + 1 ≤ y ∧ y < zn M ∧ dou (Dc M) y = z) = (c ≤ y ∧ y < zn M ∧ dou (Dc M) y = z) := fun y => by
        apply propext
        constructor
        · intro h; exact ⟨by omega, h.2⟩
        · intro h
          by_cases e2 : y = c
          · rw [e2] at h; exact absurd h.2.2 e
          · exact ⟨by omega, h.2⟩
      refine ⟨m', f1, fun y => ?_, fun y => ?_, f4⟩
      · rw [f2 y]; simp only [ne y]
      · rw [f3 y]; simp only [ne y]
end
