section
variable {M : WM} {x : Nat}
def c33s (m : Mem) (x : Nat) (M : WM) (z b : Nat) : Prop := (∀ y, y < z → m (x + 20) y = ii (Pz (Dc M) y) ∧ m (x + 22) y = ii (Sz (Dc M) y)) ∧ (∀ y, b ≤ y → y < zn M → (y = 0 ∨ dou (Dc M) y < z) → m (x + 20) y = ii (prc (Dc M) y)) ∧ (∀ y, y < zn M → (y = 0 ∨ dou (Dc M) y < z) → m (x + 21) y = ii (Nz (Dc M) y)) ∧ (∀ i, i < 4 * rn M → dz (Dc M) (i / 4) < z → m (x + 23) i = ii (Tz (Dc M) i)) ∧ (∃ fa : Int, (-1 ≤ fa ∧ fa ≤ 9999) ∧ m x 10 = ii fa ∧ (0 ≤ fa → ∀ y, z ≤ y → y < zn M → m (x + 27) y = ii (Lz (Dc M) y fa) ∧ m (x + 28) y = ii (Lz (Dc M) y (fa + 1)))) ∧ m x 11 = ii (tpn M)
theorem pt44 (hM : WF M) {z : Nat} (hz : z < zn M) {m : Mem} (hA : AK m x M) (hL : LK m x (Dc M)) (hN : m (x + 21) z = ii (Nz (Dc M) z)) (h78 : ∀ y, z ≤ y → y < zn M → m (x + 27) y = ii (Lz (Dc M) y (Pz (Dc M) z)) ∧ m (x + 28) y = ii (Lz (Dc M) y ((Pz (Dc M) z : Int) + 1))) : ∃ m', (∀ q, (q < x + 20 ∨ x + 23 < q) → m' q = m q) ∧ (∀ y, m' (x + 21) y = if z + 1 ≤ y ∧ y < zn M ∧ dou (Dc M) y = z then ii (Nz (Dc M) y) else m (x + 21) y) ∧ (∀ y, m' (x + 20) y = if z + 1 ≤ y ∧ y < zn M ∧ dou (Dc M) y = z then ii (prc (Dc M) y) else m (x + 20) y) ∧ (∀ y, m' (x + 22) y = if y = z then ii (Sz (Dc M) z) else m (x + 22) y) ∧ (∀ j, j < 4 * rn M → m' (x + 23) j = if dz (Dc M) (j / 4) = z then ii (Tz (Dc M) j) else m (x + 23) j) ∧ f0_part_j44 x (ii z) (ii (Pz (Dc M) z)) m = some m' := by
  have hD : WD (Dc M) := Dg_WD hM (ii 0) false
  have hb := zn_bd hM.1
  have hrb := rn_bd hM.1
  have hln := ak_ln hA
  have pb := PN_9 hD (z := z) hz
  have hw := wwz hM.1 hz
  obtain ⟨m1, f1, f2, f3, f4⟩ := p15 (x := x) hM hz (4 * rn M) 0 FU m (by omega) (by unfold FU; omega) hA hL
  have hA1 : AK m1 x M := hA.fq (q := x + 23) (by omega) f1
  obtain ⟨m2, g1, g2, g3, g4⟩ := p17 (x := x) hM hz (zn M - (z + 1)) (z + 1) FU m1 (by omega) (by unfold FU; omega) (by omega) hA1 (fun y h1 h2 => by
    rw [f1 _ (by omega), f1 _ (by omega)]; exact h78 y (by omega) h2)
  have hA2 : AK m2 x M := hA1.fr (fun c h1 h2 => g1 c (by omega) (by omega))
  refine ⟨up2 m2 (x + 22) z (ii (Sz (Dc M) z)), fun q hq => ?_, fun y => ?_, fun y => ?_, fun y => ?_, fun j hj => ?_, ?_⟩
  · rw [← f1 q (by omega), ← g1 q (by omega) (by omega)]
    funext j; exact up2_c _ _ _ _ (by omega)
  · rw [up2_c _ _ _ _ (by omega), g2 y, f1 _ (by omega)]
  · rw [up2_c _ _ _ _ (by omega), g3 y, f1 _ (by omega)]
  · by_cases e : y = z
    · rw [e, up2_at, if_pos rfl]
    · rw [up2_k _ _ _ _ e, if_neg e, g1 _ (by omega) (by omega), f1 _ (by omega)]
  · rw [up2_c _ _ _ _ (by omega), g1 _ (by omega) (by omega)]
    by_cases e : dz (Dc M) (j / 4) = z
    · rw [if_pos e]; exact f2 j (by omega) hj e
    · rw [if_neg e]; exact f3 j (Or.inr e)
  · unfold f0_part_j44
    rw [at_i m hln.2.1 (by omega) (by omega), bd_some, at_i m hln.2.2.2.2.2.2.2.1 (by omega) (by omega), bd_some, hN, (h78 z (Nat.le_refl _) hz).1, ii_sub, nm_eq]
    have e1 : f0_partToLines m x (ii z) (ii (Pz (Dc M) z)) (ii (Nz (Dc M) z - Lz (Dc M) z (Pz (Dc M) z))) = some (ii (lq (Dc M) z (4 * rn M)), m1) := by
      unfold f0_partToLines
      rw [l0]
      exact f4
    have e2 : f0_partToInner m1 x (ii z) (ii (Pz (Dc M) z)) (ii (lq (Dc M) z (4 * rn M))) = some (ii (lbq (Dc M) z (zn M)), m2) := by
      unfold f0_partToInner
      rw [l1, ii_add, nm_eq]
      have e : (z : Int) + 1 = ((z + 1 : Nat) : Int) := by omega
      have e3 := lbq_up (D := Dc M) z (c := z + 1) (Nat.le_refl _)
      rw [e, show lq (Dc M) z (4 * rn M) = lbq (Dc M) z (z + 1) from e3.symm]
      exact g4
    rw [e1, bd_some]
    show bd (f0_partToInner m1 x (ii z) (ii (Pz (Dc M) z)) (ii (lq (Dc M) z (4 * rn M)))) _ = _
    rw [e2, bd_some]
    show bd (f5_wantedFrom m2 (x + 1 + 1) (ii z) (ii (Pz (Dc M) z))) _ = _
    rw [f5_wantedFrom_ok hA2.2.1 hw (by omega) (by omega) (by omega), bd_some]
    show bd (f6_put m2 (x + 22) (ii z) (ii (Wt M z (Pz (Dc M) z)) - ii (lbq (Dc M) z (zn M)))) _ = _
    rw [ii_sub, put_i m2 (ak_ln hA2).2.2.1 (by omega) (by omega), bd_some]
    rfl
theorem part_ok (hM : WF M) {z : Nat} (hz : z < zn M) {m : Mem} (hA : AK m x M) (hL : LK m x (Dc M)) (hs : c33s m x M z (z + 1)) (hP : m (x + 20) z = ii (Pz (Dc M) z)) : ∃ m', FrA x m m' ∧ LK m' x (Dc M) ∧ c33s m' x M (z + 1) (z + 1) ∧ f0_part m x (ii z) = some m' := by
  have hD : WD (Dc M) := Dg_WD hM (ii 0) false
  have hb := zn_bd hM.1
  have hln := ak_ln hA
  have pb := PN_9 hD (z := z) hz
  have hou : 1 ≤ z → dou (Dc M) z < z := fun h => hD.ou h hz
  have hz0 : z = 0 ∨ dou (Dc M) z < z := by
    by_cases e : z = 0
    · exact Or.inl e
    · exact Or.inr (hou (by omega))
  obtain ⟨s1, s2, s3, s4, ⟨fa, fab, s5, s6⟩, s7⟩ := hs
  have hN := s3 z hz hz0
  have fin : ∀ m1 : Mem, FrA x m m1 → m1 (x + 20) = m (x + 20) → m1 (x + 21) = m (x + 21) → m1 (x + 22) = m (x + 22) → m1 (x + 23) = m (x + 23) → m1 (x + 24) = m (x + 24) → m1 (x + 25) = m (x + 25) → m1 x 10 = ii (Pz (Dc M) z) → m1 x 11 = ii (tpn M) → (∀ y, z ≤ y → y < zn M → m1 (x + 27) y = ii (Lz (Dc M) y (Pz (Dc M) z)) ∧ m1 (x + 28) y = ii (Lz (Dc M) y ((Pz (Dc M) z : Int) + 1))) → ∃ m', FrA x m m' ∧ LK m' x (Dc M) ∧ c33s m' x M (z + 1) (z + 1) ∧ f0_part_j44 x (ii z) (ii (Pz (Dc M) z)) m1 = some m' := by
    intro m1 F q0 q1 q2 q3 q4 q5 q10 q11 q78
    have hA1 : AK m1 x M := hA.fr (fun c h1 h2 => F c (by omega) (by omega))
    have hL1 : LK m1 x (Dc M) := hL.fr q4 q5
    obtain ⟨m2, k1, k2, k3, k4, k5, k6⟩ := pt44 (x := x) hM hz hA1 hL1 (by rw [q1]; exact hN) q78
    refine ⟨m2, fun c h1 h2 => by rw [k1 c (by omega), F c h1 h2], hL1.fr (k1 _ (by omega)) (k1 _ (by omega)), ⟨fun y hy => ?_, fun y h1 h2 h3 => ?_, fun y h1 h2 => ?_, fun i h1 h2 => ?_, ⟨Pz (Dc M) z, by omega, by rw [k1 x (by omega)]; exact q10, fun _ y h1 h2 => ?_⟩, by rw [k1 x (by omega)]; exact q11⟩, k6⟩
    · rw [k3 y, k4 y, if_neg (by omega), q0, q2]
      by_cases e : y = z
      · rw [e, if_pos rfl]; exact ⟨hP, rfl⟩
      · rw [if_neg e]; exact s1 y (by omega)
    · rw [k3 y]
      by_cases e : z + 1 ≤ y ∧ y < zn M ∧ dou (Dc M) y = z
      · rw [if_pos e]
      · rw [if_neg e, q0]
        refine s2 y h1 h2 ?_
        rcases h3 with h3 | h3
        · exact Or.inl h3
        · by_cases e2 : dou (Dc M) y = z
          · exact absurd ⟨h1, h2, e2⟩ e
          · exact Or.inr (by omega)
    · rw [k2 y]
      by_cases e : z + 1 ≤ y ∧ y < zn M ∧ dou (Dc M) y = z
      · rw [if_pos e]
      · rw [if_neg e, q1]
        refine s3 y h1 ?_
        rcases h2 with h2 | h2
        · exact Or.inl h2
        · by_cases e0 : y = 0
          · exact Or.inl e0
          · by_cases e2 : dou (Dc M) y = z
            · have := hD.ou (z := y) (by omega) h1
              exact absurd ⟨by omega, h1, e2⟩ e
            · exact Or.inr (by omega)
    · rw [k5 i h1]
      by_cases e : dz (Dc M) (i / 4) = z
      · rw [if_pos e]
      · rw [if_neg e, q3]; exact s4 i h1 (by omega)
    · rw [k1 _ (by omega), k1 _ (by omega)]
      exact q78 y (by omega) h2
  unfold f0_part
  rw [at_i m hln.1 (by omega) (by omega), bd_some, hP, s5]
  by_cases c : (Pz (Dc M) z : Int) = fa
  · rw [if_pos (by rw [c])]
    exact fin m (fun _ _ _ => rfl) rfl rfl rfl rfl rfl rfl (by rw [s5, c]) s7 (fun y h1 h2 => by rw [c]; exact s6 (by omega) y h1 h2)
  · rw [if_neg (ine c (by omega) (by omega) (by omega) (by omega))]
    obtain ⟨m1, f1, f2, f3⟩ := fill_ok hA hL hM (q := x + 27) (Or.inr (Or.inl rfl)) (f := z) hz (p := (Pz (Dc M) z : Int)) (by omega) (by omega)
    have hA1 := hA.fq (q := x + 27) (by omega) f1
    have hL1 := hL.fr (f1 (x + 24) (by omega)) (f1 (x + 25) (by omega))
    obtain ⟨m2, g1, g2, g3⟩ := fill_ok hA1 hL1 hM (q := x + 28) (Or.inr (Or.inr rfl)) (f := z) hz (p := (Pz (Dc M) z : Int) + 1) (by omega) (by omega)
    rw [f3, bd_some, l1, ii_add, g3, bd_some, nm_eq]
    have F : ∀ q, q ≠ x → q ≠ x + 27 → q ≠ x + 28 → up2 m2 x 10 (ii (Pz (Dc M) z)) q = m q := fun q h0 h1 h2 => by
      rw [← f1 q h1, ← g1 q h2]; funext j; exact up2_c _ _ _ _ h0
    refine fin _ (fun a h1 h2 => F a h1 (by omega) (by omega)) (F _ (by omega) (by omega) (by omega)) (F _ (by omega) (by omega) (by omega)) (F _ (by omega) (by omega) (by omega)) (F _ (by omega) (by omega) (by omega)) (F _ (by omega) (by omega) (by omega)) (F _ (by omega) (by omega) (by omega)) (up2_at _ _ _ _) ?_ (fun y h1 h2 => ?_)
    · rw [up2_k _ _ _ _ (by omega), g1 x (by omega), f1 x (by omega)]; exact s7
    · rw [up2_c _ _ _ _ (by omega), up2_c _ _ _ _ (by omega), g1 _ (by omega)]
      exact ⟨f2 y h1 h2, g2 y h1 h2⟩
theorem l33 (hM : WF M) : ∀ (d z n : Nat) (m : Mem), z + d = zn M → d < n → AK m x M → LK m x (Dc M) → c33s m x M z z → ∃ m', FrA x m m' ∧ LK m' x (Dc M) ∧ c33s m' x M (zn M) (zn M) ∧ f0_clear_l33 n x (ii z) m = some m' := by
  have hD : WD (Dc M) := Dg_WD hM (ii 0) false
  have hb := zn_bd hM.1
  intro d
  induction d with
  | zero =>
    intro z n m hz hdn hA hL hs
    obtain ⟨q, rfl⟩ : ∃ q, n = q + 1 := ⟨n - 1, by omega⟩
    have e : z = zn M := by omega
    refine ⟨m, fun _ _ _ => rfl, hL, e ▸ hs, ?_⟩
    rw [f0_clear_l33, hA.2.1.n, zn_c hM.1, if_neg (inlt (by omega) (by omega) (by omega))]
  | succ d ih =>
    intro z n m hz hdn hA hL hs
    obtain ⟨q, rfl⟩ : ∃ q, n = q + 1 := ⟨n - 1, by omega⟩
    have hzn : z < zn M := by omega
    have hln := ak_ln hA
    have hou : 1 ≤ z → dou (Dc M) z < z := fun h => hD.ou h hzn
    have hz0 : z = 0 ∨ dou (Dc M) z < z := by
      by_cases e : z = 0
      · exact Or.inl e
      · exact Or.inr (hou (by omega))
    obtain ⟨s1, s2, s3, s4, ⟨fa, fab, s5, s6⟩, s7⟩ := hs
    have hN := s3 z hzn hz0
    have hpr := s2 z (Nat.le_refl _) hzn hz0
    obtain ⟨t1, t2, t3, t4⟩ := prc_P hD (y := z) hzn
    have fin : ∀ m1 : Mem, FrA x m m1 → AK m1 x M → LK m1 x (Dc M) → c33s m1 x M z (z + 1) → m1 (x + 20) z = ii (Pz (Dc M) z) → ∃ m', FrA x m m' ∧ LK m' x (Dc M) ∧ c33s m' x M (zn M) (zn M) ∧ f0_clear_j80 (fun x0 x1 mm => f0_clear_l33 q x0 x1 mm) x (ii z) m1 = some m' := by
      intro m1 F hA1 hL1 hs1 hP1
      obtain ⟨m2, f1, f2, f3, f4⟩ := part_ok (x := x) hM hzn hA1 hL1 hs1 hP1
      obtain ⟨m3, g1, g2, g3, g4⟩ := ih (z + 1) q m2 (by omega) (by omega) (hA1.fr (fun c h1 h2 => f1 c (by omega) (by omega))) f2 f3
      refine ⟨m3, fun c h1 h2 => by rw [g1 c h1 h2, f1 c h1 h2, F c h1 h2], g2, g3, ?_⟩
      unfold f0_clear_j80
      rw [f4, bd_some, iSu, nm_eq]
      exact g4
    rw [f0_clear_l33, hA.2.1.n, zn_c hM.1, if_pos (ilt (by omega) (by omega) (by omega)), at_i m hln.1 (by omega) (by omega), bd_some, hpr, l1, ii_neg]
    by_cases c : prc (Dc M) z = -1
    · have nb := N_bd hD (z := z) hzn
      have tb := tpn_c hM.1
      have ok := PN_ok hD (tpn_Tp hM (ii 0) false) z hzn
      have mn := Lz_mn hD (z := z) hzn (p := (Pz (Dc M) z : Int) + 1) (q := (tpn M : Int) + 1) (by have : Pz (Dc M) z ≤ tpn M := ok.2.2; omega)
      have h3 : Nz (Dc M) z ≤ Lz (Dc M) z ((tpn M : Int) + 1) := Int.le_trans ok.2.1 mn
      obtain ⟨m1, f1, f2⟩ := leastPrice_ok hA hL hM s7 hzn nb.1 nb.2 h3
      have hA1 := hA.fq (q := x + 26) (by omega) f1
      have hL1 := hL.fr (f1 (x + 24) (by omega)) (f1 (x + 25) (by omega))
      rw [if_pos (by rw [c]), at_i m hln.2.1 (by omega) (by omega), bd_some, hN, f2, bd_some]
      show ∃ m', _ ∧ _ ∧ _ ∧ bd (f6_put m1 (x + 20) (ii z) (ii (lp (Dc M) z (Nz (Dc M) z)))) _ = some m'
      rw [put_i m1 (ak_ln hA1).1 (by omega) (by omega), bd_some, ← t1 c]
      have G : ∀ q, q ≠ x + 20 → q ≠ x + 26 → up2 m1 (x + 20) z (ii (Pz (Dc M) z)) q = m q := fun q h0 h1 => by
        rw [← f1 q h1]; funext j; exact up2_c _ _ _ _ h0
      refine fin _ (fun a h1 h2 => G a (by omega) (by omega)) (hA1.fr (fun a h1 h2 => by funext j; exact up2_c _ _ _ _ (by omega))) (hL.fr (G _ (by omega) (by omega)) (G _ (by omega) (by omega))) ⟨fun y hy => ?_, fun y h1 h2 h3 => ?_, ?_, ?_, ⟨fa, fab, ?_, ?_⟩, ?_⟩ (up2_at _ _ _ _)
      · rw [up2_k _ _ _ _ (by omega), f1 _ (by omega), G _ (by omega) (by omega)]; exact s1 y hy
      · rw [up2_k _ _ _ _ (by omega), f1 _ (by omega)]; exact s2 y (by omega) h2 h3
      · rw [G _ (by omega) (by omega)]; exact s3
      · rw [G _ (by omega) (by omega)]; exact s4
      · rw [G _ (by omega) (by omega)]; exact s5
      · rw [G _ (by omega) (by omega), G _ (by omega) (by omega)]; exact s6
      · rw [G _ (by omega) (by omega)]; exact s7
    · rw [if_neg (ine c (by omega) (by omega) (by omega) (by omega))]
      exact fin m (fun _ _ _ => rfl) hA hL ⟨s1, fun y h1 => s2 y (by omega), s3, s4, ⟨fa, fab, s5, s6⟩, s7⟩ (by rw [hpr, t2 c])
def CLS (m : Mem) (x : Nat) (M : WM) : Prop := LK m x (Dc M) ∧ (∀ y, y < zn M → m (x + 20) y = ii (Pz (Dc M) y) ∧ m (x + 21) y = ii (Nz (Dc M) y) ∧ m (x + 22) y = ii (Sz (Dc M) y)) ∧ (∀ i, i < 4 * rn M → m (x + 23) i = ii (Tz (Dc M) i))
theorem clear_ok {mm : Mem} (hA : AK mm x M) (hM : WF M) : ∃ m', FrA x mm m' ∧ CLS m' x M ∧ f0_clear mm x = some m' := by
  have hD : WD (Dc M) := Dg_WD hM (ii 0) false
  have hb := zn_bd hM.1
  have hrb := rn_bd hM.1
  obtain ⟨m1, f1, f2, f3⟩ := readLines_ok hA hM
  have hA1 : AK m1 x M := hA.fr (fun c h1 h2 => f1 c (by omega) (by omega))
  obtain ⟨m2, g1, g2, g3⟩ := readTop_ok hA1 hM
  have hA2 : AK m2 x M := hA1.fr (fun c h1 h2 => g1 c (by omega))
  have hL2 : LK m2 x (Dc M) := f2.fr (g1 _ (by omega)) (g1 _ (by omega))
  generalize hm3 : up2 (up2 (up2 m2 x 10 (ii (-1))) (x + 20) 0 (ii (-1))) (x + 21) 0 (ii 0) = m3
  have F : ∀ q, q ≠ x → q ≠ x + 20 → q ≠ x + 21 → m3 q = m2 q := fun q h0 h1 h2 => by
    rw [← hm3]; funext j; rw [up2_c _ _ _ _ h2, up2_c _ _ _ _ h1, up2_c _ _ _ _ h0]
  have hA3 : AK m3 x M := hA2.fr (fun c h1 h2 => F c (by omega) (by omega) (by omega))
  have hL3 : LK m3 x (Dc M) := hL2.fr (F _ (by omega) (by omega) (by omega)) (F _ (by omega) (by omega) (by omega))
  have hS3 : c33s m3 x M 0 0 := by
    refine ⟨fun y hy => by omega, fun y h1 h2 h3 => ?_, fun y h1 h2 => ?_, fun i h1 h2 => by omega, ⟨-1, by omega, ?_, fun h => by omega⟩, ?_⟩
    · have e : y = 0 := by omega
      rw [e, ← hm3, up2_c _ _ _ _ (by omega), up2_at]
      rfl
    · have e : y = 0 := by omega
      rw [e, ← hm3, up2_at, (PN_0 _).2]
    · rw [← hm3, up2_c _ _ _ _ (by omega), up2_c _ _ _ _ (by omega), up2_at]
    · rw [← hm3, up2_c _ _ _ _ (by omega), up2_c _ _ _ _ (by omega), up2_k _ _ _ _ (by omega)]; exact g2
  obtain ⟨m4, k1, k2, k3, k4⟩ := l33 (x := x) hM (zn M) 0 FU m3 (by omega) (by unfold FU; omega) hA3 hL3 hS3
  obtain ⟨s1, s2, s3, s4, s5, s6⟩ := k3
  refine ⟨m4, fun c h1 h2 => by rw [k1 c h1 h2, F c h1 (by omega) (by omega), g1 c h1, f1 c (by omega) (by omega)], ⟨k2, fun y hy => ⟨(s1 y hy).1, s3 y hy ?_, (s1 y hy).2⟩, fun i hi => s4 i hi ?_⟩, ?_⟩
  · by_cases e : y = 0
    · exact Or.inl e
    · have := hD.ou (z := y) (by omega) hy
      exact Or.inr (by omega)
  · have hr : i / 4 < rn M := by omega
    have o := (wwr hM.1 hr).1
    have zc := zn_c hM.1
    show (M (79 + 13 * (i / 4))).toNat < zn M
    omega
  · unfold f0_clear
    rw [f3, bd_some, g3, bd_some, l1, ii_neg, nm_eq, l0, put_e _ (k := 0) (i := 0) rfl (ak_ln hA2).1 (by omega) (by omega), bd_some, put_e _ (k := 0) (i := 0) rfl (ak_ln hA2).2.1 (by omega) (by omega), bd_some, hm3]
    exact k4
end
