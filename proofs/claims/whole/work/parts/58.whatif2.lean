/-! pivotal -/
def slo (M : WM) (o : Int) (k : Nat) : WM := fun j => if 79 ≤ j ∧ (j - 79) / 13 < k ∧ M (82 + 13 * ((j - 79) / 13)) = o ∧ ((j - 79) % 13 = 6 ∨ (j - 79) % 13 = 4) then 0 else M j
def gmk (M : WM) (o : Int) : Nat → Int32
  | 0 => ii 0
  | r + 1 => if M (82 + 13 * r) = o then gmk M o r ||| (ii 1 <<< (ii r &&& 31)) else gmk M o r
theorem slo_0 (M : WM) (o : Int) : slo M o 0 = M := by
  funext j
  unfold slo
  rw [if_neg (by omega)]
theorem slo_s (M : WM) (o : Int) (k : Nat) : slo M o (k + 1) = if M (82 + 13 * k) = o then sil (slo M o k) k else slo M o k := by
  funext j
  by_cases c : M (82 + 13 * k) = o
  · rw [if_pos c]
    unfold sil up slo
    by_cases e1 : j = 83 + 13 * k
    · rw [if_pos e1]
      have e2 : (j - 79) / 13 = k := by omega
      rw [if_pos ⟨by omega, by omega, by rw [e2]; exact c, by omega⟩]
    · rw [if_neg e1]
      by_cases e2 : j = 85 + 13 * k
      · rw [if_pos e2]
        have e3 : (j - 79) / 13 = k := by omega
        rw [if_pos ⟨by omega, by omega, by rw [e3]; exact c, by omega⟩]
      · rw [if_neg e2]
        by_cases e3 : 79 ≤ j ∧ (j - 79) / 13 < k ∧ M (82 + 13 * ((j - 79) / 13)) = o ∧ ((j - 79) % 13 = 6 ∨ (j - 79) % 13 = 4)
        · rw [if_pos e3, if_pos ⟨e3.1, by omega, e3.2.2⟩]
        · rw [if_neg e3, if_neg (fun x => e3 ⟨x.1, by omega, x.2.2⟩)]
  · rw [if_neg c]
    unfold slo
    by_cases e3 : 79 ≤ j ∧ (j - 79) / 13 < k ∧ M (82 + 13 * ((j - 79) / 13)) = o ∧ ((j - 79) % 13 = 6 ∨ (j - 79) % 13 = 4)
    · rw [if_pos e3, if_pos ⟨e3.1, by omega, e3.2.2⟩]
    · rw [if_neg e3, if_neg (fun x => ?_)]
      by_cases e4 : (j - 79) / 13 = k
      · have y := x.2.2.1
        rw [e4] at y
        exact c y
      · exact e3 ⟨x.1, by omega, x.2.2⟩
theorem slo_o {M : WM} {o : Int} {k j : Nat} (h : j < 79 ∨ ((j - 79) % 13 ≠ 6 ∧ (j - 79) % 13 ≠ 4)) : slo M o k j = M j := by
  unfold slo
  rw [if_neg (by omega)]
theorem slo_WF {M : WM} (hM : WF M) (o : Int) : ∀ k, k ≤ rn M → WF (slo M o k) := by
  intro k
  induction k with
  | zero => intro _; rw [slo_0]; exact hM
  | succ k ih =>
    intro hk
    have q := ih (by omega)
    rw [slo_s]
    by_cases c : M (82 + 13 * k) = o
    · rw [if_pos c]
      exact sil_WF q (by unfold rn; rw [slo_o (by omega)]; unfold rn at hk; omega)
    · rw [if_neg c]; exact q
theorem gmk_gb {M : WM} {o : Int} {q : Nat} (hq : q < 12) : ∀ k, k ≤ 12 → gb (gmk M o k) q = decide (q < k ∧ M (82 + 13 * q) = o) := by
  intro k
  induction k with
  | zero => intro _; rw [gmk, gb0 q hq, decide_eq_false (by omega)]
  | succ k ih =>
    intro hk
    have i := ih (by omega)
    rw [gmk]
    by_cases c : M (82 + 13 * k) = o
    · rw [if_pos c, gb_or, i, gb1 k (by omega) q hq]
      by_cases e : q = k
      · subst e
        rw [decide_eq_true (show q = q from rfl), decide_eq_true (show q < q + 1 ∧ M (82 + 13 * q) = o from ⟨by omega, c⟩)]
        simp
      · rw [decide_eq_false e, Bool.or_false]
        congr 1
        apply propext
        constructor
        · intro x; exact ⟨by omega, x.2⟩
        · intro x; exact ⟨by omega, x.2⟩
    · rw [if_neg c, i]
      congr 1
      apply propext
      constructor
      · intro x; exact ⟨by omega, x.2⟩
      · intro x
        refine ⟨?_, x.2⟩
        by_cases e : q = k
        · subst e; exact absurd x.2 c
        · omega
theorem slo_DA {M : WM} (hM : WF M) (o : Int) : DA (Dg (slo M o (rn M)) (ii 0) false) (Dg M (gmk M o (rn M)) false) := by
  have rb := rn_bd hM.1
  have zb := zn_bd hM.1
  refine DA_of hM (slo_o (by omega)) (slo_o (by omega)) (fun z hz j h1 h2 => slo_o (by omega)) (fun q hq => slo_o (by omega)) (fun q k hq hk => ?_)
  rw [gb0 q (by omega), gmk_gb (by omega) (rn M) rb]
  have hw := wwr hM.1 hq
  by_cases e : M (82 + 13 * q) = o
  · have a1 : slo M o (rn M) (83 + 13 * q) = 0 := by
      unfold slo
      have d : (83 + 13 * q - 79) / 13 = q := by omega
      rw [if_pos ⟨by omega, by omega, by rw [d]; exact e, by omega⟩]
    have a2 : slo M o (rn M) (85 + 13 * q) = 0 := by
      unfold slo
      have d : (85 + 13 * q - 79) / 13 = q := by omega
      rw [if_pos ⟨by omega, by omega, by rw [d]; exact e, by omega⟩]
    have np : stp (slo M o (rn M)) q = 0 := by unfold stp; rw [a2]; rfl
    have lu0 : lu (slo M o (rn M)) q k = 0 := by
      unfold lu
      by_cases c : k = 3
      · rw [if_pos c, if_neg (by rw [a1]; omega)]
      · rw [if_neg c, if_neg (by omega)]
    rw [lu0, decide_eq_true ⟨hq, e⟩]
    simp
  · have oo : ∀ j, 79 + 13 * q ≤ j → j < 92 + 13 * q → slo M o (rn M) j = M j := fun j h1 h2 => by
      unfold slo
      have d : (j - 79) / 13 = q := by omega
      rw [if_neg (fun x => e (by have y := x.2.2.1; rw [d] at y; exact y))]
    rw [lu_c oo hw hk, decide_eq_false (fun x => e x.2)]
    refine ⟨rfl, fun _ => ?_⟩
    rw [li_c oo (slo_o (by omega)) hk, flr_c hM.1 hq (slo_o (by omega)) (fun k hk => slo_o (by omega))]
section
variable {mm m' : Mem} {s : ST}
theorem so2 {ob : Nat} {M : WM} (hM : WF M) {o : Int} (h1 : -2147483648 ≤ o) (h2 : o < 2147483648) : ∀ (d r n : Nat) (m : Mem), r + d = rn M → d < n → OK m ob (slo M o r) → ∃ m', FrO ob m m' ∧ OK m' ob (slo M o (rn M)) ∧ f2_silenceOwner_l2 n ob (ii o) (ii r) m = some m' := by
  have rb := rn_bd hM.1
  intro d
  induction d with
  | zero =>
    intro r n m hr hdn hO
    obtain ⟨q, rfl⟩ : ∃ q, n = q + 1 := ⟨n - 1, by omega⟩
    have e : r = rn M := by omega
    refine ⟨m, FrO.rf _ _, e ▸ hO, ?_⟩
    rw [f2_silenceOwner_l2, hO.n, slo_o (by omega), rn_c hM.1, if_neg (inlt (by omega) (by omega) (by omega))]
  | succ d ih =>
    intro r n m hr hdn hO
    obtain ⟨q, rfl⟩ : ∃ q, n = q + 1 := ⟨n - 1, by omega⟩
    have ow := (wwr hM.1 (r := r) (by omega)).2.2.2.1
    rw [f2_silenceOwner_l2, hO.n, slo_o (j := 1) (by omega), rn_c hM.1, if_pos (ilt (by omega) (by omega) (by omega)), o_ow hO (by omega), bd_some, slo_o (j := 82 + 13 * r) (by omega)]
    unfold f2_silenceOwner_j27
    have ss := slo_s M o r
    by_cases c : M (82 + 13 * r) = o
    · rw [if_pos c] at ss
      obtain ⟨m1, g1, g2, g3⟩ := silence_ok hO (r := r) (by omega)
      rw [← ss] at g2
      obtain ⟨m2, k1, k2, k3⟩ := ih (r + 1) q m1 (by omega) (by omega) g2
      refine ⟨m2, fun c hc => by rw [k1 c hc, g1 c hc], k2, ?_⟩
      rw [if_pos (by rw [c]), g3, bd_some, iSu, nm_eq]
      exact k3
    · rw [if_neg c] at ss
      rw [← ss] at hO
      obtain ⟨m2, k1, k2, k3⟩ := ih (r + 1) q m (by omega) (by omega) hO
      refine ⟨m2, k1, k2, ?_⟩
      rw [if_neg (ine c (by omega) (by omega) h1 h2), iSu, nm_eq]
      exact k3
theorem silenceOwner_ok {ob : Nat} {M : WM} (h : OK mm ob M) (hM : WF M) {o : Int} (h1 : -2147483648 ≤ o) (h2 : o < 2147483648) : ∃ m', FrO ob mm m' ∧ OK m' ob (slo M o (rn M)) ∧ f2_silenceOwner mm ob (ii o) = some m' := by
  unfold f2_silenceOwner
  rw [l0]
  exact so2 hM h1 h2 (rn M) 0 FU mm (by omega) (by have := rn_bd hM.1; unfold FU; omega) (by rw [slo_0]; exact h)
def pvS (M : WM) (o z : Int) : Int := if (0 ≤ o ∧ o ≤ 5) ∧ (0 ≤ z ∧ z < M 0) then (if M 2 < (Pz (Dc M) z.toNat : Int) then 0 else if M 2 < (Pz (Dg M (gmk M o (rn M)) false) z.toNat : Int) then 1 else 0) else -1
theorem c_pivotal (h : CI mm s) (hs : SW s) {a z : Int} (h1 : -2147483648 ≤ a) (h2 : a < 2147483648) (h3 : -2147483648 ≤ z) (h4 : z < 2147483648) : ∃ m', f6_pivotal mm (ii a) (ii z) = some (ii (pvS (sM s) a z), m') ∧ Fcl mm m' ∧ CI m' s := by
  have hzn := hs.1.1.zn
  have zc := zn_c hs.1.1
  have ce := hs.1.1.ce
  unfold f6_pivotal pvS
  rw [l0, l5, f6_within_ok h1 h2 (by omega) (by omega) (by omega) (by omega), bd_some, f5_has_ok h.z hzn h3 h4, bd_some, l1, ii_neg]
  by_cases c : 0 ≤ a ∧ a ≤ 5
  · rw [if_pos c, if_neg (by decide)]
    by_cases d : 0 ≤ z ∧ z < sM s 0
    · rw [if_pos d, if_neg (by decide), if_pos ⟨c, d⟩]
      obtain ⟨y, rfl⟩ := Int.eq_ofNat_of_zero_le d.1
      obtain ⟨m0, a1, a2, a3, a4⟩ := c_clear h hs
      obtain ⟨m1, f1, f2, f3⟩ := c_trial a3
      obtain ⟨m2, g1, g2, g3⟩ := silenceOwner_ok f3.2.2 hs.1 h1 h2
      have hM' := slo_WF hs.1 a (rn (sM s)) (Nat.le_refl _)
      have A2 : AK m2 44 (slo (sM s) a (rn (sM s))) := f3.uo g1 g2 (fun j hj => by have := zj_o hj; exact slo_o (by omega))
      obtain ⟨m3, k1, k2, k3, k4⟩ := c_try A2 hM'
      have F := (f2.tr (fo53 g1)).tr k2
      refine ⟨m3, ?_, a2.tr (ftr_cl F), a3.tr F⟩
      have hy : y < zn (slo (sM s) a (rn (sM s))) := by unfold zn; rw [slo_o (by omega)]; omega
      have e := (DA_PN (slo_DA hs.1 a) (Dg_WD hM' _ _) (z := y) hy).1
      have t : m3 64 y = _ := (k4.2.1 y hy).1
      have e' : Pz (Dc (slo (sM s) a (rn (sM s)))) y = Pz (Dg (sM s) (gmk (sM s) a (rn (sM s))) false) y := e
      rw [e'] at t
      have t0 : m3 35 y = ii (Pz (Dc (sM s)) y) := by rw [F 35 (by omega)]; exact (a4.2.1 y (by omega)).1
      have tc : m3 24 1 = ii (sM s 2) := by rw [F 24 (by omega)]; exact (a3.o).c
      have b0 := (PN_9 (Dg_WD hs.1 (ii 0) false) (z := y) (show y < zn (sM s) by omega)).2.2
      have b1 := (PN_9 (Dg_WD hs.1 (gmk (sM s) a (rn (sM s))) false) (z := y) (show y < zn (sM s) by omega)).2.2
      have b0 : Pz (Dc (sM s)) y ≤ 9999 := b0
      rw [a1, bd_some, f1, bd_some, g3, bd_some, k1, bd_some, nm_eq, at_i m3 (q := 35) (k := y) (n := 6) (by decide) (by omega) (by omega), bd_some, at_i m3 (q := 64) (k := y) (n := 6) (by decide) (by omega) (by omega), bd_some, t, t0, tc, Int.toNat_natCast]
      by_cases e1 : sM s 2 < (Pz (Dc (sM s)) y : Int)
      · rw [if_pos (ilt e1 (by omega) (by omega)), if_pos e1]
      · rw [if_neg (inlt (by omega) (by omega) (by omega)), if_neg e1]
        by_cases e2 : sM s 2 < (Pz (Dg (sM s) (gmk (sM s) a (rn (sM s))) false) y : Int)
        · rw [if_pos (ilt e2 (by omega) (by omega)), if_pos e2]
        · rw [if_neg (inlt (by omega) (by omega) (by omega)), if_neg e2]
    · refine ⟨mm, ?_, Fcl.rf mm, h⟩
      rw [if_neg d, if_pos rfl, if_neg (fun x => d x.2)]
  · refine ⟨mm, ?_, Fcl.rf mm, h⟩
    rw [if_neg c, if_pos rfl, if_neg (fun x => c x.1)]
theorem p52 (hs : SW s) {a : Int} (h1 : -2147483648 ≤ a) (h2 : a < 2147483648) (x2 x3 : Int32) : ∀ (d r n : Nat) (m : Mem), r + d = rn (sM s) → d < n → RI m s → m 0 5 = gmk (sM s) a r → m 0 6 = ii 0 → ∃ m1, Frf m m1 ∧ RI m1 s ∧ m1 0 5 = gmk (sM s) a (rn (sM s)) ∧ m1 0 6 = ii 0 ∧ f7_pivotal_l52 n (ii a) x2 x3 (ii r) m = bd (f7_clears m1) (fun r8 => if x3 = ii 0 then rdc 7 x2 (nm (r8 7 x2.toNatClampNeg) (fun v9 => rdc 1 (ii 2) (nm (r8 1 (ii 2).toNatClampNeg) (fun v10 => if v10 < v9 then some (ii 1, r8) else some (ii 0, r8))))) else some (ii 0, r8)) := by
  have rb := rn_bd hs.1.1
  intro d
  induction d with
  | zero =>
    intro r n m hr hdn hR h5 h6
    obtain ⟨q, rfl⟩ : ∃ q, n = q + 1 := ⟨n - 1, by omega⟩
    have e : r = rn (sM s) := by omega
    refine ⟨m, Frf.rf m, hR, e ▸ h5, h6, ?_⟩
    rw [f7_pivotal_l52, l1, rd1 hR.1 (k := 1) (by omega) (by omega), rn_c hs.1.1, if_neg (inlt (by omega) (by omega) (by omega)), l0, l2]
  | succ d ih =>
    intro r n m hr hdn hR h5 h6
    obtain ⟨q, rfl⟩ : ∃ q, n = q + 1 := ⟨n - 1, by omega⟩
    have ow := (wwr hs.1.1 (r := r) (by omega)).2.2.2.1
    rw [f7_pivotal_l52, l1, rd1 hR.1 (k := 1) (by omega) (by omega), rn_c hs.1.1, if_pos (ilt (by omega) (by omega) (by omega)), l3, f7_ofResource_ok hR.1 (r := r) (by omega) (k := 3) (by omega) (j := 82 + 13 * r) (by omega) (by omega), bd_some]
    unfold f7_pivotal_j87
    have go : ∀ g : Int32, g = gmk (sM s) a (r + 1) → ∃ m1, Frf m m1 ∧ RI m1 s ∧ m1 0 5 = gmk (sM s) a (rn (sM s)) ∧ m1 0 6 = ii 0 ∧ f7_pivotal_l52 q (ii a) x2 x3 (ii (r + 1 : Nat)) (up2 m 0 5 g) = bd (f7_clears m1) (fun r8 => if x3 = ii 0 then rdc 7 x2 (nm (r8 7 x2.toNatClampNeg) (fun v9 => rdc 1 (ii 2) (nm (r8 1 (ii 2).toNatClampNeg) (fun v10 => if v10 < v9 then some (ii 1, r8) else some (ii 0, r8))))) else some (ii 0, r8)) := by
      intro g hg
      obtain ⟨m1, k1, k2⟩ := ih (r + 1) q (up2 m 0 5 g) (by omega) (by omega) (hR.u0 (by omega) _) (by rw [up2_at, hg]) (by rw [up2_k _ _ _ _ (by omega)]; exact h6)
      exact ⟨m1, (frf_u0 m 5 g).tr k1, k2⟩
    by_cases c : sM s (82 + 13 * r) = a
    · rw [if_pos (by rw [c]), h5, nm_eq, iSu, nm_eq]
      exact go _ (by rw [gmk, if_pos c])
    · rw [if_neg (ine c (by omega) (by omega) h1 h2), h5, nm_eq, iSu, nm_eq, Int32.or_zero]
      exact go _ (by rw [gmk, if_neg c])
theorem r_pivotal (h : RI mm s) (hs : SW s) {a z : Int} (h1 : -2147483648 ≤ a) (h2 : a < 2147483648) (h3 : -2147483648 ≤ z) (h4 : z < 2147483648) : ∃ m', f7_pivotal mm (ii a) (ii z) = some (ii (pvS (sM s) a z), m') ∧ Frf mm m' ∧ RI m' s := by
  have hzn := hs.1.1.zn
  have zc := zn_c hs.1.1
  have ce := hs.1.1.ce
  have h0 := h.u0 (k := 0) (by omega) (ii 0)
  unfold f7_pivotal f7_pivotal_j48 pvS
  rw [l0, nm_eq, l5, f7_in_ok h1 h2 (by omega) (by omega) (by omega) (by omega), bd_some, f7_isZone_ok h0.1 hzn h3 h4, bd_some, l1, ii_neg, l2]
  by_cases c : 0 ≤ a ∧ a ≤ 5
  · rw [if_pos c, if_neg (by decide)]
    by_cases d : 0 ≤ z ∧ z < sM s 0
    · rw [if_pos d, if_neg (by decide), if_pos ⟨c, d⟩]
      obtain ⟨y, rfl⟩ := Int.eq_ofNat_of_zero_le d.1
      obtain ⟨m1, a1, a2, a3, a4, a5⟩ := r_clearsAll h0 hs
      have hy : y < zn (sM s) := by omega
      have b0 := (PN_9 (Dg_WD hs.1 (ii 0) false) (z := y) hy).2.2
      have b1 := (PN_9 (Dg_WD hs.1 (gmk (sM s) a (rn (sM s))) false) (z := y) hy).2.2
      have b0 : Pz (Dc (sM s)) y ≤ 9999 := b0
      have run : ∀ x3 : Int, (x3 = 0 ∨ x3 = 1) → ∃ m', f7_pivotal_l52 FU (ii a) (ii y) (ii x3) (ii 0) m1 = some (ii (if x3 = 0 then (if sM s 2 < (Pz (Dg (sM s) (gmk (sM s) a (rn (sM s))) false) y : Int) then 1 else 0) else 0), m') ∧ Frf m1 m' ∧ RI m' s := by
        intro x3 hx
        obtain ⟨m2, k1, k2, k3, k4, k5⟩ := p52 hs h1 h2 (ii y) (ii x3) (rn (sM s)) 0 FU m1 (by omega) (by have := rn_bd hs.1.1; unfold FU; omega) a3 a4.2.1 a4.2.2
        obtain ⟨m3, q1, q2, q3, q4, q5, q6⟩ := r_clear k2 hs (g := gmk (sM s) a (rn (sM s))) (nf := false) k3 k4
        refine ⟨m3, ?_, k1.tr q2, q3⟩
        have k5' : f7_pivotal_l52 FU (ii a) (ii y) (ii x3) (ii 0) m1 = _ := k5
        rw [k5', q1, bd_some]
        rcases hx with rfl | rfl
        · rw [if_pos rfl, if_pos rfl, rdq m3 (q := 7) (n := 6) (by decide) (k := y) (by omega) (by omega) rfl, (q5.1 y hy).1, rd1 q3.1 (k := 2) (by omega) (by omega)]
          by_cases e2 : sM s 2 < (Pz (Dg (sM s) (gmk (sM s) a (rn (sM s))) false) y : Int)
          · rw [if_pos (ilt e2 (by omega) (by omega)), if_pos e2]
          · rw [if_neg (inlt (by omega) (by omega) (by omega)), if_neg e2]
        · rw [if_neg (by decide), if_neg (by omega)]
      rw [a1, bd_some, rdq m1 (q := 7) (n := 6) (by decide) (k := y) (by omega) (by omega) rfl, (a5.1 y hy).1, rd1 a3.1 (k := 2) (by omega) (by omega), Int.toNat_natCast]
      have F0 := (frf_u0 mm 0 (ii 0)).tr a2
      by_cases e1 : sM s 2 < (Pz (Dc (sM s)) y : Int)
      · rw [if_pos (ilt e1 (by omega) (by omega)), if_pos e1]
        obtain ⟨m3, t1, t2, t3⟩ := run 1 (Or.inr rfl)
        exact ⟨m3, t1, F0.tr t2, t3⟩
      · rw [if_neg (inlt (by omega) (by omega) (by omega)), if_neg e1]
        obtain ⟨m3, t1, t2, t3⟩ := run 0 (Or.inl rfl)
        exact ⟨m3, t1, F0.tr t2, t3⟩
    · refine ⟨_, ?_, frf_u0 mm 0 (ii 0), h0⟩
      rw [if_neg d, if_pos rfl, if_neg (fun x => d x.2)]
  · refine ⟨_, ?_, frf_u0 mm 0 (ii 0), h0⟩
    rw [if_neg c, if_pos rfl, if_neg (fun x => c x.1)]
/-! wider -/
theorem CLS.fr {x : Nat} {M : WM} {m : Mem} (h : CLS m x M) (hf : ∀ c, x + 20 ≤ c → c ≤ x + 28 → m' c = m c) : CLS m' x M := by
  refine ⟨h.1.fr (hf _ (by omega) (by omega)) (hf _ (by omega) (by omega)), fun y hy => ?_, fun i hi => ?_⟩
  · rw [hf _ (by omega) (by omega), hf _ (by omega) (by omega), hf _ (by omega) (by omega)]; exact h.2.1 y hy
  · rw [hf _ (by omega) (by omega)]; exact h.2.2 i hi
end
theorem wor_c {M M' : WM} {z : Nat} (h : ∀ k, k < 4 → pu M' z k = pu M z k ∧ pp M' z k = pp M z k) (hn : npt M' z = npt M z) (hw : ZW M z) (u : Int) : wor M' z u = wor M z u := by
  have np := npt_le hw
  have g : fk M' z u = fk M z u := by
    unfold fk
    rw [hn]
    exact ffl_cg _ _ _ _ (fun i _ hi => by
      show u ≤ pu M' z i ↔ u ≤ pu M z i
      rw [(h i (by omega)).1])
  have gl := ffl_le (fun k => u ≤ pu M z k) (npt M z) 0
  have gl : fk M z u ≤ npt M z := by unfold fk; omega
  unfold wor
  rw [g, hn]
  by_cases c : fk M z u = npt M z
  · rw [if_pos c, if_pos c]
  · rw [if_neg c, if_neg c]
    by_cases d : u < 1
    · rw [if_pos d, if_pos d]
    · rw [if_neg d, if_neg d]
      unfold seg
      by_cases e : fk M z u = 0
      · rw [if_pos e, if_pos e, (h 0 (by omega)).2]
      · rw [if_neg e, if_neg e, (h (fk M z u) (by omega)).1, (h (fk M z u) (by omega)).2, (h (fk M z u - 1) (by omega)).1, (h (fk M z u - 1) (by omega)).2]
