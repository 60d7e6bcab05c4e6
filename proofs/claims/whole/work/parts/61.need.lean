/-! the least wider IN that a zone needs -/
theorem Wt_q {M M' : WM} {z : Nat} (h : ∀ k, k < 4 → pu M' z k = pu M z k ∧ pp M' z k = pp M z k) (e : npt M' z = npt M z) (hw : ZW M z) (p : Int) : Wt M' z p = Wt M z p := by
  have hn := npt_le hw
  have g : gk M' z p = gk M z p := by
    unfold gk
    rw [e]
    exact ffl_cg _ _ _ _ (fun i _ hi => by
      show pp M' z i < p ↔ pp M z i < p
      rw [(h i (by omega)).2])
  have gl := gk_le M z p
  unfold Wt
  rw [g, e]
  by_cases c : gk M z p = npt M z
  · rw [if_pos c, if_pos c]
    unfold wan
    rw [e]
    by_cases d : npt M z = 0
    · rw [if_pos d, if_pos d]
    · rw [if_neg d, if_neg d, (h _ (by omega)).1]
  · rw [if_neg c, if_neg c]
    by_cases d : gk M z p = 0
    · rw [if_pos d, if_pos d]
    · rw [if_neg d, if_neg d]
      unfold wsg
      rw [(h (gk M z p) (by omega)).1, (h (gk M z p) (by omega)).2, (h (gk M z p - 1) (by omega)).1, (h (gk M z p - 1) (by omega)).2]
def inM (M : WM) (z : Nat) (v : Int) : WM := up M (8 + 12 * z) v
theorem inM_o {M : WM} {z : Nat} {v : Int} {j : Nat} (h : j ≠ 8 + 12 * z) : inM M z v j = M j := up_ne M _ h
theorem inM_in (M : WM) (z : Nat) (u v : Int) : inM (inM M z u) z v = inM M z v := by
  funext j
  by_cases e : j = 8 + 12 * z
  · rw [e]; exact (up_eq _ _ _).trans (up_eq _ _ _).symm
  · rw [inM_o e, inM_o e, inM_o e]
theorem inM_me (M : WM) (z : Nat) : inM M z (M (8 + 12 * z)) = M := by
  funext j
  by_cases e : j = 8 + 12 * z
  · rw [e]; exact up_eq _ _ _
  · rw [inM_o e]
theorem inM_WF {M : WM} (hM : WF M) {z : Nat} (hz : z < zn M) {v : Int} (hv : 0 ≤ v ∧ v ≤ 9999) : WF (inM M z v) := WF_lim hM hz (Or.inl rfl) hv
theorem inM_n {M : WM} {z : Nat} {v : Int} : zn (inM M z v) = zn M ∧ rn (inM M z v) = rn M := by
  unfold zn rn
  rw [inM_o (by omega), inM_o (by omega)]
  exact ⟨rfl, rfl⟩
theorem inM_DA {M : WM} (hM : WF M) {z : Nat} (hz : z < zn M) (v : Int) : DA (Dc (inM M z v)) (dset (Dc M) z v) := by
  have zb := zn_bd hM.1
  have n1 := (inM_n (M := M) (z := z) (v := v)).1
  have n2 := (inM_n (M := M) (z := z) (v := v)).2
  refine ⟨n1, n2, fun y hy => ?_, fun r hr => ?_, fun i hi => ?_⟩
  · have hy : y < zn M := by rw [← n1]; exact hy
    refine ⟨?_, ?_, ?_, fun p => ?_⟩
    · show (inM M z v (7 + 12 * y)).toNat = (M (7 + 12 * y)).toNat
      rw [inM_o (by omega)]
    · rw [dset_in]
      show inM M z v (8 + 12 * y) = if y = z then v else M (8 + 12 * y)
      by_cases e : y = z
      · rw [if_pos e, e]; exact up_eq _ _ _
      · rw [if_neg e, inM_o (by omega)]
    · exact inM_o (by omega)
    · have e10 : inM M z v (10 + 12 * y) = M (10 + 12 * y) := inM_o (by omega)
      exact Wt_q (M' := inM M z v) (fun k hk => ⟨inM_o (by omega), inM_o (by omega)⟩) (by unfold npt; rw [e10]) (wwz hM.1 hy) p
  · have hr : r < rn M := by rw [← n2]; exact hr
    show (inM M z v (79 + 13 * r)).toNat = (M (79 + 13 * r)).toNat
    rw [inM_o (by omega)]
  · have hi : i < 4 * rn M := by rw [← n2]; exact hi
    have hw := wwr hM.1 (r := i / 4) (by omega)
    have oo : ∀ j, 79 + 13 * (i / 4) ≤ j → j < 92 + 13 * (i / 4) → inM M z v j = M j := fun j h1 h2 => inM_o (by omega)
    have eU : Ug (inM M z v) (ii 0) i = Ug M (ii 0) i := by
      unfold Ug
      rw [n2, if_pos hi, if_pos hi, lu_c oo hw (by omega)]
    refine ⟨eU, ?_⟩
    show Jg (inM M z v) (ii 0) false i = Jg M (ii 0) false i
    have e1 : flr (inM M z v) (i / 4) = flr M (i / 4) := flr_c hM.1 (by omega) (oo _ (by omega) (by omega)) (fun k hk => inM_o (by omega))
    unfold Jg
    rw [eU, e1, li_c oo (inM_o (by omega)) (by omega)]
def nw (M : WM) (z : Nat) (v : Int) : Prop := Pz (Dc (inM M z v)) (dou (Dc M) z) < Pz (Dc (inM M z v)) z
theorem nw_le {M : WM} (hM : WF M) {z : Nat} (h1 : 1 ≤ z) (hz : z < zn M) {v w : Int} (h0 : 0 ≤ v) (hvw : v ≤ w) (hw : w ≤ 9999) (h : nw M z w) : nw M z v := by
  have hD : WD (Dc M) := Dg_WD hM (ii 0) false
  have zd : z < dn (Dc M) := hz
  have ho := hD.ou (z := z) h1 zd
  have key : ∀ u : Int, 0 ≤ u → u ≤ 9999 → (nw M z u ↔ Pz (dset (Dc M) z u) (dou (Dc M) z) < Pz (dset (Dc M) z u) z) := by
    intro u u1 u2
    have hW : WD (Dc (inM M z u)) := Dg_WD (inM_WF hM hz ⟨u1, u2⟩) (ii 0) false
    have a := inM_DA hM hz u
    have n1 : dn (Dc (inM M z u)) = zn M := inM_n.1
    unfold nw
    rw [(DA_PN a hW (z := z) (by rw [n1]; exact hz)).1, (DA_PN a hW (z := dou (Dc M) z) (by rw [n1]; omega)).1]
  obtain ⟨k, hk⟩ := Int.eq_ofNat_of_zero_le (show 0 ≤ w - v by omega)
  have e : w = v + k := by omega
  subst e
  exact (key v h0 (by omega)).mpr (nar_le hD h1 zd k v h0 hw ((key _ (by omega) hw).mp h))
/-- which it is -/
def NL (M : WM) (z : Nat) (w : Nat) : Prop := w ≤ 10000 ∧ (∀ p : Nat, p < w → nw M z p) ∧ (w < 10000 → ¬ nw M z w)
theorem NL_u {M : WM} {z a b : Nat} (h : NL M z a) (h2 : NL M z b) : a = b := by
  by_cases c : a < b
  · exact absurd (h2.2.1 a c) (h.2.2 (by have := h2.1; omega))
  · by_cases d : b < a
    · exact absurd (h.2.1 b d) (h2.2.2 (by have := h.1; omega))
    · omega
def nv (w : Nat) : Int := if w = 10000 then -1 else w
section
variable {mm m' : Mem} {s : ST}
theorem f6_isNarrow_ok {M : WM} {z : Nat} {u v : Int} (h : AK mm 44 (inM M z u)) (hM : WF M) (h1 : 1 ≤ z) (hz : z < zn M) (hv : 0 ≤ v ∧ v ≤ 9999) : ∃ m' x, f6_isNarrow mm (ii z) (ii v) = some (ii x, m') ∧ Ftr mm m' ∧ AK m' 44 (inM M z v) ∧ ((x = 1 ∧ nw M z v) ∨ (x = 0 ∧ ¬ nw M z v)) := by
  have zb := zn_bd hM.1
  have q := cz_o z (by omega)
  have zu := zk_up h.2.1 q.2.1 q.2.2.2.2.2.1 v
  have hz1 : ZK (up2 mm (44 + 1 + 1 + 2) z (ii v)) (44 + 1 + 1) (inM (inM M z u) z v) := zu
  rw [inM_in] at hz1
  have fz : FrZ (44 + 1 + 1) mm (up2 mm (44 + 1 + 1 + 2) z (ii v)) := (FrZ.rf _ mm).u (by omega) _ _
  have A1 : AK (up2 mm (44 + 1 + 1 + 2) z (ii v)) 44 (inM M z v) := h.uz fz hz1 (fun j hj => by have := oj_z hj; rw [inM_o (by omega), inM_o (by omega)])
  have hM' := inM_WF hM hz hv
  obtain ⟨m3, k1, k2, k3, k4⟩ := c_try A1 hM'
  have hw := wwz hM.1 hz
  have hD : WD (Dc M) := Dg_WD hM (ii 0) false
  have ho := hD.ou (z := z) h1 (show z < zn M from hz)
  have o := (wwz hM'.1 (z := z) (by rw [inM_n.1]; exact hz)).1
  have eo : inM M z v (7 + 12 * z) = (dou (Dc M) z : Int) := by
    have e : inM M z v (7 + 12 * z) = M (7 + 12 * z) := inM_o (by omega)
    have e2 : dou (Dc M) z = (M (7 + 12 * z)).toNat := rfl
    rw [e] at o ⊢
    omega
  have po : f6_at m3 47 (ii z) = some (ii (dou (Dc M) z)) := by
    have t := z_out k3.2.1 (z := z) (by omega) (by omega)
    rw [eo] at t
    exact t
  have hW : WD (Dc (inM M z v)) := Dg_WD hM' (ii 0) false
  have n1 : dn (Dc (inM M z v)) = zn M := inM_n.1
  have t1 : m3 64 z = ii (Pz (Dc (inM M z v)) z) := (k4.2.1 z (by rw [inM_n.1]; exact hz)).1
  have t2 : m3 64 (dou (Dc M) z) = ii (Pz (Dc (inM M z v)) (dou (Dc M) z)) := (k4.2.1 _ (by rw [inM_n.1]; omega)).1
  have b1 := (PN_9 hW (z := z) (by rw [n1]; exact hz)).2.2
  have b2 := (PN_9 hW (z := dou (Dc M) z) (by rw [n1]; omega)).2.2
  have P : f6_put mm 48 (ii z) (ii v) = some (up2 mm (44 + 1 + 1 + 2) z (ii v)) := put_i mm (q := 48) (k := z) (n := 6) (by decide) (by omega) (by omega) (ii v)
  have g : ∀ x : Int, f6_isNarrow mm (ii z) (ii v) = (if ii (Pz (Dc (inM M z v)) (dou (Dc M) z)) < ii (Pz (Dc (inM M z v)) z) then some (ii 1, m3) else some (ii 0, m3)) := by
    intro x
    unfold f6_isNarrow
    rw [P, bd_some, k1, bd_some, at_i m3 (q := 64) (k := z) (n := 6) (by decide) (by omega) (by omega), bd_some, po, bd_some, at_i m3 (q := 64) (k := dou (Dc M) z) (n := 6) (by decide) (by omega) (by omega), bd_some, t1, t2, l0, l1]
  have F : Ftr mm m3 := (fz46 fz).tr k2
  by_cases c : nw M z v
  · have c' : Pz (Dc (inM M z v)) (dou (Dc M) z) < Pz (Dc (inM M z v)) z := c
    exact ⟨m3, 1, by rw [g 0, if_pos (ilt (by omega) (by omega) (by omega))], F, k3, Or.inl ⟨rfl, c⟩⟩
  · have c' : ¬ Pz (Dc (inM M z v)) (dou (Dc M) z) < Pz (Dc (inM M z v)) z := c
    exact ⟨m3, 0, by rw [g 0, if_neg (inlt (by omega) (by omega) (by omega))], F, k3, Or.inr ⟨rfl, c⟩⟩
theorem nw42 {M : WM} (hM : WF M) {z : Nat} (h1 : 1 ≤ z) (hz : z < zn M) : ∀ (k n y : Nat) (u : Int) (m : Mem), k ≤ 14 → k < n → AK m 44 (inM M z u) → y ≤ 10000 → (y = 0 ∨ nw M z ((y : Int) - 1)) → ¬ (y + 2 ^ k ≤ 10000 ∧ nw M z ((y : Int) + ((2 ^ k : Nat) : Int) - 1)) → ∃ (m' : Mem) (w : Nat), Ftr m m' ∧ w ≤ 10000 ∧ (w = 0 ∨ nw M z ((w : Int) - 1)) ∧ ¬ (w < 10000 ∧ nw M z w) ∧ f6_needs_l42 n (ii z) (ii y) (ii ((2 ^ k / 2 : Nat) : Int)) m = some (ii (nv w), m') := by
  intro k
  induction k with
  | zero =>
    intro n y u m hk hkn hA hy hq hr
    obtain ⟨q, rfl⟩ : ∃ q, n = q + 1 := ⟨n - 1, by omega⟩
    refine ⟨m, y, fun _ _ => rfl, hy, hq, fun x => hr ⟨by omega, ?_⟩, ?_⟩
    · have e : (y : Int) + ((2 ^ 0 : Nat) : Int) - 1 = y := by omega
      rw [e]; exact x.2
    · rw [f6_needs_l42, l0, if_neg (by decide), l9999, lm1]
      unfold nv
      by_cases c : y = 10000
      · rw [if_pos (ilt (by omega) (by omega) (by omega)), if_pos c]
      · rw [if_neg (inlt (by omega) (by omega) (by omega)), if_neg c]
  | succ k ih =>
    intro n y u m hk hkn hA hy hq hr
    obtain ⟨q, rfl⟩ : ∃ q, n = q + 1 := ⟨n - 1, by omega⟩
    obtain ⟨p1, p2, p3⟩ := pw_s k
    have pk : 2 ^ k ≤ 8192 := by
      have := Nat.pow_le_pow_right (n := 2) (by omega) (show k ≤ 13 by omega)
      omega
    have sh := sh1 k (by omega)
    have ey : (y : Int) + ((2 ^ (k + 1) / 2 : Nat) : Int) = ((y + 2 ^ k : Nat) : Int) := by omega
    rw [f6_needs_l42, l0, if_pos (ilt (by omega) (by omega) (by omega)), l10000, ii_add, ey]
    unfold f6_needs_j72
    by_cases c : 10000 < y + 2 ^ k
    · rw [if_pos (ilt (by omega) (by omega) (by omega)), sh, nm_eq]
      exact ih q y u m (by omega) (by omega) hA hy hq (fun x => by have := x.1; omega)
    · obtain ⟨m1, x, f1, f2, f3, f4⟩ := f6_isNarrow_ok (v := ((y + 2 ^ k : Nat) : Int) - 1) hA hM h1 hz (by omega)
      rw [if_neg (inlt (by omega) (by omega) (by omega)), sh, l1, ii_sub, f1, bd_some]
      rcases f4 with ⟨rfl, f4⟩ | ⟨rfl, f4⟩
      · obtain ⟨m2, w, g1, g2⟩ := ih q (y + 2 ^ k) _ m1 (by omega) (by omega) f3 (by omega) (Or.inr f4) (fun e => hr ⟨by omega, by
          have e3 : (y : Int) + ((2 ^ (k + 1) : Nat) : Int) - 1 = ((y + 2 ^ k : Nat) : Int) + ((2 ^ k : Nat) : Int) - 1 := by omega
          rw [e3]; exact e.2⟩)
        refine ⟨m2, w, f2.tr g1, g2.1, g2.2.1, g2.2.2.1, ?_⟩
        rw [if_neg (show ¬ ii 1 = ii 0 by decide), nm_eq, nm_eq]
        exact g2.2.2.2
      · obtain ⟨m2, w, g1, g2⟩ := ih q y _ m1 (by omega) (by omega) f3 hy hq (fun e => f4 (by
          have e3 : ((y + 2 ^ k : Nat) : Int) - 1 = (y : Int) + ((2 ^ k : Nat) : Int) - 1 := by omega
          rw [e3]; exact e.2))
        refine ⟨m2, w, f2.tr g1, g2.1, g2.2.1, g2.2.2.1, ?_⟩
        rw [if_pos (show ii 0 = ii 0 from rfl), nm_eq]
        exact g2.2.2.2
theorem rn42 (hs : SW s) {z : Nat} (h1 : 1 ≤ z) (hz : z < zn (sM s)) : ∀ (d v n : Nat) (u : Int) (m : Mem), v + d = 10000 → d + 1 < n → RI m (sset s (inM (sM s) z u)) → (∀ p : Nat, p < v → nw (sM s) z p) → ∃ m' w, NL (sM s) z w ∧ f7_needs_l42 n (ii z) (ii ((8 + 12 * z : Nat) : Int)) (ii (sM s (8 + 12 * z))) (ii (-1)) (ii v) m = some (ii (nv w), m') ∧ Frf m m' ∧ RI m' s := by
  have zb := zn_bd hs.1.1
  have back : ∀ (u : Int) (m : Mem) (x : Int32), RI m (sset s (inM (sM s) z u)) → ∃ m', f7_needs_j102 (ii ((8 + 12 * z : Nat) : Int)) (ii (sM s (8 + 12 * z))) x m = some (x, m') ∧ Frf m m' ∧ RI m' s := by
    intro u m x hR
    have w := hR.w1 (8 + 12 * z) (sM s (8 + 12 * z))
    have e : sset (sset s (inM (sM s) z u)) (up (sM (sset s (inM (sM s) z u))) (8 + 12 * z) (sM s (8 + 12 * z))) = s := by
      show ((inM (inM (sM s) z u) z (sM s (8 + 12 * z))), s.2) = s
      rw [inM_in, inM_me]
      rfl
    rw [e] at w
    refine ⟨_, ?_, frf_u1 m _ _, w⟩
    unfold f7_needs_j102
    rw [wrq m lnR.1 (k := 8 + 12 * z) (by omega) (by omega) rfl]
  intro d
  induction d with
  | zero =>
    intro v n u m hv hdn hR hp
    obtain ⟨q, rfl⟩ : ∃ q, n = q + 1 := ⟨n - 1, by omega⟩
    obtain ⟨m', b1, b2, b3⟩ := back u m (ii (-1)) hR
    refine ⟨m', 10000, ⟨by omega, fun p h => hp p (by omega), fun h => by omega⟩, ?_, b2, b3⟩
    rw [f7_needs_l42, l9999, if_pos (ilt (by omega) (by omega) (by omega)), b1]
    rfl
  | succ d ih =>
    intro v n u m hv hdn hR hp
    obtain ⟨q, rfl⟩ : ∃ q, n = q + 1 := ⟨n - 1, by omega⟩
    have w1 := hR.w1 (8 + 12 * z) v
    have e1 : sset (sset s (inM (sM s) z u)) (up (sM (sset s (inM (sM s) z u))) (8 + 12 * z) v) = sset s (inM (sM s) z v) := by
      show ((inM (inM (sM s) z u) z v), s.2) = _
      rw [inM_in]
      rfl
    rw [e1] at w1
    have hM' := inM_WF hs.1 hz (v := v) (by omega)
    obtain ⟨m2, k1, k2, k3, k4, k5⟩ := r_clearsAll w1 (hs.ups hM')
    have hD : WD (Dc (sM s)) := Dg_WD hs.1 (ii 0) false
    have ho := hD.ou (z := z) h1 (show z < zn (sM s) from hz)
    have o := (wwz hs.1.1 hz).1
    have eo : inM (sM s) z v (7 + 12 * z) = (dou (Dc (sM s)) z : Int) := by
      have e : inM (sM s) z v (7 + 12 * z) = sM s (7 + 12 * z) := inM_o (by omega)
      have e2 : dou (Dc (sM s)) z = (sM s (7 + 12 * z)).toNat := rfl
      rw [e]
      omega
    have po : f7_ofZone m2 (ii z) (ii 0) = some (ii (dou (Dc (sM s)) z)) := by
      have t := f7_ofZone_ok k3.1 (z := z) (by omega) (k := 0) (by omega) (j := 7 + 12 * z) (by omega) (i := 0) (by omega)
      have t : f7_ofZone m2 (ii z) (ii 0) = some (ii (inM (sM s) z v (7 + 12 * z))) := t
      rw [eo] at t
      exact t
    have hW : WD (Dc (inM (sM s) z v)) := Dg_WD hM' (ii 0) false
    have n1 : dn (Dc (inM (sM s) z v)) = zn (sM s) := inM_n.1
    have t1 : m2 7 z = ii (Pz (Dc (inM (sM s) z v)) z) := (k5.1 z (by show z < zn (inM (sM s) z v); rw [inM_n.1]; exact hz)).1
    have t2 : m2 7 (dou (Dc (sM s)) z) = ii (Pz (Dc (inM (sM s) z v)) (dou (Dc (sM s)) z)) := (k5.1 _ (by show dou (Dc (sM s)) z < zn (inM (sM s) z v); rw [inM_n.1]; omega)).1
    have b1 := (PN_9 hW (z := z) (by rw [n1]; exact hz)).2.2
    have b2 := (PN_9 hW (z := dou (Dc (sM s)) z) (by rw [n1]; omega)).2.2
    have F := (frf_u1 m (8 + 12 * z) (ii v)).tr k2
    rw [f7_needs_l42, l9999, if_neg (inlt (by omega) (by omega) (by omega)), lm1, if_pos rfl, wrq m lnR.1 (k := 8 + 12 * z) (by omega) (by omega) rfl, k1, bd_some, rdq m2 (q := 7) (n := 6) (by decide) (k := z) (by omega) (by omega) rfl, l0, po, bd_some, rdq m2 (q := 7) (n := 6) (by decide) (k := dou (Dc (sM s)) z) (by omega) (by omega) rfl, t1, t2]
    unfold f7_needs_j94
    by_cases c : nw (sM s) z v
    · have c' : Pz (Dc (inM (sM s) z v)) (dou (Dc (sM s)) z) < Pz (Dc (inM (sM s) z v)) z := c
      obtain ⟨m3, w, g1, g2, g3, g4⟩ := ih (v + 1) q _ m2 (by omega) (by omega) k3 (fun p h => by
        by_cases e : p = v
        · rw [e]; exact c
        · exact hp p (by omega))
      refine ⟨m3, w, g1, ?_, F.tr g3, g4⟩
      rw [if_pos (ilt (by omega) (by omega) (by omega)), iSu, nm_eq]
      exact g2
    · have c' : ¬ Pz (Dc (inM (sM s) z v)) (dou (Dc (sM s)) z) < Pz (Dc (inM (sM s) z v)) z := c
      obtain ⟨m3, g1, g2, g3⟩ := back v m2 (ii v) k3
      refine ⟨m3, v, ⟨by omega, hp, fun _ => c⟩, ?_, F.tr g2, g3⟩
      rw [if_neg (inlt (by omega) (by omega) (by omega)), iSu, nm_eq]
      obtain ⟨q', rfl⟩ : ∃ q', q = q' + 1 := ⟨q - 1, by omega⟩
      have ev : nv v = v := by unfold nv; rw [if_neg (by omega)]
      show f7_needs_l42 (q' + 1) _ _ _ _ _ _ = _
      rw [f7_needs_l42, l9999, lm1, ev]
      by_cases e : v + 1 = 10000
      · rw [if_pos (ilt (by omega) (by omega) (by omega)), g1]
      · rw [if_neg (inlt (by omega) (by omega) (by omega)), if_neg (ine (by omega) (by omega) (by omega) (by omega) (by omega)), g1]
theorem t_needs (h : CI mm s) (hr : RI mm s) (hs : SW s) {a : Int} (h1 : -2147483648 ≤ a) (h2 : a < 2147483648) : Stq mm (f6_needs mm (ii a)) (fun m => f7_needs m (ii a)) := by
  have hzn := hs.1.1.zn
  have zc := zn_c hs.1.1
  have HI : f5_hasInner mm 17 (ii a) = _ := f5_hasInner_ok h.z hzn h1 h2
  by_cases c : 1 ≤ a ∧ a < sM s 0
  · obtain ⟨z, rfl⟩ := Int.eq_ofNat_of_zero_le (show 0 ≤ a by omega)
    have hz : z < zn (sM s) := by omega
    have h1z : 1 ≤ z := by omega
    obtain ⟨m1, f1, f2, f3⟩ := c_trial h
    have A1 : AK m1 44 (inM (sM s) z (sM s (8 + 12 * z))) := by rw [inM_me]; exact f3
    obtain ⟨m2, w, g1, g2, g3, g4, g5⟩ := nw42 hs.1 h1z hz 14 FU 0 _ m1 (by omega) (by unfold FU; omega) A1 (by omega) (Or.inl rfl) (fun x => by
      have := x.1
      have e : 2 ^ 14 = 16384 := rfl
      omega)
    have hNL : NL (sM s) z w := by
      refine ⟨g2, fun p hp => ?_, fun h x => g4 ⟨h, x⟩⟩
      rcases g3 with rfl | g3
      · omega
      · exact nw_le hs.1 h1z hz (by omega) (show (p : Int) ≤ (w : Int) - 1 by omega) (by omega) g3
    refine stp_mk (v := ii (nv w)) (s' := s) hr hs ⟨m2, ?_, ftr_cl (f2.tr g1), h.tr (f2.tr g1)⟩ (fun m hm => ?_)
    · unfold f6_needs
      rw [HI, bd_some, if_pos c, l0, if_neg (by decide), f1, bd_some, l8192]
      exact g5
    · have h0 := hm.u0 (k := 0) (by omega) (ii 0)
      have h0' : RI (up2 m 0 0 (ii 0)) (sset s (inM (sM s) z (sM s (8 + 12 * z)))) := by rw [inM_me]; exact h0
      obtain ⟨m3, w', k1, k2, k3, k4⟩ := rn42 hs h1z hz 10000 0 FU _ (up2 m 0 0 (ii 0)) (by omega) (by unfold FU; omega) h0' (fun p hp => by omega)
      have ew := NL_u k1 hNL
      subst ew
      refine ⟨m3, ?_, (frf_u0 m 0 (ii 0)).tr k3, k4⟩
      show f7_needs m (ii z) = _
      unfold f7_needs
      have e8 : (7 : Int) + 12 * z + 1 = ((8 + 12 * z : Nat) : Int) := by omega
      rw [l0, nm_eq, lm1, if_neg (ine (by omega) (by omega) (by omega) (by omega) (by omega)), f7_isZone_ok h0.1 hzn h1 h2, bd_some, if_pos (show 0 ≤ (z : Int) ∧ (z : Int) < sM s 0 by omega), if_neg (by decide), l1, l7, l12, ii_mul, ii_add, ii_add, nm_eq, e8, rd1 h0.1 (k := 8 + 12 * z) (by omega) rfl]
      exact k2
  · refine stp_mk (v := ii (-1)) (s' := s) hr hs ⟨mm, ?_, Fcl.rf mm, h⟩ (fun m hm => ?_)
    · unfold f6_needs
      rw [HI, bd_some, if_neg c, l0, if_pos rfl, lm1]
    · have h0 := hm.u0 (k := 0) (by omega) (ii 0)
      refine ⟨_, ?_, frf_u0 m 0 (ii 0), h0⟩
      show f7_needs m (ii a) = _
      unfold f7_needs
      rw [l0, nm_eq, lm1]
      by_cases e : a = 0
      · rw [if_pos (by rw [e])]
      · rw [if_neg (ine e h1 h2 (by omega) (by omega)), f7_isZone_ok h0.1 hzn h1 h2, bd_some, if_neg (show ¬ (0 ≤ a ∧ a < sM s 0) by omega), if_pos rfl]
end
