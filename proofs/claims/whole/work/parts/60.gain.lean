/-! gain and best -/
def gM (M : WM) (r : Nat) (p : Int) : WM := sadd (sdp M r) r (M (80 + 13 * r)) p
theorem stp_sdp (M : WM) (r : Nat) : stp (sdp M r) r = 0 := by
  have p85 : sdp M r (85 + 13 * r) = 0 := up_eq M _ 0
  unfold stp
  rw [p85]
  rfl
theorem gM_o {M : WM} {r : Nat} {p : Int} {j : Nat} (h : j ≠ 85 + 13 * r ∧ j ≠ 86 + 13 * r ∧ j ≠ 87 + 13 * r) : gM M r p j = M j := by
  unfold gM sadd
  rw [stp_sdp, up_ne _ _ (by omega), up_ne _ _ (by omega), up_ne _ _ (by omega)]
  exact up_ne _ _ (by omega)
theorem gM_at (M : WM) (r : Nat) (p : Int) : gM M r p (85 + 13 * r) = 1 ∧ gM M r p (86 + 13 * r) = M (80 + 13 * r) ∧ gM M r p (87 + 13 * r) = p := by
  unfold gM sadd
  rw [stp_sdp]
  refine ⟨by rw [up_eq]; rfl, ?_, ?_⟩
  · rw [up_ne _ _ (by omega), up_ne _ _ (by omega), show 86 + 13 * r + 2 * 0 = 86 + 13 * r by omega, up_eq]
  · rw [up_ne _ _ (by omega), show 87 + 13 * r + 2 * 0 = 87 + 13 * r by omega, up_eq]
theorem gM_gM (M : WM) (r : Nat) (p q : Int) : gM (gM M r q) r p = gM M r p := by
  funext j
  have a := gM_at M r p
  have b := gM_at (gM M r q) r p
  by_cases e1 : j = 85 + 13 * r
  · rw [e1, a.1, b.1]
  · by_cases e2 : j = 86 + 13 * r
    · rw [e2, a.2.1, b.2.1]
      exact gM_o (by omega)
    · by_cases e3 : j = 87 + 13 * r
      · rw [e3, a.2.2, b.2.2]
      · rw [gM_o ⟨e1, e2, e3⟩, gM_o ⟨e1, e2, e3⟩, gM_o ⟨e1, e2, e3⟩]
theorem gM_WF {M : WM} (hM : WF M) {r : Nat} (hr : r < rn M) {p : Int} (hp : 0 ≤ p ∧ p ≤ 9999) : WF (gM M r p) := by
  have hw := wwr hM.1 hr
  have zb := hw.2.1
  have q := sdp_RW hw
  have e1 : rn (sdp M r) = rn M := by unfold rn; rw [show sdp M r 1 = M 1 from up_ne _ _ (by omega)]
  refine sadd_WF (sdp_WF hM hr) (by rw [e1]; exact hr) (by rw [stp_sdp]; omega) ⟨zb.1, by rw [q.2]; omega⟩ ⟨?_, hp.2⟩
  unfold lpr
  rw [stp_sdp, if_pos rfl]
  exact hp.1
theorem gM_rn {M : WM} {r : Nat} {p : Int} : rn (gM M r p) = rn M ∧ zn (gM M r p) = zn M := by
  unfold rn zn
  rw [gM_o (by omega), gM_o (by omega)]
  exact ⟨rfl, rfl⟩
def gnS (M : WM) (r : Nat) (p c : Int) : Int64 := ll (tko (Dc (gM M r p)) r * ((Pz (Dc (gM M r p)) (dz (Dc (gM M r p)) r) : Int) - c))
section
variable {mm m' : Mem} {s : ST}
theorem c_gainAt {M : WM} (h : AK mm 44 M) (hM : WF M) {r : Nat} (hr : r < rn M) {p c : Int} (hp : 0 ≤ p ∧ p ≤ 9999) (hc : 0 ≤ c ∧ c ≤ 9999) : ∃ m', f6_gainAt mm (ii r) (ii p) (ii c) = some (gnS M r p c, m') ∧ Ftr mm m' ∧ AK m' 44 (gM M r p) := by
  have rb := rn_bd hM.1
  have hw := wwr hM.1 hr
  have zb := hw.2.1
  have q := sdp_RW hw
  have e80 : sdp M r (80 + 13 * r) = M (80 + 13 * r) := up_ne _ _ (by omega)
  obtain ⟨m1, f1, f2, f3⟩ := f2_dropSteps_ok h.2.2 hw (by omega)
  obtain ⟨m2, g1, g2, g3⟩ := f2_addStep_ok f2 (r := r) q.1 (by omega) (by rw [stp_sdp]; omega) (M (80 + 13 * r)) p
  have A2 : AK m2 44 (gM M r p) := h.uo (fun c hc => by rw [g1 c hc, f1 c hc]) g2 (fun j hj => by have := zj_o hj; exact gM_o (by omega))
  have hM' := gM_WF hM hr hp
  obtain ⟨m3, k1, k2, k3, k4⟩ := c_try A2 hM'
  have F : Ftr mm m3 := ((fo53 f1).tr (fo53 g1)).tr k2
  refine ⟨m3, ?_, F, k3⟩
  have hrn := (gM_rn (M := M) (r := r) (p := p)).1
  have zl : dz (Dc (gM M r p)) r < zn (gM M r p) := dz_lt hM'.1 (by rw [hrn]; exact hr)
  have hw' := wwr hM'.1 (r := r) (by rw [hrn]; exact hr)
  have eo : gM M r p (79 + 13 * r) = (dz (Dc (gM M r p)) r : Int) := by
    have o := hw'.1
    show gM M r p (79 + 13 * r) = ((gM M r p (79 + 13 * r)).toNat : Int)
    omega
  have zb6 := zn_bd hM'.1
  have pb := PN_9 (Dg_WD hM' (ii 0) false) (z := dz (Dc (gM M r p)) r) zl
  have pb : Pz (Dc (gM M r p)) (dz (Dc (gM M r p)) r) ≤ 9999 := pb.2.2
  have tb := tko_bd (Dg_WD hM' (ii 0) false) (r := r) (show r < rn (gM M r p) by rw [hrn]; exact hr) zl
  have tb : 0 ≤ tko (Dc (gM M r p)) r ∧ tko (Dc (gM M r p)) r ≤ 2000 := tb
  have sz : f6_at m1 56 (ii r) = some (ii (M (80 + 13 * r))) := by
    have t := o_sz f2 (r := r) (by omega)
    rw [e80] at t
    exact t
  have zo : f6_at m3 55 (ii r) = some (ii (dz (Dc (gM M r p)) r)) := by
    have t := o_zn k3.2.2 (r := r) (by omega)
    rw [eo] at t
    exact t
  have pt : m3 64 (dz (Dc (gM M r p)) r) = _ := (k4.2.1 _ zl).1
  have tk := takenOf_ok k3 k4 hM' (r := r) (by rw [hrn]; exact hr)
  unfold f6_gainAt gnS
  have d1 : f2_dropSteps mm 53 (ii r) = some (ii (stp M r), m1) := f3
  rw [d1, bd_some]
  show bd (f6_at m1 56 (ii r)) _ = _
  have d2 : f2_addStep m1 53 (ii r) (ii (M (80 + 13 * r))) (ii p) = some (ii ((stp (sdp M r) r : Int) + 1), m2) := g3
  rw [sz, bd_some, d2, bd_some]
  show bd (f0_clear m2 44) _ = _
  rw [k1, bd_some, zo, bd_some, tk, bd_some, at_i m3 (q := 64) (n := 6) (by decide) (by omega) (by omega), bd_some, pt, ii_sub, ii_ll (by omega) (by omega), ii_ll (by omega) (by omega), ll_mul]
theorem oa1 {r : Nat} (hr : r < 12) : ∀ (d k n : Nat) (m : Mem), k + d = 7 → d < n → (∀ j, j < k → m 11 j = m 1 (85 + 13 * r + j)) → ∃ m', FrQ 11 m m' ∧ (∀ j, j < 7 → m' 11 j = m 1 (85 + 13 * r + j)) ∧ f7_offersAll_l2 n (ii r) (ii 1) (ii k) m = some m' := by
  intro d
  induction d with
  | zero =>
    intro k n m hk hdn hj
    obtain ⟨q, rfl⟩ : ∃ q, n = q + 1 := ⟨n - 1, by omega⟩
    refine ⟨m, FrQ.rf _ m, fun j h => hj j (by omega), ?_⟩
    rw [f7_offersAll_l2, l7, if_neg (inlt (by omega) (by omega) (by omega))]
  | succ d ih =>
    intro k n m hk hdn hj
    obtain ⟨q, rfl⟩ : ∃ q, n = q + 1 := ⟨n - 1, by omega⟩
    obtain ⟨m', f1, f2, f3⟩ := ih (k + 1) q (up2 m 11 k (m 1 (85 + 13 * r + k))) (by omega) (by omega) (fun j h => by
      rw [up2_c m (q := 11) (c := 1) _ _ _ (by omega)]
      by_cases e : j = k
      · rw [e, up2_at]
      · rw [up2_k _ _ _ _ e]; exact hj j (by omega))
    refine ⟨m', ((FrQ.rf 11 m).u k _).tr f1, fun j h => by rw [f2 j h, up2_c m (q := 11) (c := 1) _ _ _ (by omega)], ?_⟩
    rw [f7_offersAll_l2, l7, if_pos (ilt (by omega) (by omega) (by omega)), if_neg (by decide), l79, l13, l6, ii_mul, ii_add, ii_add, ii_add, rdq m lnR.1 (k := 85 + 13 * r + k) (by omega) (by omega) (by omega), wrq m lnR.2.2.2.2.2.2.2.2.2.2.1 (k := k) (by omega) (by omega) rfl]
    unfold f7_offersAll_j61
    rw [iSu, nm_eq]
    exact f3
theorem oa0 {r : Nat} (hr : r < 12) : ∀ (d k n : Nat) (m : Mem), k + d = 7 → d < n → (∀ j, j < k → m 1 (85 + 13 * r + j) = m 11 j) → ∃ m', FrQ 1 m m' ∧ (∀ j, j < 7 → m' 1 (85 + 13 * r + j) = m 11 j) ∧ (∀ i, (i < 85 + 13 * r ∨ 92 + 13 * r ≤ i) → m' 1 i = m 1 i) ∧ f7_offersAll_l2 n (ii r) (ii 0) (ii k) m = some m' := by
  intro d
  induction d with
  | zero =>
    intro k n m hk hdn hj
    obtain ⟨q, rfl⟩ : ∃ q, n = q + 1 := ⟨n - 1, by omega⟩
    refine ⟨m, FrQ.rf _ m, fun j h => hj j (by omega), fun _ _ => rfl, ?_⟩
    rw [f7_offersAll_l2, l7, if_neg (inlt (by omega) (by omega) (by omega))]
  | succ d ih =>
    intro k n m hk hdn hj
    obtain ⟨q, rfl⟩ : ∃ q, n = q + 1 := ⟨n - 1, by omega⟩
    obtain ⟨m', f1, f2, f4, f3⟩ := ih (k + 1) q (up2 m 1 (85 + 13 * r + k) (m 11 k)) (by omega) (by omega) (fun j h => by
      rw [up2_c m (q := 1) (c := 11) _ _ _ (by omega)]
      by_cases e : j = k
      · rw [e, up2_at]
      · rw [up2_k _ _ _ _ (by omega)]; exact hj j (by omega))
    refine ⟨m', ((FrQ.rf 1 m).u _ _).tr f1, fun j h => by rw [f2 j h, up2_c m (q := 1) (c := 11) _ _ _ (by omega)], fun i hi => by rw [f4 i hi, up2_k _ _ _ _ (by omega)], ?_⟩
    rw [f7_offersAll_l2, l7, if_pos (ilt (by omega) (by omega) (by omega)), l0, if_pos rfl, rdq m lnR.2.2.2.2.2.2.2.2.2.2.1 (k := k) (by omega) (by omega) rfl, l79, l13, l6, ii_mul, ii_add, ii_add, ii_add, wrq m lnR.1 (k := 85 + 13 * r + k) (by omega) (by omega) (by omega)]
    unfold f7_offersAll_j61
    rw [iSu, nm_eq]
    exact f3
theorem r_gainOf (h : RI mm s) (hs : SW s) {r : Nat} (hr : r < rn (sM s)) {p c : Int} (hp : 0 ≤ p ∧ p ≤ 9999) (hc : 0 ≤ c ∧ c ≤ 9999) : ∃ m', f7_gainOf mm (ii r) (ii p) (ii c) = some (gnS (sM s) r p c, m') ∧ Frf mm m' ∧ RI m' s := by
  have rb := rn_bd hs.1.1
  have hw := wwr hs.1.1 hr
  have e80 : sdp (sM s) r (80 + 13 * r) = sM s (80 + 13 * r) := up_ne _ _ (by omega)
  obtain ⟨m1, f1, f2, f3⟩ := oa1 (r := r) (by omega) 7 0 FU mm (by omega) (by unfold FU; omega) (fun j hj => by omega)
  have R1 : RI m1 s := h.fr (fun c hc => f1 c (by omega)) (by rw [f1 0 (by omega)]) (by rw [f1 0 (by omega)])
  have w1 := R1.w1 (85 + 13 * r) 0
  have q := sdp_RW hw
  obtain ⟨m2, g2, g1, g3⟩ := r_addStep (s := sset s (sdp (sM s) r)) w1 (r := r) q.1 (by omega) (by show stp (sdp (sM s) r) r < 3; rw [stp_sdp]; omega) (sM s (80 + 13 * r)) p
  have hM' := gM_WF hs.1 hr hp
  have g3' : RI m2 (sset s (gM (sM s) r p)) := g3
  obtain ⟨m3, k1, k2, k3, k4, k5⟩ := r_clearsAll g3' (hs.ups hM')
  obtain ⟨m4, t1, t2, t3, t4⟩ := oa0 (r := r) (by omega) 7 0 FU m3 (by omega) (by unfold FU; omega) (fun j hj => by omega)
  have hrn := (gM_rn (M := sM s) (r := r) (p := p)).1
  have zl : dz (Dc (gM (sM s) r p)) r < zn (gM (sM s) r p) := dz_lt hM'.1 (by rw [hrn]; exact hr)
  have hw' := wwr hM'.1 (r := r) (by rw [hrn]; exact hr)
  have eo : gM (sM s) r p (79 + 13 * r) = (dz (Dc (gM (sM s) r p)) r : Int) := by
    have o := hw'.1
    show gM (sM s) r p (79 + 13 * r) = ((gM (sM s) r p (79 + 13 * r)).toNat : Int)
    omega
  have zb6 := zn_bd hM'.1
  have pb := PN_9 (Dg_WD hM' (ii 0) false) (z := dz (Dc (gM (sM s) r p)) r) zl
  have pb : Pz (Dc (gM (sM s) r p)) (dz (Dc (gM (sM s) r p)) r) ≤ 9999 := pb.2.2
  have tb := tko_bd (Dg_WD hM' (ii 0) false) (r := r) (show r < rn (gM (sM s) r p) by rw [hrn]; exact hr) zl
  have tb : 0 ≤ tko (Dc (gM (sM s) r p)) r ∧ tko (Dc (gM (sM s) r p)) r ≤ 2000 := tb
  have tk : f7_takenOf m3 (ii r) = some (ii (tko (Dc (gM (sM s) r p)) r)) := f7_takenOf_ok hM' k5 (by rw [hrn]; exact hr)
  have zo : f7_ofResource m3 (ii r) (ii 0) = some (ii (dz (Dc (gM (sM s) r p)) r)) := by
    have t := f7_ofResource_ok k4.1 (r := r) (by omega) (k := 0) (by omega) (j := 79 + 13 * r) (by omega) (i := 0) (by omega)
    have t' : f7_ofResource m3 (ii r) (ii 0) = some (ii (gM (sM s) r p (79 + 13 * r))) := t
    rw [eo] at t'
    exact t'
  have pt : m3 7 (dz (Dc (gM (sM s) r p)) r) = ii (Pz (Dc (gM (sM s) r p)) (dz (Dc (gM (sM s) r p)) r)) := (k5.1 _ zl).1
  -- what was kept beside comes back
  have h11 : ∀ j, j < 7 → m3 11 j = mm 1 (85 + 13 * r + j) := by
    intro j hj
    have e1 : m3 11 = m2 11 := by
      obtain ⟨mc, d1, d2, d3⟩ := f7_clears_ok (mm := up2 (up2 m2 0 5 (ii 0)) 0 6 (ii 0)) (g := ii 0) (nf := false) (M := gM (sM s) r p) ⟨((g3'.u0 (k := 5) (by omega) _).u0 (k := 6) (by omega) _).1, by rw [up2_k _ _ _ _ (by omega), up2_at], by rw [up2_at]; rfl⟩ hM'
      have e2 : f7_clearsAll m2 = some mc := by
        unfold f7_clearsAll
        rw [l0, nm_eq, nm_eq, d3, bd_some]
      have e3 : mc = m3 := by rw [e2] at k1; exact Option.some.inj k1
      rw [← e3, d1 11 (by omega)]
      funext i
      rw [up2_c _ _ _ _ (by omega), up2_c _ _ _ _ (by omega)]
    rw [e1, g1 11 (by omega), up2_c _ _ _ _ (by omega)]
    exact f2 j hj
  refine ⟨m4, ?_, ?_, ?_⟩
  · have d1 : f7_offersAll mm (ii r) (ii 1) = some m1 := by
      unfold f7_offersAll
      rw [l0]
      exact f3
    have d4 : f7_offersAll m3 (ii r) (ii 0) = some m4 := by
      unfold f7_offersAll
      rw [l0]
      exact t4
    have a80 : f7_ofResource (up2 m1 1 (85 + 13 * r) (ii 0)) (ii r) (ii 1) = some (ii (sM s (80 + 13 * r))) := by
      have t := f7_ofResource_ok w1.1 (r := r) (by omega) (k := 1) (by omega) (j := 80 + 13 * r) (by omega) (i := 1) (by omega)
      have t' : f7_ofResource (up2 m1 1 (85 + 13 * r) (ii 0)) (ii r) (ii 1) = some (ii (sdp (sM s) r (80 + 13 * r))) := t
      rw [e80] at t'
      exact t'
    unfold f7_gainOf gnS
    rw [l1, d1, bd_some, l79, l13, l6, ii_mul, ii_add, ii_add, l0, wrq m1 lnR.1 (k := 85 + 13 * r) (by omega) (by omega) (by omega), a80, bd_some, g2, bd_some, k1, bd_some, tk, bd_some, zo, bd_some, rdq m3 lnR.2.2.2.2.2.2.1 (k := dz (Dc (gM (sM s) r p)) r) (by omega) (by omega) rfl, pt, ii_sub, ii_ll (by omega) (by omega), ii_ll (by omega) (by omega), ll_mul, nm_eq, d4, bd_some]
  · intro c hc
    have e : up2 m1 1 (85 + 13 * r) (ii 0) c = m1 c := by funext j; exact up2_c _ _ _ _ (by omega)
    by_cases e11 : c = 11
    · omega
    · rw [t1 c (by omega), k2 c hc, g1 c (by omega), e, f1 c e11]
  · have rk : RK m4 (sM s) := by
      intro j hj
      by_cases e : j < 85 + 13 * r ∨ 92 + 13 * r ≤ j
      · rw [t3 j e]
        have t := k3.1 j hj
        have t' : m3 1 j = ii (gM (sM s) r p j) := t
        rw [t', gM_o (by omega)]
      · have t := t2 (j - (85 + 13 * r)) (by omega)
        rw [show 85 + 13 * r + (j - (85 + 13 * r)) = j by omega] at t
        rw [t, h11 _ (by omega), show 85 + 13 * r + (j - (85 + 13 * r)) = j by omega]
        exact h.1 j hj
    have t := k3.ups (m' := m4) (fun c hc => t1 c (by omega)) (by rw [t1 0 (by omega)]) (by rw [t1 0 (by omega)]) rk
    exact t
def gaS (M : WM) (a p c : Int) : Int64 := if (0 ≤ a ∧ a < M 1) ∧ (0 ≤ p ∧ p ≤ 9999) ∧ (0 ≤ c ∧ c ≤ 9999) then gnS M a.toNat p c else ll (-1000000000000000)
theorem t_gain (h : CI mm s) (hr : RI mm s) (hs : SW s) {a p c : Int} (h1 : -2147483648 ≤ a) (h2 : a < 2147483648) (h3 : -2147483648 ≤ p) (h4 : p < 2147483648) (h5 : -2147483648 ≤ c) (h6 : c < 2147483648) : StqL mm (f6_gain mm (ii a) (ii p) (ii c)) (fun m => f7_gain m (ii a) (ii p) (ii c)) := by
  have hrn := hs.1.1.rn
  have rc := rn_c hs.1.1
  refine stpL_mk (v := gaS (sM s) a p c) (s' := s) hr hs ?_ (fun m hm => ?_)
  · unfold f6_gain gaS
    rw [f2_has_ok h.o hrn h1 h2, bd_some, l0, l9999, f6_within_ok h3 h4 (by omega) (by omega) (by omega) (by omega), bd_some, f6_within_ok h5 h6 (by omega) (by omega) (by omega) (by omega), bd_some]
    by_cases e1 : 0 ≤ a ∧ a < sM s 1
    · rw [if_pos e1, if_neg (by decide)]
      by_cases e2 : 0 ≤ p ∧ p ≤ 9999
      · rw [if_pos e2, if_neg (by decide)]
        by_cases e3 : 0 ≤ c ∧ c ≤ 9999
        · rw [if_pos e3, if_neg (by decide), if_pos ⟨e1, e2, e3⟩]
          obtain ⟨r, rfl⟩ := Int.eq_ofNat_of_zero_le e1.1
          obtain ⟨m1, f1, f2, f3⟩ := c_trial h
          obtain ⟨m2, g1, g2, g3⟩ := c_gainAt f3 hs.1 (r := r) (by omega) e2 e3
          refine ⟨m2, ?_, ftr_cl (f2.tr g2), h.tr (f2.tr g2)⟩
          rw [f1, bd_some, g1, bd_some, Int.toNat_natCast]
        · refine ⟨mm, ?_, Fcl.rf mm, h⟩
          rw [if_neg e3, if_pos rfl, if_neg (fun x => e3 x.2.2)]
          rfl
      · refine ⟨mm, ?_, Fcl.rf mm, h⟩
        rw [if_neg e2, if_pos rfl, if_neg (fun x => e2 x.2.1)]
        rfl
    · refine ⟨mm, ?_, Fcl.rf mm, h⟩
      rw [if_neg e1, if_pos rfl, if_neg (fun x => e1 x.1)]
      rfl
  · have h0 := hm.u0 (k := 0) (by omega) (ii 0)
    show ∃ m', f7_gain m (ii a) (ii p) (ii c) = _ ∧ _
    unfold f7_gain gaS
    rw [l0, nm_eq, f7_isResource_ok h0.1 hrn h1 h2, bd_some, f7_isPrice_ok h3 h4, bd_some, f7_isPrice_ok h5 h6, bd_some]
    by_cases e1 : 0 ≤ a ∧ a < sM s 1
    · rw [if_pos e1, if_neg (by decide)]
      by_cases e2 : 0 ≤ p ∧ p ≤ 9999
      · rw [if_pos e2, if_neg (by decide)]
        by_cases e3 : 0 ≤ c ∧ c ≤ 9999
        · rw [if_pos e3, if_neg (by decide), if_pos ⟨e1, e2, e3⟩]
          obtain ⟨r, rfl⟩ := Int.eq_ofNat_of_zero_le e1.1
          obtain ⟨m2, g1, g2, g3⟩ := r_gainOf h0 hs (r := r) (by omega) e2 e3
          refine ⟨m2, ?_, (frf_u0 m 0 (ii 0)).tr g2, g3⟩
          rw [g1, bd_some, Int.toNat_natCast]
        · refine ⟨_, ?_, frf_u0 m 0 (ii 0), h0⟩
          rw [if_neg e3, if_pos rfl, if_neg (fun x => e3 x.2.2)]
          rfl
      · refine ⟨_, ?_, frf_u0 m 0 (ii 0), h0⟩
        rw [if_neg e2, if_pos rfl, if_neg (fun x => e2 x.2.1)]
        rfl
    · refine ⟨_, ?_, frf_u0 m 0 (ii 0), h0⟩
      rw [if_neg e1, if_pos rfl, if_neg (fun x => e1 x.1)]
      rfl
/-- the best price, from p on -/
def bsl (M : WM) (r : Nat) (c : Int) : Nat → Int → Int → Int64 → Int
  | 0, _, b, _ => b
  | d + 1, p, b, x => if 2500 < p then b else if (0 : Int32) < lg_cmp (gnS M r p c) x then bsl M r c d (p + 25) p (gnS M r p c) else bsl M r c d (p + 25) b x
theorem bsl_bd (M : WM) (r : Nat) (c : Int) : ∀ (d : Nat) (p b : Int) (x : Int64), 0 ≤ p → 0 ≤ b → b ≤ 2500 → 0 ≤ bsl M r c d p b x ∧ bsl M r c d p b x ≤ 2500 := by
  intro d
  induction d with
  | zero => intro p b x h1 h2 h3; exact ⟨h2, h3⟩
  | succ d ih =>
    intro p b x h1 h2 h3
    rw [bsl]
    by_cases e : 2500 < p
    · rw [if_pos e]; exact ⟨h2, h3⟩
    · rw [if_neg e]
      by_cases g : (0 : Int32) < lg_cmp (gnS M r p c) x
      · rw [if_pos g]; exact ih _ _ _ (by omega) (by omega) (by omega)
      · rw [if_neg g]; exact ih _ _ _ (by omega) h2 h3
def GB (M : WM) (r : Nat) (m : Mem) : Prop := ∃ q, 0 ≤ q ∧ q ≤ 9999 ∧ AK m 44 (gM M r q)
theorem c62 {M : WM} (hM : WF M) {r : Nat} (hr : r < rn M) {c : Int} (hc : 0 ≤ c ∧ c ≤ 9999) : ∀ (d n : Nat) (p b : Int) (x : Int64) (m : Mem), 2500 < p + 25 * d → p ≤ 2525 → d < n → 0 ≤ p → 0 ≤ b → b ≤ 2500 → GB M r m → ∃ m', Ftr m m' ∧ f6_best_l62 n (ii r) (ii c) (ii b) x (ii p) m = some (ii (bsl M r c d p b x), m') := by
  have rb := rn_bd hM.1
  intro d
  induction d with
  | zero =>
    intro n p b x m h1 h1' hdn h2 h3 h4 hG
    obtain ⟨q, rfl⟩ : ∃ q, n = q + 1 := ⟨n - 1, by omega⟩
    refine ⟨m, fun _ _ => rfl, ?_⟩
    rw [f6_best_l62, l2500, if_pos (ilt (by omega) (by omega) (by omega)), bsl]
  | succ d ih =>
    intro n p b x m h1 h1' hdn h2 h3 h4 hG
    obtain ⟨q, rfl⟩ : ∃ q, n = q + 1 := ⟨n - 1, by omega⟩
    rw [f6_best_l62, l2500, bsl]
    by_cases e : 2500 < p
    · refine ⟨m, fun _ _ => rfl, ?_⟩
      rw [if_pos (ilt e (by omega) (by omega)), if_pos e]
    · obtain ⟨q0, q1, q2, q3⟩ := hG
      obtain ⟨m1, g1, g2, g3⟩ := c_gainAt q3 (gM_WF hM hr ⟨q1, q2⟩) (r := r) (by rw [gM_rn.1]; exact hr) (p := p) (c := c) (by omega) hc
      have eg : gnS (gM M r q0) r p c = gnS M r p c := by unfold gnS; rw [gM_gM]
      rw [eg] at g1
      rw [gM_gM] at g3
      have G1 : GB M r m1 := ⟨p, h2, by omega, g3⟩
      rw [if_neg (inlt (by omega) (by omega) (by omega)), if_neg e, g1, bd_some]
      unfold f6_best_j95
      by_cases g : (0 : Int32) < lg_cmp (gnS M r p c) x
      · obtain ⟨m2, k1, k2⟩ := ih q (p + 25) p (gnS M r p c) m1 (by omega) (by omega) (by omega) (by omega) (by omega) (by omega) G1
        refine ⟨m2, g2.tr k1, ?_⟩
        rw [if_pos g, if_pos g, l25, ii_add, nm_eq]
        exact k2
      · obtain ⟨m2, k1, k2⟩ := ih q (p + 25) b x m1 (by omega) (by omega) (by omega) (by omega) h3 h4 G1
        refine ⟨m2, g2.tr k1, ?_⟩
        rw [if_neg g, if_neg g, l25, ii_add, nm_eq]
        exact k2
theorem r30 (hs : SW s) {r : Nat} (hr : r < rn (sM s)) {c : Int} (hc : 0 ≤ c ∧ c ≤ 9999) : ∀ (d n : Nat) (p b : Int) (x : Int64) (m : Mem), 2500 < p + 25 * d → p ≤ 2525 → d < n → 0 ≤ p → 0 ≤ b → b ≤ 2500 → RI m s → ∃ m', Frf m m' ∧ RI m' s ∧ f7_best_l30 n (ii r) (ii c) (ii b) x (ii p) m = some (ii (bsl (sM s) r c d p b x), m') := by
  have rb := rn_bd hs.1.1
  intro d
  induction d with
  | zero =>
    intro n p b x m h1 h1' hdn h2 h3 h4 hR
    obtain ⟨q, rfl⟩ : ∃ q, n = q + 1 := ⟨n - 1, by omega⟩
    refine ⟨m, Frf.rf m, hR, ?_⟩
    rw [f7_best_l30, l2500, if_pos (ilt (by omega) (by omega) (by omega)), bsl]
  | succ d ih =>
    intro n p b x m h1 h1' hdn h2 h3 h4 hR
    obtain ⟨q, rfl⟩ : ∃ q, n = q + 1 := ⟨n - 1, by omega⟩
    rw [f7_best_l30, l2500, bsl]
    by_cases e : 2500 < p
    · refine ⟨m, Frf.rf m, hR, ?_⟩
      rw [if_pos (ilt e (by omega) (by omega)), if_pos e]
    · obtain ⟨m1, g1, g2, g3⟩ := r_gainOf hR hs hr (p := p) (c := c) (by omega) hc
      rw [if_neg (inlt (by omega) (by omega) (by omega)), if_neg e, g1, bd_some, lm1, if_neg (ine (by omega) (by omega) (by omega) (by omega) (by omega))]
      unfold f7_best_j61 f7_best_j68
      by_cases g : (0 : Int32) < lg_cmp (gnS (sM s) r p c) x
      · obtain ⟨m2, k1, k2, k3⟩ := ih q (p + 25) p (gnS (sM s) r p c) m1 (by omega) (by omega) (by omega) (by omega) (by omega) (by omega) g3
        refine ⟨m2, g2.tr k1, k2, ?_⟩
        rw [if_pos g, if_pos g, l25, ii_add, nm_eq]
        exact k3
      · obtain ⟨m2, k1, k2, k3⟩ := ih q (p + 25) b x m1 (by omega) (by omega) (by omega) (by omega) h3 h4 g3
        refine ⟨m2, g2.tr k1, k2, ?_⟩
        rw [if_neg g, if_neg g, l25, ii_add, nm_eq]
        exact k3
def beS (M : WM) (a c : Int) : Int := if (0 ≤ a ∧ a < M 1) ∧ (0 ≤ c ∧ c ≤ 9999) then bsl M a.toNat c 100 25 0 (gnS M a.toNat 0 c) else -1
theorem t_best (h : CI mm s) (hr : RI mm s) (hs : SW s) {a c : Int} (h1 : -2147483648 ≤ a) (h2 : a < 2147483648) (h5 : -2147483648 ≤ c) (h6 : c < 2147483648) : Stq mm (f6_best mm (ii a) (ii c)) (fun m => f7_best m (ii a) (ii c)) := by
  have hrn := hs.1.1.rn
  have rc := rn_c hs.1.1
  refine stp_mk (v := ii (beS (sM s) a c)) (s' := s) hr hs ?_ (fun m hm => ?_)
  · unfold f6_best beS
    rw [f2_has_ok h.o hrn h1 h2, bd_some, l0, l9999, l25, lm1, f6_within_ok h5 h6 (by omega) (by omega) (by omega) (by omega), bd_some]
    by_cases e1 : 0 ≤ a ∧ a < sM s 1
    · rw [if_pos e1, if_neg (by decide)]
      by_cases e3 : 0 ≤ c ∧ c ≤ 9999
      · rw [if_pos e3, if_neg (by decide), if_pos ⟨e1, e3⟩]
        obtain ⟨r, rfl⟩ := Int.eq_ofNat_of_zero_le e1.1
        obtain ⟨m1, f1, f2, f3⟩ := c_trial h
        obtain ⟨m2, g1, g2, g3⟩ := c_gainAt f3 hs.1 (r := r) (by omega) (p := 0) (c := c) (by omega) e3
        obtain ⟨m3, k1, k2⟩ := c62 hs.1 (r := r) (by omega) e3 100 FU 25 0 (gnS (sM s) r 0 c) m2 (by omega) (by omega) (by unfold FU; omega) (by omega) (by omega) (by omega) ⟨0, by omega, by omega, g3⟩
        have F := (f2.tr g2).tr k1
        refine ⟨m3, ?_, ftr_cl F, h.tr F⟩
        rw [f1, bd_some, g1, bd_some, k2, Int.toNat_natCast]
      · refine ⟨mm, ?_, Fcl.rf mm, h⟩
        rw [if_neg e3, if_pos rfl, if_neg (fun x => e3 x.2)]
    · refine ⟨mm, ?_, Fcl.rf mm, h⟩
      rw [if_neg e1, if_pos rfl, if_neg (fun x => e1 x.1)]
  · have h0 := hm.u0 (k := 0) (by omega) (ii 0)
    show ∃ m', f7_best m (ii a) (ii c) = _ ∧ _
    unfold f7_best beS
    rw [l0, nm_eq, f7_isResource_ok h0.1 hrn h1 h2, bd_some, f7_isPrice_ok h5 h6, bd_some, lm1]
    by_cases e1 : 0 ≤ a ∧ a < sM s 1
    · rw [if_pos e1, if_neg (by decide)]
      by_cases e3 : 0 ≤ c ∧ c ≤ 9999
      · rw [if_pos e3, if_neg (by decide), if_pos ⟨e1, e3⟩]
        obtain ⟨r, rfl⟩ := Int.eq_ofNat_of_zero_le e1.1
        obtain ⟨m1, g1, g2, g3⟩ := r_gainOf h0 hs (r := r) (by omega) (p := 0) (c := c) (by omega) e3
        obtain ⟨m2, k1, k2, k3⟩ := r30 hs (r := r) (by omega) e3 100 19999 25 0 (gnS (sM s) r 0 c) m1 (by omega) (by omega) (by omega) (by omega) (by omega) (by omega) g3
        refine ⟨m2, ?_, ((frf_u0 m 0 (ii 0)).tr g2).tr k1, k2⟩
        show f7_best_l30 (19999 + 1) _ _ _ _ _ _ = _
        rw [f7_best_l30, l2500, if_neg (by decide), g1, bd_some, lm1, if_pos rfl]
        unfold f7_best_j61 f7_best_j68
        rw [l25, ii_add, nm_eq, Int.toNat_natCast]
        exact k3
      · refine ⟨_, ?_, frf_u0 m 0 (ii 0), h0⟩
        rw [if_neg e3, if_pos rfl, if_neg (fun x => e3 x.2)]
    · refine ⟨_, ?_, frf_u0 m 0 (ii 0), h0⟩
      rw [if_neg e1, if_pos rfl, if_neg (fun x => e1 x.1)]
end
