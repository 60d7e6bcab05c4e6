section
variable {mm m' : Mem} {s : ST}
theorem s4v (h : RK mm (sM s)) {r : Nat} (hw : RW (sM s) r) (hr : r < 12) : ∀ (d k n : Nat), k + d = stp (sM s) r → d < n → f7_stepped_l4 mm n (ii r) (ii (sm k (su (sM s) r))) (ii k) = some (ii (sm (stp (sM s) r) (su (sM s) r))) := by
  have hn := stp_le hw
  intro d
  induction d with
  | zero =>
    intro k n hk hdn
    obtain ⟨q, rfl⟩ : ∃ q, n = q + 1 := ⟨n - 1, by omega⟩
    rw [f7_stepped_l4, l6, f7_stp h hw hr rfl, bd_some, if_neg (inlt (by omega) (by omega) (by omega)), show k = stp (sM s) r by omega]
  | succ d ih =>
    intro k n hk hdn
    obtain ⟨q, rfl⟩ : ∃ q, n = q + 1 := ⟨n - 1, by omega⟩
    have e : lu (sM s) r k = su (sM s) r k := by unfold lu; rw [if_neg (by omega), if_pos (by omega)]
    have go := ih (k + 1) q (by omega) (by omega)
    rw [sm_s] at go
    rw [f7_stepped_l4, l6, f7_stp h hw hr rfl, bd_some, if_pos (ilt (by omega) (by omega) (by omega)), f7_lineUnits_ok h hw hr (by omega), bd_some, e, ii_add, nm_eq, iSu, nm_eq]
    exact go
theorem f7_stepped_ok (h : RK mm (sM s)) {r : Nat} (hw : RW (sM s) r) (hr : r < 12) : f7_stepped mm (ii r) = some (ii (sm (stp (sM s) r) (su (sM s) r))) := by
  unfold f7_stepped
  rw [l0]
  exact s4v h hw hr (stp (sM s) r) 0 FU (by omega) (by have := stp_le hw; unfold FU; omega)
def lpr (M : WM) (r : Nat) : Int := if stp M r = 0 then 0 else sp M r (stp M r - 1)
theorem lpr_bd {M : WM} {r : Nat} (hw : RW M r) : 0 ≤ lpr M r ∧ lpr M r ≤ 9999 := by
  unfold lpr
  by_cases e : stp M r = 0
  · rw [if_pos e]; omega
  · rw [if_neg e]
    have := hw.2.2.2.2.2.2.2 (stp M r - 1) (by omega)
    omega
def oks (M : WM) (a u p : Int) : Prop := (0 ≤ a ∧ a < M 1) ∧ stp M a.toNat < 3 ∧ (1 ≤ u ∧ u ≤ rest M a.toNat) ∧ (lpr M a.toNat ≤ p ∧ p ≤ 9999)
theorem sadd_WF {M : WM} (hM : WF M) {r : Nat} (hr : r < rn M) (hn : stp M r < 3) {u p : Int} (hu : 1 ≤ u ∧ u ≤ rest M r) (hp : lpr M r ≤ p ∧ p ≤ 9999) : WF (sadd M r u p) := by
  have hw := wwr hM.1 hr
  have rb := rest_bd hw
  have lb := lpr_bd hw
  have q := sadd_RW hw hn (u := u) (p := p) (by omega) (by omega)
  exact WF_r hM hr (fun j hj => sadd_o (by omega) hn) (sadd_rg hM.1 hn (by omega) (by omega)) q.1 (by rw [q.2]; omega)
theorem c_step_n (h : CI mm s) (hs : SW s) {a u p : Int} (h1 : -2147483648 ≤ a) (h2 : a < 2147483648) (h3 : -2147483648 ≤ u) (h4 : u < 2147483648) (h5 : -2147483648 ≤ p) (h6 : p < 2147483648) (hn : ¬ oks (sM s) a u p) : f6_step mm (ii a) (ii u) (ii p) = some (ii (-1), mm) := by
  have hz := hs.1.1.rn
  have zc := rn_c hs.1.1
  unfold f6_step
  rw [f2_has_ok h.o hz h1 h2, bd_some, l0, l1, l3, l9999, ii_neg]
  by_cases c : 0 ≤ a ∧ a < sM s 1
  · obtain ⟨r, rfl⟩ := Int.eq_ofNat_of_zero_le c.1
    have hw := wwr hs.1.1 (r := r) (by omega)
    have np := stp_le hw
    have rb := rest_bd hw
    have lb := lpr_bd hw
    have q : f6_at mm 32 (ii r) = _ := o_stp h.o hw (by omega)
    rw [if_pos c, if_neg (ine (by omega) (by omega) (by omega) (by omega) (by omega)), q, bd_some]
    by_cases d : stp (sM s) r < 3
    · rw [if_pos (ilt (by omega) (by omega) (by omega)), f2_rest_ok h.o hw (by omega), bd_some, f6_within_ok h3 h4 (by omega) (by omega) (by omega) (by omega), bd_some]
      by_cases e : 1 ≤ u ∧ u ≤ rest (sM s) r
      · rw [if_pos e, if_neg (ine (by omega) (by omega) (by omega) (by omega) (by omega)), f2_lastPrice_ok h.o hw (by omega), bd_some]
        show bd (f6_within mm (ii p) (ii (lpr (sM s) r)) (ii 9999)) _ = _
        rw [f6_within_ok h5 h6 (by omega) (by omega) (by omega) (by omega), bd_some]
        by_cases f : lpr (sM s) r ≤ p ∧ p ≤ 9999
        · exact absurd ⟨c, d, e, f⟩ hn
        · rw [if_neg f, if_pos rfl]
      · rw [if_neg e, if_pos rfl]
    · rw [if_neg (inlt (by omega) (by omega) (by omega))]
  · rw [if_neg c, if_pos rfl]
theorem c_step_y (h : CI mm s) (hs : SW s) {a u p : Int} (hy : oks (sM s) a u p) : ∃ m', f6_step mm (ii a) (ii u) (ii p) = some (ii ((stp (sM s) a.toNat : Int) + 1), m') ∧ Fcl mm m' ∧ CI m' (sset s (sadd (sM s) a.toNat u p)) := by
  have hz := hs.1.1.rn
  have zc := rn_c hs.1.1
  obtain ⟨c, d, e, f⟩ := hy
  obtain ⟨r, rfl⟩ := Int.eq_ofNat_of_zero_le c.1
  simp only [Int.toNat_natCast] at d e f ⊢
  have hw := wwr hs.1.1 (r := r) (by omega)
  have rb := rest_bd hw
  have lb := lpr_bd hw
  obtain ⟨m1, g1, g2, g3⟩ := f2_addStep_ok h.o hw (by omega) d u p
  refine ⟨m1, ?_, fo_cl g1, h.uo g1 g2 (sadd_zj d)⟩
  unfold f6_step
  have q : f6_at mm 32 (ii r) = _ := o_stp h.o hw (by omega)
  rw [f2_has_ok h.o hz (by omega) (by omega), bd_some, l0, l1, l3, l9999, if_pos c, if_neg (ine (by omega) (by omega) (by omega) (by omega) (by omega)), q, bd_some, if_pos (ilt (by omega) (by omega) (by omega)), f2_rest_ok h.o hw (by omega), bd_some, f6_within_ok (by omega) (by omega) (by omega) (by omega) (by omega) (by omega), bd_some, if_pos e, if_neg (ine (by omega) (by omega) (by omega) (by omega) (by omega)), f2_lastPrice_ok h.o hw (by omega), bd_some]
  show bd (f6_within mm (ii p) (ii (lpr (sM s) r)) (ii 9999)) _ = _
  rw [f6_within_ok (by omega) (by omega) (by omega) (by omega) (by omega) (by omega), bd_some, if_pos f, if_neg (ine (by omega) (by omega) (by omega) (by omega) (by omega)), g3, bd_some]
theorem r_step_j (h : RI mm s) {r : Nat} {u p q : Int} (h5 : -2147483648 ≤ p) (h6 : p < 2147483648) (hq : 0 ≤ q ∧ q ≤ 9999) (k : Int) : (¬ (q ≤ p ∧ p ≤ 9999) → f7_step_j92 (ii r) (ii u) (ii p) (ii k) (ii q) (ii p) mm = some (ii (-1), mm)) ∧ ((q ≤ p ∧ p ≤ 9999) → f7_step_j92 (ii r) (ii u) (ii p) (ii k) (ii q) (ii p) mm = bd (f7_addStep mm (ii r) (ii u) (ii p)) (fun r10 => some (ii (k + 1), r10))) := by
  unfold f7_step_j92
  rw [l9999, f7_in_ok h5 h6 (by omega) (by omega) (by omega) (by omega), bd_some, l0, l1, ii_neg, ii_add]
  constructor
  · intro hn
    rw [if_neg hn, if_pos rfl]
  · intro hy
    rw [if_pos hy, if_neg (ine (by omega) (by omega) (by omega) (by omega) (by omega))]
theorem r_step_head (h : RI mm s) (hs : SW s) {a u p : Int} (h1 : -2147483648 ≤ a) (h2 : a < 2147483648) (h3 : -2147483648 ≤ u) (h4 : u < 2147483648) (h5 : -2147483648 ≤ p) (h6 : p < 2147483648) : (¬ oks (sM s) a u p → f7_step mm (ii a) (ii u) (ii p) = some (ii (-1), up2 mm 0 0 (ii 0))) ∧ (oks (sM s) a u p → f7_step mm (ii a) (ii u) (ii p) = bd (f7_addStep (up2 mm 0 0 (ii 0)) (ii a.toNat) (ii u) (ii p)) (fun r10 => some (ii ((stp (sM s) a.toNat : Int) + 1), r10))) := by
  have hz := hs.1.1.rn
  have zc := rn_c hs.1.1
  have h0 := h.u0 (k := 0) (by omega) (ii 0)
  unfold f7_step
  rw [l0, nm_eq, f7_isResource_ok h0.1 hz h1 h2, bd_some, l1, l3, l6, l500, ii_neg, f7_in_ok h3 h4 (by omega) (by omega) (by omega) (by omega), bd_some]
  by_cases c : 0 ≤ a ∧ a < sM s 1
  · obtain ⟨r, rfl⟩ := Int.eq_ofNat_of_zero_le c.1
    have hw := wwr hs.1.1 (r := r) (by omega)
    have np := stp_le hw
    have rb := rest_bd hw
    have lb := lpr_bd hw
    have sb := su_bd hw (Nat.le_refl _)
    have zb := hw.2.1
    have er : rest (sM s) r = sM s (80 + 13 * r) - sm (stp (sM s) r) (su (sM s) r) := rfl
    rw [if_pos c, if_neg (ine (by omega) (by omega) (by omega) (by omega) (by omega)), f7_stp h0.1 hw (by omega) rfl, bd_some, bd_some, Int.toNat_natCast]
    by_cases d : stp (sM s) r < 3
    · rw [if_neg (ine (by omega) (by omega) (by omega) (by omega) (by omega))]
      by_cases e : 1 ≤ u ∧ u ≤ 500
      · rw [if_pos e, if_neg (ine (by omega) (by omega) (by omega) (by omega) (by omega)), f7_stepped_ok h0.1 hw (by omega), bd_some, f7_ofResource_ok h0.1 (r := r) (by omega) (k := 1) (by omega) (j := 80 + 13 * r) (by omega) (by omega), bd_some, ii_add]
        by_cases e2 : sM s (80 + 13 * r) < sm (stp (sM s) r) (su (sM s) r) + u
        · rw [if_pos (ilt e2 (by omega) (by omega))]
          refine ⟨fun _ => rfl, fun x => ?_⟩
          have y := x.2.2.1
          rw [Int.toNat_natCast] at y
          omega
        · rw [if_neg (inlt (by omega) (by omega) (by omega))]
          have J : ∀ q : Int, q = lpr (sM s) r → (¬ oks (sM s) (r : Int) u p → f7_step_j92 (ii r) (ii u) (ii p) (ii (stp (sM s) r)) (ii q) (ii p) (up2 mm 0 0 (ii 0)) = some (ii (-1), up2 mm 0 0 (ii 0))) ∧ (oks (sM s) (r : Int) u p → f7_step_j92 (ii r) (ii u) (ii p) (ii (stp (sM s) r)) (ii q) (ii p) (up2 mm 0 0 (ii 0)) = bd (f7_addStep (up2 mm 0 0 (ii 0)) (ii r) (ii u) (ii p)) (fun r10 => some (ii ((stp (sM s) r : Int) + 1), r10))) := by
            intro q hq
            subst hq
            have jj := r_step_j h0 (r := r) (u := u) (p := p) (q := lpr (sM s) r) h5 h6 lb (stp (sM s) r : Int)
            refine ⟨fun hn => jj.1 (fun x => hn ⟨c, d, ⟨e.1, ?_⟩, x⟩), fun hy => jj.2 ?_⟩
            · rw [Int.toNat_natCast]; omega
            · have y := hy.2.2.2
              rw [Int.toNat_natCast] at y
              exact y
          by_cases k : stp (sM s) r = 0
          · rw [if_pos (by rw [k]; rfl)]
            exact J 0 (by unfold lpr; rw [if_pos k])
          · rw [if_neg (ine (by omega) (by omega) (by omega) (by omega) (by omega)), l2, l13, l79, ii_mul, ii_mul, ii_add, ii_add, ii_add, rd1 h0.1 (k := 87 + 13 * r + 2 * (stp (sM s) r - 1)) (by omega) (by omega)]
            exact J _ (by unfold lpr; rw [if_neg k]; rfl)
      · rw [if_neg e, if_pos rfl]
        refine ⟨fun _ => rfl, fun x => ?_⟩
        have y := x.2.2.1
        rw [Int.toNat_natCast] at y
        omega
    · rw [if_pos (by congr 1; omega)]
      refine ⟨fun _ => rfl, fun x => ?_⟩
      have y := x.2.1
      rw [Int.toNat_natCast] at y
      omega
  · rw [if_neg c, if_pos rfl]
    exact ⟨fun _ => rfl, fun x => absurd x.1 c⟩
theorem t_step (h : CI mm s) (hr : RI mm s) (hs : SW s) {a u p : Int} (h1 : -2147483648 ≤ a) (h2 : a < 2147483648) (h3 : -2147483648 ≤ u) (h4 : u < 2147483648) (h5 : -2147483648 ≤ p) (h6 : p < 2147483648) : Stq mm (f6_step mm (ii a) (ii u) (ii p)) (fun m => f7_step m (ii a) (ii u) (ii p)) := by
  by_cases hy : oks (sM s) a u p
  · have zc := rn_c hs.1.1
    have zb := hs.1.1.rn
    have c := hy.1
    have hw := wwr hs.1.1 (r := a.toNat) (by omega)
    refine stp_mk hr (hs.ups (sadd_WF hs.1 (by omega) hy.2.1 hy.2.2.1 hy.2.2.2)) (c_step_y h hs hy) (fun m hm => ?_)
    obtain ⟨m1, g1, g2, g3⟩ := r_addStep (hm.u0 (k := 0) (by omega) (ii 0)) hw (by omega) hy.2.1 u p
    refine ⟨m1, ?_, (frf_u0 m 0 (ii 0)).tr (fq1 g2), g3⟩
    show f7_step m (ii a) (ii u) (ii p) = _
    rw [(r_step_head hm hs h1 h2 h3 h4 h5 h6).2 hy, g1, bd_some]
  · exact stp_mk hr hs ⟨mm, c_step_n h hs h1 h2 h3 h4 h5 h6 hy, Fcl.rf mm, h⟩ (fun m hm => ⟨_, (r_step_head hm hs h1 h2 h3 h4 h5 h6).1 hy, frf_u0 m 0 (ii 0), hm.u0 (k := 0) (by omega) (ii 0)⟩)
/-! drop -/
theorem t_drop (h : CI mm s) (hr : RI mm s) (hs : SW s) {a b : Int} (h1 : -2147483648 ≤ a) (h2 : a < 2147483648) (hb : b = 0 ∨ b = 1) : Stq mm (f6_drop mm (ii a) (ii b)) (fun m => f7_drop m (ii a) (ii b)) := by
  have hzn := hs.1.1.zn
  have hrn := hs.1.1.rn
  have zc := zn_c hs.1.1
  have rc := rn_c hs.1.1
  rcases hb with rfl | rfl
  · by_cases c : 0 ≤ a ∧ a < sM s 0
    · obtain ⟨z, rfl⟩ := Int.eq_ofNat_of_zero_le c.1
      have hw := wwz hs.1.1 (z := z) (by omega)
      refine stp_mk (v := ii (npt (sM s) z)) (s' := sset s (pdrop (sM s) z)) hr (hs.ups (pdrop_WF hs.1 (by omega))) ?_ (fun m hm => ?_)
      · obtain ⟨m1, g1, g2, g3⟩ := f5_dropPoints_ok h.z hw (by omega)
        refine ⟨m1, ?_, fz_cl g1, h.uz g1 g2 (fun j hj => by have := oj_z hj; exact up_ne _ _ (by omega))⟩
        unfold f6_drop f6_drop_j39
        rw [l0, if_pos rfl, f5_has_ok h.z hzn h1 h2, bd_some, if_pos c, if_neg (ine (by omega) (by omega) (by omega) (by omega) (by omega)), if_pos rfl, g3, bd_some]
      · have h0 := hm.u0 (k := 0) (by omega) (ii 0)
        refine ⟨_, ?_, (frf_u0 m 0 (ii 0)).tr (frf_u1 _ (10 + 12 * z) (ii 0)), h0.w1 (10 + 12 * z) 0⟩
        show f7_drop m (ii z) (ii 0) = _
        unfold f7_drop f7_drop_j30 f7_drop_j56
        rw [l0, nm_eq, if_pos rfl, f7_isZone_ok h0.1 hzn h1 h2, bd_some, if_pos c, if_neg (ine (by omega) (by omega) (by omega) (by omega) (by omega)), if_pos rfl, l3, l7, l12, ii_mul, ii_add, ii_add, rd1 h0.1 (k := 10 + 12 * z) (by omega) (by omega), wrq _ lnR.1 (k := 10 + 12 * z) (by omega) (by omega) (by omega), npt_c hw]
    · refine stp_mk (v := ii (-1)) (s' := s) hr hs ⟨mm, ?_, Fcl.rf mm, h⟩ (fun m hm => ⟨_, ?_, frf_u0 m 0 (ii 0), hm.u0 (k := 0) (by omega) (ii 0)⟩)
      · unfold f6_drop
        rw [l0, if_pos rfl, f5_has_ok h.z hzn h1 h2, bd_some, if_neg c, if_pos rfl, l1, ii_neg]
      · have h0 := hm.u0 (k := 0) (by omega) (ii 0)
        show f7_drop m (ii a) (ii 0) = _
        unfold f7_drop
        rw [l0, nm_eq, if_pos rfl, f7_isZone_ok h0.1 hzn h1 h2, bd_some, if_neg c, if_pos rfl, l1, ii_neg]
  · by_cases c : 0 ≤ a ∧ a < sM s 1
    · obtain ⟨r, rfl⟩ := Int.eq_ofNat_of_zero_le c.1
      have hw := wwr hs.1.1 (r := r) (by omega)
      refine stp_mk (v := ii (stp (sM s) r)) (s' := sset s (sdp (sM s) r)) hr (hs.ups (sdp_WF hs.1 (by omega))) ?_ (fun m hm => ?_)
      · obtain ⟨m1, g1, g2, g3⟩ := f2_dropSteps_ok h.o hw (by omega)
        refine ⟨m1, ?_, fo_cl g1, h.uo g1 g2 (fun j hj => by have := zj_o hj; exact up_ne _ _ (by omega))⟩
        unfold f6_drop f6_drop_j39
        rw [l0, if_neg (by decide), f2_has_ok h.o hrn h1 h2, bd_some, if_pos c, if_neg (ine (by omega) (by omega) (by omega) (by omega) (by omega)), if_neg (by decide), g3, bd_some]
      · have h0 := hm.u0 (k := 0) (by omega) (ii 0)
        refine ⟨_, ?_, (frf_u0 m 0 (ii 0)).tr (frf_u1 _ (85 + 13 * r) (ii 0)), h0.w1 (85 + 13 * r) 0⟩
        show f7_drop m (ii r) (ii 1) = _
        unfold f7_drop f7_drop_j30 f7_drop_j56
        rw [l0, nm_eq, if_neg (by decide), f7_isResource_ok h0.1 hrn h1 h2, bd_some, if_pos c, if_neg (ine (by omega) (by omega) (by omega) (by omega) (by omega)), if_neg (by decide), l6, l79, l13, ii_mul, ii_add, ii_add, rd1 h0.1 (k := 85 + 13 * r) (by omega) (by omega), wrq _ lnR.1 (k := 85 + 13 * r) (by omega) (by omega) (by omega), stp_c hw]
    · refine stp_mk (v := ii (-1)) (s' := s) hr hs ⟨mm, ?_, Fcl.rf mm, h⟩ (fun m hm => ⟨_, ?_, frf_u0 m 0 (ii 0), hm.u0 (k := 0) (by omega) (ii 0)⟩)
      · unfold f6_drop
        rw [l0, if_neg (by decide), f2_has_ok h.o hrn h1 h2, bd_some, if_neg c, if_pos rfl, l1, ii_neg]
      · have h0 := hm.u0 (k := 0) (by omega) (ii 0)
        show f7_drop m (ii a) (ii 1) = _
        unfold f7_drop
        rw [l0, nm_eq, if_neg (by decide), f7_isResource_ok h0.1 hrn h1 h2, bd_some, if_neg c, if_pos rfl, l1, ii_neg]
/-! set -/
/-- where what is set lies, -1 if it can't be -/
def plc (M : WM) (a k v : Int) : Int := if 0 ≤ v ∧ v ≤ 9999 then (if a = 0 then (if 0 ≤ k ∧ k ≤ 3 then 3 + k else -1) else if a = 1 then 2 else if a = 2 then (if 1 ≤ k ∧ k < M 0 then 8 + 12 * k else -1) else if a = 3 then (if 1 ≤ k ∧ k < M 0 then 9 + 12 * k else -1) else if a = 4 then (if v ≤ 1 ∧ (0 ≤ k ∧ k < M 1) then 84 + 13 * k else -1) else -1) else -1
theorem f7_placeOf_ok (h : RK mm (sM s)) (hM : WW (sM s)) {a k v : Int} (h1 : -2147483648 ≤ a) (h2 : a < 2147483648) (h3 : -2147483648 ≤ k) (h4 : k < 2147483648) (h5 : -2147483648 ≤ v) (h6 : v < 2147483648) : f7_placeOf mm (ii a) (ii k) (ii v) = some (ii (plc (sM s) a k v)) := by
  have hz := hM.zn
  have hr := hM.rn
  unfold f7_placeOf plc
  rw [l0, l1, l2, l3, l4, l5, l7, l12, l13, l79, ii_neg, f7_in_ok h3 h4 (by omega) (by omega) (by omega) (by omega), f7_isPrice_ok h5 h6, f7_isZone_ok h hz h3 h4, f7_isResource_ok h hr h3 h4, f7_in_ok h5 h6 (by omega) (by omega) (by omega) (by omega)]
  simp only [bd_some, ii_mul, ii_add, ii_sub]
  have n10 : ¬ ii 1 = ii 0 := by decide
  by_cases a0 : a = 0
  · rw [if_pos (by rw [a0]), if_pos a0]
    by_cases e : 0 ≤ k ∧ k ≤ 3
    · rw [if_pos e, if_neg n10, if_pos e]
      by_cases f : 0 ≤ v ∧ v ≤ 9999
      · rw [if_pos f, if_neg n10, if_pos f]
      · rw [if_neg f, if_pos rfl, if_neg f]
    · rw [if_neg e, if_pos rfl, if_neg e]
      by_cases f : 0 ≤ v ∧ v ≤ 9999
      · rw [if_pos f]
      · rw [if_neg f]
  · rw [if_neg (ine a0 h1 h2 (by omega) (by omega)), if_neg a0]
    by_cases a1 : a = 1
    · rw [if_pos (by rw [a1]), if_pos a1]
      by_cases f : 0 ≤ v ∧ v ≤ 9999
      · rw [if_pos f, if_neg n10, if_pos f]
      · rw [if_neg f, if_pos rfl, if_neg f]
    · rw [if_neg (ine a1 h1 h2 (by omega) (by omega)), if_neg a1]
      by_cases a2 : a = 2
      · rw [if_pos (by rw [a2]), if_pos a2]
        by_cases g : 0 < k
        · rw [if_pos (ilt g (by omega) (by omega))]
          by_cases e : 0 ≤ k ∧ k < sM s 0
          · rw [if_pos e, if_neg n10, if_pos (show 1 ≤ k ∧ k < sM s 0 by omega)]
            by_cases f : 0 ≤ v ∧ v ≤ 9999
            · rw [if_pos f, if_neg n10, if_pos f]
              congr 2
              omega
            · rw [if_neg f, if_pos rfl, if_neg f]
          · rw [if_neg e, if_pos rfl, if_neg (show ¬ (1 ≤ k ∧ k < sM s 0) by omega)]
            by_cases f : 0 ≤ v ∧ v ≤ 9999
            · rw [if_pos f]
            · rw [if_neg f]
        · rw [if_neg (inlt (by omega) (by omega) (by omega)), if_neg (show ¬ (1 ≤ k ∧ k < sM s 0) by omega)]
          by_cases f : 0 ≤ v ∧ v ≤ 9999
          · rw [if_pos f]
          · rw [if_neg f]
      · rw [if_neg (ine a2 h1 h2 (by omega) (by omega)), if_neg a2]
        by_cases a3 : a = 3
        · rw [if_pos (by rw [a3]), if_pos a3]
          by_cases g : 0 < k
          · rw [if_pos (ilt g (by omega) (by omega))]
            by_cases e : 0 ≤ k ∧ k < sM s 0
            · rw [if_pos e, if_neg n10, if_pos (show 1 ≤ k ∧ k < sM s 0 by omega)]
              by_cases f : 0 ≤ v ∧ v ≤ 9999
              · rw [if_pos f, if_neg n10, if_pos f]
                congr 2
                omega
              · rw [if_neg f, if_pos rfl, if_neg f]
            · rw [if_neg e, if_pos rfl, if_neg (show ¬ (1 ≤ k ∧ k < sM s 0) by omega)]
              by_cases f : 0 ≤ v ∧ v ≤ 9999
              · rw [if_pos f]
              · rw [if_neg f]
          · rw [if_neg (inlt (by omega) (by omega) (by omega)), if_neg (show ¬ (1 ≤ k ∧ k < sM s 0) by omega)]
            by_cases f : 0 ≤ v ∧ v ≤ 9999
            · rw [if_pos f]
            · rw [if_neg f]
        · rw [if_neg (ine a3 h1 h2 (by omega) (by omega)), if_neg a3]
          by_cases a4 : a = 4
          · rw [if_pos (by rw [a4]), if_pos a4]
            by_cases e : 0 ≤ k ∧ k < sM s 1
            · rw [if_pos e, if_neg n10]
              by_cases f : 0 ≤ v ∧ v ≤ 1
              · rw [if_pos f, if_neg n10, if_pos (show 0 ≤ v ∧ v ≤ 9999 by omega), if_pos (show v ≤ 1 ∧ (0 ≤ k ∧ k < sM s 1) from ⟨f.2, e⟩)]
                congr 2
                omega
              · rw [if_neg f, if_pos rfl]
                by_cases g : 0 ≤ v ∧ v ≤ 9999
                · rw [if_pos g, if_neg (show ¬ (v ≤ 1 ∧ (0 ≤ k ∧ k < sM s 1)) by omega)]
                · rw [if_neg g]
            · rw [if_neg e, if_pos rfl, if_neg (show ¬ (v ≤ 1 ∧ (0 ≤ k ∧ k < sM s 1)) from fun x => e x.2)]
              by_cases f : 0 ≤ v ∧ v ≤ 9999
              · rw [if_pos f]
              · rw [if_neg f]
          · rw [if_neg (ine a4 h1 h2 (by omega) (by omega)), if_neg a4]
            by_cases f : 0 ≤ v ∧ v ≤ 9999
            · rw [if_pos f]
            · rw [if_neg f]
end
