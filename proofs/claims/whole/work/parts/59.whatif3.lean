section
variable {mm m' : Mem} {s : ST}
/-- a limit of a zone made wider -/
def wdM (M : WM) (j : Nat) (n : Int) : WM := up M j (min 9999 (M j + n))
def wdS (M : WM) (a n b : Int) : Int := if (1 ≤ a ∧ a < M 0) ∧ (1 ≤ n ∧ n ≤ 9999) then sur (wdM M (8 + 12 * a.toNat + b.toNat) n) (Dc (wdM M (8 + 12 * a.toNat + b.toNat) n)) - sur M (Dc M) else -1000000000000000
theorem wdM_WF {M : WM} (hM : WF M) {z : Nat} (hz : z < zn M) {b : Nat} (hb : b = 0 ∨ b = 1) {n : Int} (hn : 1 ≤ n ∧ n ≤ 9999) : WF (wdM M (8 + 12 * z + b) n) := by
  have hw := wwz hM.1 hz
  have i1 := hw.2.1
  have i2 := hw.2.2.1
  refine WF_lim hM hz (by omega) ?_
  rcases hb with rfl | rfl
  · rw [Nat.add_zero]; omega
  · rw [show 8 + 12 * z + 1 = 9 + 12 * z by omega]; omega
theorem c_wider (h : CI mm s) (hs : SW s) {a n b : Int} (h1 : -2147483648 ≤ a) (h2 : a < 2147483648) (h3 : -2147483648 ≤ n) (h4 : n < 2147483648) (hb : b = 0 ∨ b = 1) : ∃ m', f6_wider mm (ii a) (ii n) (ii b) = some (ll (wdS (sM s) a n b), m') ∧ Fcl mm m' ∧ CI m' s := by
  have hzn := hs.1.1.zn
  have zc := zn_c hs.1.1
  unfold f6_wider wdS
  have HI : f5_hasInner mm 17 (ii a) = _ := f5_hasInner_ok h.z hzn h1 h2
  rw [HI, bd_some, l0, l1, l9999, f6_within_ok h3 h4 (by omega) (by omega) (by omega) (by omega), bd_some]
  by_cases c : 1 ≤ a ∧ a < sM s 0
  · rw [if_pos c, if_neg (by decide)]
    by_cases d : 1 ≤ n ∧ n ≤ 9999
    · rw [if_pos d, if_neg (by decide), if_pos ⟨c, d⟩]
      obtain ⟨z, rfl⟩ := Int.eq_ofNat_of_zero_le (show 0 ≤ a by omega)
      have hz : z < zn (sM s) := by omega
      have hw := wwz hs.1.1 hz
      have i1 := hw.2.1
      have i2 := hw.2.2.1
      obtain ⟨m0, a1, a2, a3, a4⟩ := c_clear h hs
      obtain ⟨m1, f1, f2, f3⟩ := c_trial a3
      have J : ∀ (k : Nat), (k = 0 ∨ k = 1) → ∀ q, q = 48 + k → ∃ m', f6_wider_j88 (ii z) (ii n) q m1 = some (ll (sur (wdM (sM s) (8 + 12 * z + k) n) (Dc (wdM (sM s) (8 + 12 * z + k) n)) - sur (sM s) (Dc (sM s))), m') ∧ Ftr m1 m' := by
        intro k hk q hq
        have hM' := wdM_WF hs.1 hz hk d
        have cz1 := cz_o z (by omega)
        have cq : cz (8 + 12 * z + k) = (2 + k, z) ∧ zj (8 + 12 * z + k) = true := by
          rcases hk with rfl | rfl
          · exact ⟨cz1.2.1, cz1.2.2.2.2.2.1⟩
          · rw [show 8 + 12 * z + 1 = 9 + 12 * z by omega]; exact ⟨cz1.2.2.1, cz1.2.2.2.2.2.2.1⟩
        have hln : ln q = 6 := by rcases hk with rfl | rfl <;> (subst hq; decide)
        have hv : m1 q z = ii (sM s (8 + 12 * z + k)) := by
          have t := zk_g f3.2.1 cq.1 cq.2
          have e : 44 + 1 + 1 + (2 + k) = q := by omega
          rw [e] at t
          exact t
        have lb : 0 ≤ sM s (8 + 12 * z + k) ∧ sM s (8 + 12 * z + k) ≤ 9999 := by
          rcases hk with rfl | rfl
          · exact i1
          · rw [show 8 + 12 * z + 1 = 9 + 12 * z by omega]; exact i2
        have zu := zk_up f3.2.1 cq.1 cq.2 (min 9999 (sM s (8 + 12 * z + k) + n))
        have fz : FrZ (44 + 1 + 1) m1 (up2 m1 (44 + 1 + 1 + (2 + k)) z (ii (min 9999 (sM s (8 + 12 * z + k) + n)))) := (FrZ.rf _ m1).u (by omega) _ _
        have A2 : AK (up2 m1 (44 + 1 + 1 + (2 + k)) z (ii (min 9999 (sM s (8 + 12 * z + k) + n)))) 44 (wdM (sM s) (8 + 12 * z + k) n) := f3.uz fz zu (fun j hj => by have := oj_z hj; exact up_ne _ _ (by omega))
        have e : 44 + 1 + 1 + (2 + k) = q := by omega
        rw [e] at A2 fz
        obtain ⟨m3, k1, k2, k3, k4⟩ := c_try A2 hM'
        have F : Ftr m1 m3 := (fz46 fz).tr k2
        refine ⟨m3, ?_, F⟩
        have A3 : AK m3 15 (sM s) := a3.ak.fr (fun c h1 h2 => by rw [F c (by omega), f2 c (by omega)])
        have C3 : CLS m3 15 (sM s) := a4.fr (fun c h1 h2 => by rw [F c (by omega), f2 c (by omega)])
        unfold f6_wider_j88
        rw [at_i m1 hln (by omega) (by omega), bd_some, hv, l9999, ii_add, mni_ii (by omega) (by omega) (by omega) (by omega), nm_eq, put_i m1 hln (by omega) (by omega), bd_some, k1, bd_some, surplusOfAll_ok k3 k4 hM', bd_some, surplusOfAll_ok A3 C3 hs.1, bd_some, ll_sub]
      rcases hb with rfl | rfl
      · obtain ⟨m3, k1, k2⟩ := J 0 (Or.inl rfl) 48 rfl
        refine ⟨m3, ?_, a2.tr (ftr_cl (f2.tr k2)), a3.tr (f2.tr k2)⟩
        rw [a1, bd_some, f1, bd_some, if_pos rfl, k1]
        rfl
      · obtain ⟨m3, k1, k2⟩ := J 1 (Or.inr rfl) 49 rfl
        refine ⟨m3, ?_, a2.tr (ftr_cl (f2.tr k2)), a3.tr (f2.tr k2)⟩
        rw [a1, bd_some, f1, bd_some, if_neg (by decide), k1]
        rfl
    · refine ⟨mm, ?_, Fcl.rf mm, h⟩
      rw [if_neg d, if_pos rfl, if_neg (fun x => d x.2)]
      rfl
  · refine ⟨mm, ?_, Fcl.rf mm, h⟩
    rw [if_neg c, if_pos rfl, if_neg (fun x => c x.1)]
    rfl
theorem wd_sur {M : WM} (hM : WF M) {z : Nat} (hz : z < zn M) {b : Nat} (hb : b = 0 ∨ b = 1) (n : Int) {m : Mem} (hM' : WF (wdM M (8 + 12 * z + b) n)) (hC : RCL m (wdM M (8 + 12 * z + b) n) (Dc (wdM M (8 + 12 * z + b) n))) : SR m M false (Sz (Dc (wdM M (8 + 12 * z + b) n))) (Tz (Dc (wdM M (8 + 12 * z + b) n))) (dJ (Dc (wdM M (8 + 12 * z + b) n))) ∧ sm (zn M) (fun y => wsm M y (Sz (Dc (wdM M (8 + 12 * z + b) n)) y)) - sm (4 * rn M) (fun i => dJ (Dc (wdM M (8 + 12 * z + b) n)) i * Tz (Dc (wdM M (8 + 12 * z + b) n)) i) = sur (wdM M (8 + 12 * z + b) n) (Dc (wdM M (8 + 12 * z + b) n)) := by
  have zb := zn_bd hM.1
  have o : ∀ j, j ≠ 8 + 12 * z + b → wdM M (8 + 12 * z + b) n j = M j := fun j hj => up_ne M _ hj
  have ez : zn (wdM M (8 + 12 * z + b) n) = zn M := by unfold zn; rw [o 0 (by omega)]
  have er : rn (wdM M (8 + 12 * z + b) n) = rn M := by unfold rn; rw [o 1 (by omega)]
  have pq : ∀ y, y < zn M → ∀ k, k < 4 → pu (wdM M (8 + 12 * z + b) n) y k = pu M y k ∧ pp (wdM M (8 + 12 * z + b) n) y k = pp M y k := fun y hy k hk => ⟨o _ (by omega), o _ (by omega)⟩
  have np : ∀ y, y < zn M → npt (wdM M (8 + 12 * z + b) n) y = npt M y := fun y hy => by unfold npt; rw [o _ (by omega)]
  have wo : ∀ y, y < zn M → ∀ u, wor (wdM M (8 + 12 * z + b) n) y u = wor M y u := fun y hy u => wor_c (pq y hy) (np y hy) (wwz hM.1 hy) u
  have wn : ∀ y, y < zn M → wan (wdM M (8 + 12 * z + b) n) y = wan M y := fun y hy => by
    have nl := npt_le (wwz hM.1 hy)
    unfold wan
    rw [np y hy]
    by_cases c : npt M y = 0
    · rw [if_pos c, if_pos c]
    · rw [if_neg c, if_neg c, (pq y hy _ (by omega)).1]
  have S0 := SR_of hM' hC
  constructor
  · refine ⟨fun y hy => ?_, fun i hi => ?_⟩
    · have t := S0.1 y (by rw [ez]; exact hy)
      rw [wn y hy] at t
      exact t
    · have t := S0.2 i (by rw [er]; exact hi)
      refine ⟨t.1, t.2.1, fun hne => ?_⟩
      have q := t.2.2 hne
      have oo : ∀ j, 79 + 13 * (i / 4) ≤ j → j < 92 + 13 * (i / 4) → wdM M (8 + 12 * z + b) n j = M j := fun j h1 h2 => o j (by omega)
      have e1 : flr (wdM M (8 + 12 * z + b) n) (i / 4) = flr M (i / 4) := flr_c hM.1 (by omega) (oo _ (by omega) (by omega)) (fun k hk => o _ (by omega))
      have q' : li (wdM M (8 + 12 * z + b) n) (i / 4) (i % 4) (flr (wdM M (8 + 12 * z + b) n) (i / 4)) = dJ (Dc (wdM M (8 + 12 * z + b) n)) i := q
      rw [e1, li_c oo (o 2 (by omega)) (by omega)] at q'
      exact q'
  · unfold sur
    rw [ez, er]
    congr 1
    refine sm_congr (fun y hy => ?_)
    unfold wsm
    exact sm_congr (fun k _ => (wo y hy _).symm)
theorem r_wider (h : RI mm s) (hs : SW s) {a n b : Int} (h1 : -2147483648 ≤ a) (h2 : a < 2147483648) (h3 : -2147483648 ≤ n) (h4 : n < 2147483648) (hb : b = 0 ∨ b = 1) : ∃ m', f7_wider mm (ii a) (ii n) (ii b) = some (ll (wdS (sM s) a n b), m') ∧ Frf mm m' ∧ RI m' s := by
  have hzn := hs.1.1.zn
  have zc := zn_c hs.1.1
  have h0 := h.u0 (k := 0) (by omega) (ii 0)
  unfold f7_wider wdS
  rw [l0, nm_eq, f7_isZone_ok h0.1 hzn h1 h2, bd_some, l1, l2, l7, l12, l9999, f7_in_ok h3 h4 (by omega) (by omega) (by omega) (by omega), bd_some]
  by_cases e0 : a = 0
  · refine ⟨_, ?_, frf_u0 mm 0 (ii 0), h0⟩
    rw [if_pos (by rw [e0]), if_neg (show ¬ ((1 ≤ a ∧ a < sM s 0) ∧ (1 ≤ n ∧ n ≤ 9999)) by omega)]
    rfl
  · rw [if_neg (ine e0 h1 h2 (by omega) (by omega))]
    by_cases c : 0 ≤ a ∧ a < sM s 0
    · rw [if_pos c, if_neg (by decide)]
      by_cases d : 1 ≤ n ∧ n ≤ 9999
      · rw [if_pos d, if_neg (by decide), if_pos (show (1 ≤ a ∧ a < sM s 0) ∧ (1 ≤ n ∧ n ≤ 9999) by omega)]
        obtain ⟨z, rfl⟩ := Int.eq_ofNat_of_zero_le c.1
        have hz : z < zn (sM s) := by omega
        have hw := wwz hs.1.1 hz
        have i1 := hw.2.1
        have i2 := hw.2.2.1
        obtain ⟨m1, a1, a2, a3, a4, a5⟩ := r_clearsAll h0 hs
        have hsur := f7_surplusNow_ok a4 hs.1 (SR_of hs.1 a5)
        have hsur : f7_surplusNow m1 = some (ll (sur (sM s) (Dc (sM s)))) := hsur
        have J : ∀ (k : Nat), (k = 0 ∨ k = 1) → ∃ m', f7_wider_j58 (ii n) (ll (sur (sM s) (Dc (sM s)))) (ii ((1 : Int) + k)) (ii (7 + 12 * (z : Int))) m1 = some (ll (sur (wdM (sM s) (8 + 12 * z + k) n) (Dc (wdM (sM s) (8 + 12 * z + k) n)) - sur (sM s) (Dc (sM s))), m') ∧ Frf m1 m' ∧ RI m' s := by
          intro k hk
          have hM' := wdM_WF hs.1 hz hk d
          have lb : 0 ≤ sM s (8 + 12 * z + k) ∧ sM s (8 + 12 * z + k) ≤ 9999 := by
            rcases hk with rfl | rfl
            · exact i1
            · rw [show 8 + 12 * z + 1 = 9 + 12 * z by omega]; exact i2
          have run : ∀ v : Int, v = min 9999 (sM s (8 + 12 * z + k) + n) → ∃ m', f7_wider_j96 (ll (sur (sM s) (Dc (sM s)))) (ii ((8 + 12 * z + k : Nat) : Int)) (ii (sM s (8 + 12 * z + k))) (ii v) (ii ((8 + 12 * z + k : Nat) : Int)) m1 = some (ll (sur (wdM (sM s) (8 + 12 * z + k) n) (Dc (wdM (sM s) (8 + 12 * z + k) n)) - sur (sM s) (Dc (sM s))), m') ∧ Frf m1 m' ∧ RI m' s := by
            intro v hv
            have w1 := a3.w1 (8 + 12 * z + k) v
            have hs' : SW (sset s (up (sM s) (8 + 12 * z + k) v)) := hs.ups (by rw [hv]; exact hM')
            obtain ⟨m2, k1, k2, k3, k4, k5, k6⟩ := r_clear w1 hs' (g := ii 0) (nf := false) (by rw [up2_c _ _ _ _ (by omega)]; exact a4.2.1) (by rw [up2_c _ _ _ _ (by omega)]; exact a4.2.2)
            have w2 := k3.w1 (8 + 12 * z + k) (sM s (8 + 12 * z + k))
            have es : sset (sset s (up (sM s) (8 + 12 * z + k) v)) (up (sM (sset s (up (sM s) (8 + 12 * z + k) v))) (8 + 12 * z + k) (sM s (8 + 12 * z + k))) = s := by
              have e : up (up (sM s) (8 + 12 * z + k) v) (8 + 12 * z + k) (sM s (8 + 12 * z + k)) = sM s := by
                funext j
                by_cases ej : j = 8 + 12 * z + k
                · rw [ej, up_eq]
                · rw [up_ne _ _ ej, up_ne _ _ ej]
              show (up (up (sM s) (8 + 12 * z + k) v) (8 + 12 * z + k) (sM s (8 + 12 * z + k)), s.2) = s
              rw [e]
              rfl
            rw [es] at w2
            have R2 : RC (up2 m2 1 (8 + 12 * z + k) (ii (sM s (8 + 12 * z + k)))) (sM s) (ii 0) false := ⟨w2.1, by rw [up2_c _ _ _ _ (by omega)]; exact k4.2.1, by rw [up2_c _ _ _ _ (by omega)]; exact k4.2.2⟩
            have k5' : RCL m2 (wdM (sM s) (8 + 12 * z + k) n) (Dc (wdM (sM s) (8 + 12 * z + k) n)) := by
              have t := k5
              rw [hv] at t
              exact t
            have k5'' : RCL (up2 m2 1 (8 + 12 * z + k) (ii (sM s (8 + 12 * z + k)))) (wdM (sM s) (8 + 12 * z + k) n) (Dc (wdM (sM s) (8 + 12 * z + k) n)) := ⟨fun y hy => by rw [up2_c _ _ _ _ (by omega), up2_c _ _ _ _ (by omega), up2_c _ _ _ _ (by omega)]; exact k5'.1 y hy, fun i hi => by rw [up2_c _ _ _ _ (by omega)]; exact k5'.2 i hi⟩
            obtain ⟨t1, t2⟩ := wd_sur hs.1 hz hk n hM' k5''
            have t3 := f7_surplusNow_ok R2 hs.1 t1
            rw [t2] at t3
            refine ⟨_, ?_, ((frf_u1 m1 (8 + 12 * z + k) (ii v)).tr k2).tr (frf_u1 _ (8 + 12 * z + k) (ii (sM s (8 + 12 * z + k)))), w2⟩
            unfold f7_wider_j96
            rw [wrq _ lnR.1 (k := 8 + 12 * z + k) (by omega) (by omega) rfl, k1, bd_some, wrq _ lnR.1 (k := 8 + 12 * z + k) (by omega) (by omega) rfl, t3, bd_some, ll_sub]
          unfold f7_wider_j58
          have ei : 7 + 12 * (z : Int) + (1 + (k : Int)) = ((8 + 12 * z + k : Nat) : Int) := by omega
          rw [ii_add, nm_eq, ei, rd1 a3.1 (k := 8 + 12 * z + k) (by omega) rfl, ii_add, l9999]
          by_cases g : 9999 < sM s (8 + 12 * z + k) + n
          · rw [if_pos (ilt g (by omega) (by omega))]
            exact run 9999 (by omega)
          · rw [if_neg (inlt (by omega) (by omega) (by omega))]
            exact run _ (by omega)
        have F0 := (frf_u0 mm 0 (ii 0)).tr a2
        rw [a1, bd_some, hsur, bd_some, ii_mul, ii_add]
        rcases hb with rfl | rfl
        · obtain ⟨m3, k1, k2, k3⟩ := J 0 (Or.inl rfl)
          refine ⟨m3, ?_, F0.tr k2, k3⟩
          rw [if_pos rfl]
          exact k1
        · obtain ⟨m3, k1, k2, k3⟩ := J 1 (Or.inr rfl)
          refine ⟨m3, ?_, F0.tr k2, k3⟩
          rw [if_neg (by decide)]
          exact k1
      · refine ⟨_, ?_, frf_u0 mm 0 (ii 0), h0⟩
        rw [if_neg d, if_pos rfl, if_neg (show ¬ ((1 ≤ a ∧ a < sM s 0) ∧ (1 ≤ n ∧ n ≤ 9999)) from fun x => d x.2)]
        rfl
    · refine ⟨_, ?_, frf_u0 mm 0 (ii 0), h0⟩
      rw [if_neg c, if_pos rfl, if_neg (show ¬ ((1 ≤ a ∧ a < sM s 0) ∧ (1 ≤ n ∧ n ≤ 9999)) by omega)]
      rfl
end
