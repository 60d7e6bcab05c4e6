/-! the reference's reads -/
section
variable {mm : Mem} {M : WM}
theorem bok_c {β : Type} (c : Prop) [Decidable c] (K : Option β) : bok (ii (if c then 1 else 0)) K = K := by
  by_cases h : c
  · rw [if_pos h]; exact bok_1 K
  · rw [if_neg h]; exact bok_0 K
theorem f7_in_ok {a b c : Int} (h1 : -2147483648 ≤ a) (h2 : a < 2147483648) (h3 : -2147483648 ≤ b) (h4 : b < 2147483648) (h5 : -2147483648 ≤ c) (h6 : c < 2147483648) : f7_in mm (ii a) (ii b) (ii c) = some (ii (if b ≤ a ∧ a ≤ c then 1 else 0)) := f6_within_ok (mm := mm) h1 h2 h3 h4 h5 h6
theorem f7_isZone_ok (h : RK mm M) (hr : 1 ≤ M 0 ∧ M 0 ≤ 6) {a : Int} (h1 : -2147483648 ≤ a) (h2 : a < 2147483648) : f7_isZone mm (ii a) = some (ii (if 0 ≤ a ∧ a < M 0 then 1 else 0)) := by
  unfold f7_isZone
  rw [l0, l1, rd1 h (k := 0) (by omega) (by omega), ii_sub, f7_in_ok h1 h2 (by omega) (by omega) (by omega) (by omega), bd_some, bok_c]
  by_cases c : 0 ≤ a ∧ a < M 0
  · rw [if_pos c, if_pos (by omega)]
  · rw [if_neg c, if_neg (by omega)]
theorem f7_isResource_ok (h : RK mm M) (hr : 0 ≤ M 1 ∧ M 1 ≤ 12) {a : Int} (h1 : -2147483648 ≤ a) (h2 : a < 2147483648) : f7_isResource mm (ii a) = some (ii (if 0 ≤ a ∧ a < M 1 then 1 else 0)) := by
  unfold f7_isResource
  rw [l0, l1, rd1 h (k := 1) (by omega) (by omega), ii_sub, f7_in_ok h1 h2 (by omega) (by omega) (by omega) (by omega), bd_some, bok_c]
  by_cases c : 0 ≤ a ∧ a < M 1
  · rw [if_pos c, if_pos (by omega)]
  · rw [if_neg c, if_neg (by omega)]
theorem f7_isPrice_ok {a : Int} (h1 : -2147483648 ≤ a) (h2 : a < 2147483648) : f7_isPrice mm (ii a) = some (ii (if 0 ≤ a ∧ a ≤ 9999 then 1 else 0)) := by
  unfold f7_isPrice
  rw [l0, l9999, f7_in_ok h1 h2 (by omega) (by omega) (by omega) (by omega), bd_some, bok_c]
theorem f7_ofZone_ok (h : RK mm M) {z k : Nat} (hz : z < 6) (hk : k < 12) {j : Nat} (hj : j = 7 + 12 * z + k) {i : Int} (hi : i = k) : f7_ofZone mm (ii z) (ii i) = some (ii (M j)) := by
  subst hj
  unfold f7_ofZone
  rw [l7, l12, ii_mul, ii_add, ii_add, rd1 h (k := 7 + 12 * z + k) (by omega) (by omega)]
theorem f7_ofResource_ok (h : RK mm M) {r k : Nat} (hr : r < 12) (hk : k < 13) {j : Nat} (hj : j = 79 + 13 * r + k) {i : Int} (hi : i = k) : f7_ofResource mm (ii r) (ii i) = some (ii (M j)) := by
  subst hj
  unfold f7_ofResource
  rw [l79, l13, ii_mul, ii_add, ii_add, rd1 h (k := 79 + 13 * r + k) (by omega) (by omega)]
theorem f7_pointUnits_ok (h : RK mm M) {z k : Nat} (hz : z < 6) (hk : k < 4) {i : Int} (hi : i = k) : f7_pointUnits mm (ii z) (ii i) = some (ii (pu M z k)) := by
  unfold f7_pointUnits
  rw [l7, l12, l4, l2, ii_mul, ii_mul, ii_add, ii_add, ii_add, rd1 h (k := 11 + 12 * z + 2 * k) (by omega) (by omega)]
  rfl
theorem f7_pointPrice_ok (h : RK mm M) {z k : Nat} (hz : z < 6) (hk : k < 4) {i : Int} (hi : i = k) : f7_pointPrice mm (ii z) (ii i) = some (ii (pp M z k)) := by
  unfold f7_pointPrice
  rw [l7, l12, l5, l2, ii_mul, ii_mul, ii_add, ii_add, ii_add, rd1 h (k := 12 + 12 * z + 2 * k) (by omega) (by omega)]
  rfl
theorem f7_npt (h : RK mm M) {z : Nat} (hw : ZW M z) (hz : z < 6) {i : Int} (hi : i = 3) : f7_ofZone mm (ii z) (ii i) = some (ii (npt M z)) := by
  rw [f7_ofZone_ok h hz (k := 3) (by omega) (j := 10 + 12 * z) (by omega) hi, npt_c hw]
theorem f7_wanted_ok (h : RK mm M) {z : Nat} (hw : ZW M z) (hz : z < 6) : f7_wanted mm (ii z) = some (ii (wan M z)) := by
  have hn := npt_le hw
  unfold f7_wanted wan
  rw [l3, f7_npt h hw hz rfl, bd_some, l0, l1]
  by_cases e : npt M z = 0
  · rw [if_pos (by rw [e]; rfl), if_pos e]
  · rw [if_neg (ine (by omega) (by omega) (by omega) (by omega) (by omega)), if_neg e, bd_some, ii_sub, f7_pointUnits_ok h hz (k := npt M z - 1) (by omega) (by omega), bd_some]
theorem v33 (h : RK mm M) {z : Nat} (hw : ZW M z) (hz : z < 6) {u : Int} (hu1 : -2147483648 ≤ u) (hu2 : u < 2147483648) {k : Nat} (hk : k ≤ npt M z) (hb : ∀ i, i < k → pu M z i < u) (ha : k < npt M z → u ≤ pu M z k) : f7_worthOf_j33 mm (ii z) (ii u) (ii (npt M z)) (ii k) = some (ii (if k = npt M z then -1 else if u < 1 then -1 else seg M z k u)) := by
  have hn := npt_le hw
  unfold f7_worthOf_j33
  rw [l1, l0, ii_neg]
  by_cases c : k = npt M z
  · rw [if_pos (by rw [c]), if_pos c]
  · rw [if_neg (ine (by omega) (by omega) (by omega) (by omega) (by omega)), if_neg c]
    by_cases d : u < 1
    · rw [if_pos (ilt d (by omega) (by omega)), if_pos d]
    · rw [if_neg (inlt (by omega) (by omega) (by omega)), if_neg d]
      by_cases e : k = 0
      · rw [if_pos (by rw [e]; rfl), f7_pointPrice_ok h hz (k := 0) (by omega) (by omega), bd_some]
        unfold seg
        rw [if_pos e]
      · have q := XV_bd hw (k := k) (by omega)
        have hx : Xk M z k ≤ u := by
          unfold Xk
          rw [if_neg e]; have := hb (k - 1) (by omega); omega
        have f := fall_bd hw (k := k) (by omega) hx (ha (by omega))
        rw [if_neg (ine (by omega) (by omega) (by omega) (by omega) (by omega)), ii_sub, f7_pointUnits_ok h hz (k := k - 1) (by omega) (by omega), bd_some, f7_pointPrice_ok h hz (k := k - 1) (by omega) (by omega), bd_some, f7_pointPrice_ok h hz (k := k) (by omega) (by omega), bd_some, f7_pointUnits_ok h hz (k := k) (by omega) (by omega), bd_some]
        rw [seg_XV hw]
        unfold Xk Vk at *
        rw [if_neg e] at q f ⊢
        rw [if_neg e] at q f ⊢
        rw [ii_sub, dvz_ii (by omega) (by omega) (by omega), ii_sub, ii_sub, ii_mul, ii_div f.1 f.2 (by omega) (by omega), ii_sub]
theorem v10 (h : RK mm M) {z : Nat} (hw : ZW M z) (hz : z < 6) {u : Int} (hu1 : -2147483648 ≤ u) (hu2 : u < 2147483648) : ∀ (d k n : Nat), k + d = npt M z → d < n → (∀ i, i < k → pu M z i < u) → f7_worthOf_l10 mm n (ii z) (ii u) (ii (npt M z)) (ii k) = some (ii (if ffl (fun i => u ≤ pu M z i) d k = npt M z then -1 else if u < 1 then -1 else seg M z (ffl (fun i => u ≤ pu M z i) d k) u)) := by
  have hn := npt_le hw
  intro d
  induction d with
  | zero =>
    intro k n hk hdn hb
    obtain ⟨m, rfl⟩ : ∃ m, n = m + 1 := ⟨n - 1, by omega⟩
    rw [f7_worthOf_l10, if_neg (inlt (by omega) (by omega) (by omega)), ffl, v33 h hw hz hu1 hu2 (by omega) hb (fun e => by omega)]
  | succ d ih =>
    intro k n hk hdn hb
    obtain ⟨m, rfl⟩ : ∃ m, n = m + 1 := ⟨n - 1, by omega⟩
    have a := hw.pt (k := k) (by omega)
    rw [f7_worthOf_l10, if_pos (ilt (by omega) (by omega) (by omega)), f7_pointUnits_ok h hz (k := k) (by omega) (by omega), bd_some, ffl]
    by_cases c : u ≤ pu M z k
    · rw [if_neg (inlt c (by omega) (by omega)), if_pos c, v33 h hw hz hu1 hu2 (by omega) hb (fun _ => c)]
    · rw [if_pos (ilt (by omega) (by omega) (by omega)), nm_eq, iSu, if_neg c]
      exact ih (k + 1) m (by omega) (by omega) (fun i hi => by
        by_cases e : i = k
        · subst e; omega
        · exact hb i (by omega))
theorem f7_worthOf_ok (h : RK mm M) {z : Nat} (hw : ZW M z) (hz : z < 6) {u : Int} (hu1 : -2147483648 ≤ u) (hu2 : u < 2147483648) : f7_worthOf mm (ii z) (ii u) = some (ii (wor M z u)) := by
  unfold f7_worthOf
  rw [l3, f7_npt h hw hz rfl, bd_some, l0]
  exact v10 h hw hz hu1 hu2 (npt M z) 0 FU (by omega) (by have := npt_le hw; unfold FU; omega) (fun i hi => by omega)
theorem v9 (h : RK mm M) {z : Nat} (hw : ZW M z) (hz : z < 6) {p : Int} (hp1 : 0 ≤ p) (hp2 : p ≤ 10000) : ∀ (d n : Nat) (lo hi : Int), hi - lo ≤ d → d < n → 0 ≤ lo → lo ≤ Wt M z p → Wt M z p ≤ hi → hi ≤ wan M z → f7_wantedAt_l9 mm n (ii z) (ii p) (ii lo) (ii hi) = some (ii (Wt M z p)) := by
  have hwb := wan_le hw
  intro d
  induction d with
  | zero =>
    intro n lo hi hd hdn h1 h2 h3 h4
    obtain ⟨m, rfl⟩ : ∃ m, n = m + 1 := ⟨n - 1, by omega⟩
    have e : lo = Wt M z p := by omega
    rw [f7_wantedAt_l9, if_neg (inlt (by omega) (by omega) (by omega)), e]
  | succ d ih =>
    intro n lo hi hd hdn h1 h2 h3 h4
    obtain ⟨m, rfl⟩ : ∃ m, n = m + 1 := ⟨n - 1, by omega⟩
    rw [f7_wantedAt_l9]
    by_cases c : lo < hi
    · have g1 : 1 ≤ (lo + hi + 1) / 2 := by omega
      have g2 : (lo + hi + 1) / 2 ≤ hi := by omega
      have g3 : lo + 1 ≤ (lo + hi + 1) / 2 := by omega
      rw [if_pos (ilt c (by omega) (by omega)), l2, dvz_ii (by omega) (by omega) (by omega), l1, ii_add, ii_add, ii_div (by omega) (by omega) (by omega) (by omega), nm_eq]
      generalize (lo + hi + 1) / 2 = v at *
      have wb := wor_bd hw (u := v) g1 (by omega)
      have wi := Wt_iff hw (u := v) p g1 (by omega)
      have fp : pp M z 0 ≤ 9999 := by
        have : npt M z ≠ 0 := fun e0 => by
          have e1 : wan M z = 0 := by unfold wan; rw [if_pos e0]
          omega
        exact (hw.pt (k := 0) (by omega)).2.2.2
      rw [f7_worthOf_ok h hw hz (by omega) (by omega), bd_some]
      by_cases e : wor M z v < p
      · rw [if_pos (ilt e (by omega) (by omega)), ii_sub, nm_eq]
        unfold f7_wantedAt_j48
        exact ih m lo (v - 1) (by omega) (by omega) h1 h2 (by omega) (by omega)
      · rw [if_neg (inlt (by omega) (by omega) (by omega))]
        unfold f7_wantedAt_j48
        exact ih m v hi (by omega) (by omega) (by omega) (by omega) h3 h4
    · have e : lo = Wt M z p := by omega
      rw [if_neg (inlt (by omega) (by omega) (by omega)), e]
theorem f7_wantedAt_ok (h : RK mm M) {z : Nat} (hw : ZW M z) (hz : z < 6) {p : Int} (hp1 : 0 ≤ p) (hp2 : p ≤ 10000) : f7_wantedAt mm (ii z) (ii p) = some (ii (Wt M z p)) := by
  have a := Wt_bd hw p
  have b := wan_le hw
  unfold f7_wantedAt
  rw [f7_wanted_ok h hw hz, bd_some, l0]
  exact v9 h hw hz hp1 hp2 2000 FU 0 (wan M z) (by omega) (by unfold FU; omega) (by omega) a.1 a.2.1 (by omega)
theorem f7_stp (h : RK mm M) {r : Nat} (hw : RW M r) (hr : r < 12) {i : Int} (hi : i = 6) : f7_ofResource mm (ii r) (ii i) = some (ii (stp M r)) := by
  rw [f7_ofResource_ok h hr (k := 6) (by omega) (j := 85 + 13 * r) (by omega) hi, stp_c hw]
theorem v60 (h : RK mm M) {r : Nat} (hw : RW M r) (hr : r < 12) : ∀ (d k n : Nat), k + d = stp M r → d < n → f7_lineUnits_l60 mm n (ii r) (ii (stp M r)) (ii (M (80 + 13 * r) - sm k (su M r))) (ii k) = some (ii (rest M r)) := by
  have hs := stp_le hw
  intro d
  induction d with
  | zero =>
    intro k n hk hdn
    obtain ⟨m, rfl⟩ : ∃ m, n = m + 1 := ⟨n - 1, by omega⟩
    rw [f7_lineUnits_l60, if_neg (inlt (by omega) (by omega) (by omega))]
    unfold rest
    have e : k = stp M r := by omega
    rw [e]
  | succ d ih =>
    intro k n hk hdn
    obtain ⟨m, rfl⟩ : ∃ m, n = m + 1 := ⟨n - 1, by omega⟩
    rw [f7_lineUnits_l60, if_pos (ilt (by omega) (by omega) (by omega)), l79, l13, l7, l2, ii_mul, ii_mul, ii_add, ii_add, ii_add, rd1 h (k := 86 + 13 * r + 2 * k) (by omega) (by omega), ii_sub, nm_eq, iSu, nm_eq]
    have e : M (80 + 13 * r) - sm k (su M r) - M (86 + 13 * r + 2 * k) = M (80 + 13 * r) - sm (k + 1) (su M r) := by rw [sm_s]; unfold su; omega
    rw [e]
    exact ih (k + 1) m (by omega) (by omega)
theorem f7_lineUnits_ok (h : RK mm M) {r : Nat} (hw : RW M r) (hr : r < 12) {k : Nat} (hk : k < 4) : f7_lineUnits mm (ii r) (ii k) = some (ii (lu M r k)) := by
  have hs := stp_le hw
  have b := hw.2.2.2.2.1
  unfold f7_lineUnits lu
  rw [l6, f7_stp h hw hr rfl, bd_some, l0, l1, l3, l4]
  by_cases c : k < stp M r
  · rw [if_pos (ilt (by omega) (by omega) (by omega)), l79, l13, l7, l2, ii_mul, ii_mul, ii_add, ii_add, ii_add, rd1 h (k := 86 + 13 * r + 2 * k) (by omega) (by omega), if_neg (by omega), if_pos c]
    rfl
  · rw [if_neg (inlt (by omega) (by omega) (by omega))]
    by_cases d : k = 3
    · rw [if_pos (by rw [d]; rfl), if_pos d, f7_ofResource_ok h hr (k := 4) (by omega) (j := 83 + 13 * r) (by omega) (by omega), bd_some]
      by_cases e : M (83 + 13 * r) = 1
      · rw [if_neg (by rw [e]; exact ine (by omega) (by omega) (by omega) (by omega) (by omega)), if_pos e, f7_ofResource_ok h hr (k := 1) (by omega) (j := 80 + 13 * r) (by omega) (by omega), bd_some]
        have q := v60 h hw hr (stp M r) 0 FU (by omega) (by unfold FU; omega)
        rw [sm_0, Int.sub_zero] at q
        exact q
      · have e0 : M (83 + 13 * r) = 0 := by omega
        rw [if_pos (by rw [e0]), if_neg e]
    · rw [if_neg (ine (by omega) (by omega) (by omega) (by omega) (by omega)), if_neg d, if_neg c]
theorem v74 (h : RK mm M) (hM : WW M) {r : Nat} (hw : RW M r) (hr : r < 12) {v : Int} (h1 : -2147483648 ≤ v) (h2 : v < 2147483648) : f7_lineIts_j74 mm (ii r) (ii v) = some (ii (if M (83 + 13 * r) = 1 then min v (M 2) else v)) := by
  have b := hw.2.2.2.2.1
  have c := hM.ce
  unfold f7_lineIts_j74
  rw [l4, l1, l2, f7_ofResource_ok h hr (k := 4) (by omega) (j := 83 + 13 * r) (by omega) (by omega), bd_some]
  by_cases d : M (83 + 13 * r) = 1
  · rw [if_pos (by rw [d]), if_pos d, rd1 h (k := 2) (by omega) (by omega)]
    by_cases e : M 2 < v
    · rw [if_pos (ilt e (by omega) (by omega)), rd1 h (k := 2) (by omega) (by omega)]
      congr 2
      omega
    · rw [if_neg (inlt (by omega) (by omega) (by omega))]
      congr 2
      omega
  · rw [if_neg (ine d (by omega) (by omega) (by omega) (by omega)), if_neg d]
theorem v51 (h : RK mm M) (hM : WW M) {r : Nat} (hw : RW M r) (hr : r < 12) {v f : Int} (h1 : -2147483648 ≤ v) (h2 : v < 2147483648) (hf : 0 ≤ f ∧ f ≤ 9999) : f7_lineIts_j51 mm (ii r) (ii v) (ii f) = some (ii (if M (83 + 13 * r) = 1 then min (if M (84 + 13 * r) = 0 then max v f else v) (M 2) else (if M (84 + 13 * r) = 0 then max v f else v))) := by
  have b := hw.2.2.2.2.2.1
  unfold f7_lineIts_j51 f7_lineIts_j73
  rw [l5, l0, f7_ofResource_ok h hr (k := 5) (by omega) (j := 84 + 13 * r) (by omega) (by omega), bd_some]
  by_cases d : M (84 + 13 * r) = 0
  · rw [if_pos (by rw [d]), if_pos d]
    by_cases e : v < f
    · rw [if_pos (ilt e (by omega) (by omega)), v74 h hM hw hr (by omega) (by omega), Int.max_eq_right (by omega)]
    · rw [if_neg (inlt (by omega) (by omega) (by omega)), v74 h hM hw hr (by omega) (by omega), Int.max_eq_left (by omega)]
  · rw [if_neg (ine d (by omega) (by omega) (by omega) (by omega)), if_neg d, v74 h hM hw hr (by omega) (by omega)]
theorem f7_lineIts_ok (h : RK mm M) (hM : WW M) {r : Nat} (hw : RW M r) (hr : r < 12) {k : Nat} (hk : k < 4) (nf : Bool) (hnf : mm 0 6 = ii (if nf = true then 1 else 0)) : f7_lineIts mm (ii r) (ii k) = some (ii (li M r k (if nf = true then 0 else flr M r))) := by
  have f := flr_bd hM hw
  have kd := hw.2.2.1
  have a : -2147483648 ≤ sp M r k ∧ sp M r k < 2147483648 := hM.rg _
  unfold f7_lineIts li
  rw [l3, l0]
  by_cases c : k = 3
  · rw [if_pos (by rw [c]; rfl), if_pos c]
  · rw [if_neg (ine (by omega) (by omega) (by omega) (by omega) (by omega)), if_neg c, l79, l13, l8, l2, ii_mul, ii_mul, ii_add, ii_add, ii_add, rd1 h (k := 87 + 13 * r + 2 * k) (by omega) (by omega), hnf]
    have e : M (87 + 13 * r + 2 * k) = sp M r k := rfl
    rw [e]
    unfold lif
    cases nf with
    | false =>
      rw [if_pos (by rfl), f7_ofResource_ok h hr (k := 2) (by omega) (j := 81 + 13 * r) (by omega) (by omega), bd_some, ii_add, rd1 h (k := 3 + (M (81 + 13 * r)).toNat) (by omega) (by omega)]
      have e2 : M (3 + (M (81 + 13 * r)).toNat) = flr M r := rfl
      rw [e2, v51 h hM hw hr a.1 a.2 f]
      rfl
    | true =>
      rw [if_neg (ine (by decide) (by decide) (by decide) (by decide) (by decide)), v51 h hM hw hr a.1 a.2 (by omega)]
      rfl
theorem f7_isLine_ok (h : RK mm M) {r : Nat} (hw : RW M r) (hr : r < 12) {k : Int} (h3 : -2147483648 ≤ k) (h4 : k < 2147483648) : f7_isLine mm (ii r) (ii k) = some (ii (if (0 ≤ k ∧ k ≤ 3) ∧ 0 < lu M r k.toNat then 1 else 0)) := by
  unfold f7_isLine
  rw [l0, l3, l1, f7_in_ok h3 h4 (by omega) (by omega) (by omega) (by omega), bd_some]
  by_cases d : 0 ≤ k ∧ k ≤ 3
  · rw [if_pos d, if_neg (ine (by omega) (by omega) (by omega) (by omega) (by omega))]
    obtain ⟨j, rfl⟩ := Int.eq_ofNat_of_zero_le d.1
    have b := lu_bd hw j
    rw [f7_lineUnits_ok h hw hr (by omega), bd_some]
    simp only [Int.toNat_natCast]
    by_cases e : 0 < lu M r j
    · rw [if_pos (ilt e (by omega) (by omega)), if_pos ⟨d, e⟩]
    · rw [if_neg (inlt (by omega) (by omega) (by omega)), if_neg (fun x => e x.2)]
  · rw [if_neg d, if_pos rfl, if_neg (fun x => d x.1)]
end
