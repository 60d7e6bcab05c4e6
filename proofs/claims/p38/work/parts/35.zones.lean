/-! the class's zones -/
theorem ilt {a b : Int} (h : a < b) (h1 : -2147483648 ≤ a) (h2 : b < 2147483648) : ii a < ii b := by rw [ii_lt h1 (by omega) (by omega) h2]; exact h
theorem inlt {a b : Int} (h : b ≤ a) (h1 : -2147483648 ≤ b) (h2 : a < 2147483648) : ¬ ii a < ii b := by rw [ii_lt (by omega) h2 h1 (by omega)]; omega
theorem ine {a b : Int} (h : a ≠ b) (h1 : -2147483648 ≤ a) (h2 : a < 2147483648) (h3 : -2147483648 ≤ b) (h4 : b < 2147483648) : ¬ ii a = ii b := by rw [ii_eq h1 h2 h3 h4]; exact h
theorem iSu (k : Nat) : ii (k : Int) + 1 = ii ((k + 1 : Nat) : Int) := by rw [l1, ii_add]; rfl
theorem npt_c {M : WM} {z : Nat} (hw : ZW M z) : M (10 + 12 * z) = (npt M z : Int) := by
  have := hw.2.2.2.1
  unfold npt
  omega
theorem stp_c {M : WM} {r : Nat} (hw : RW M r) : M (85 + 13 * r) = (stp M r : Int) := by
  have := hw.2.2.2.2.2.2.1
  unfold stp
  omega
section
variable {mm : Mem} {y : Nat} {M : WM} {z : Nat}
theorem z_npt (h : ZK mm y M) (hw : ZW M z) (hz : z < 6) : f6_at mm (y + 4) (ii z) = some (ii (npt M z)) := by rw [z_pts h hz, npt_c hw]
theorem f5_wanted_ok (h : ZK mm y M) (hw : ZW M z) (hz : z < 6) : f5_wanted mm y (ii z) = some (ii (wan M z)) := by
  have hn := npt_le hw
  unfold f5_wanted wan
  rw [z_npt h hw hz, bd_some]
  by_cases e : npt M z = 0
  · rw [if_pos (by rw [e]; rfl), if_pos e]; rfl
  · rw [if_neg (by rw [l0]; exact ine (by omega) (by omega) (by omega) (by omega) (by omega)), if_neg e, l4, l1, ii_mul, ii_add, ii_sub, z_pu h hz (k := npt M z - 1) (by omega) (by omega), bd_some]
theorem f5_lastPrice_ok (h : ZK mm y M) (hw : ZW M z) (hz : z < 6) : f5_lastPrice mm y (ii z) = some (ii (if npt M z = 0 then 9999 else pp M z (npt M z - 1))) := by
  have hn := npt_le hw
  unfold f5_lastPrice
  rw [z_npt h hw hz, bd_some]
  by_cases e : npt M z = 0
  · rw [if_pos (by rw [e]; rfl), if_pos e, l9999]
  · rw [if_neg (by rw [l0]; exact ine (by omega) (by omega) (by omega) (by omega) (by omega)), if_neg e, l4, l1, ii_mul, ii_add, ii_sub, z_pp h hz (k := npt M z - 1) (by omega) (by omega), bd_some]
theorem f5_firstPrice_ok (h : ZK mm y M) (hw : ZW M z) (hz : z < 6) : f5_firstPrice mm y (ii z) = some (ii (fpr M z)) := by
  have hn := npt_le hw
  unfold f5_firstPrice fpr
  rw [z_npt h hw hz, bd_some]
  by_cases e : npt M z = 0
  · rw [if_pos (by rw [e]; rfl), if_pos e]; rfl
  · rw [if_neg (by rw [l0]; exact ine (by omega) (by omega) (by omega) (by omega) (by omega)), if_neg e, l4, ii_mul, z_pp h hz (k := 0) (by omega) (by omega), bd_some]
theorem f5_fallen_ok {a b c : Int} (h0 : 0 ≤ a * b) (h1 : a * b < 2147483648) (hc : 0 < c) (hc2 : c < 2147483648) : f5_fallen mm (ii a) (ii b) (ii c) = some (ii (a * b / c)) := by
  unfold f5_fallen
  rw [l0, if_pos (ilt hc (by omega) hc2), dvz_ii (by omega) hc2 (by omega), ii_mul, ii_div h0 h1 hc hc2]
def Xk (M : WM) (z k : Nat) : Int := if k = 0 then 0 else pu M z (k - 1)
def Vk (M : WM) (z k : Nat) : Int := if k = 0 then pp M z 0 else pp M z (k - 1)
theorem Xk_s (M : WM) (z k : Nat) : Xk M z (k + 1) = pu M z k := rfl
theorem Vk_s (M : WM) (z k : Nat) : Vk M z (k + 1) = pp M z k := rfl
theorem XV_bd (hw : ZW M z) {k : Nat} (hk : k < npt M z) : 0 ≤ Xk M z k ∧ Xk M z k < pu M z k ∧ pp M z k ≤ Vk M z k ∧ Vk M z k ≤ 9999 ∧ pu M z k ≤ 2000 ∧ 0 ≤ pp M z k := by
  have a := hw.pt hk
  unfold Xk Vk
  by_cases e : k = 0
  · subst e; rw [if_pos rfl, if_pos rfl]; omega
  · rw [if_neg e, if_neg e]
    have b := hw.pt (k := k - 1) (by omega)
    have c := hw.nx (k := k - 1) (by omega)
    have e1 : k - 1 + 1 = k := by omega
    rw [e1] at c
    omega
theorem seg_XV (hw : ZW M z) {k : Nat} (u : Int) : seg M z k u = Vk M z k - (Vk M z k - pp M z k) * (u - Xk M z k) / (pu M z k - Xk M z k) := by
  unfold seg Vk Xk
  by_cases e : k = 0
  · subst e; rw [if_pos rfl, if_pos rfl, if_pos rfl, Int.sub_self, Int.zero_mul, Int.zero_ediv]; omega
  · rw [if_neg e, if_neg e, if_neg e]
theorem fall_bd (hw : ZW M z) {k : Nat} (hk : k < npt M z) {u : Int} (h1 : Xk M z k ≤ u) (h2 : u ≤ pu M z k) : 0 ≤ (Vk M z k - pp M z k) * (u - Xk M z k) ∧ (Vk M z k - pp M z k) * (u - Xk M z k) < 2147483648 := by
  have a := XV_bd hw hk
  constructor
  · exact Int.mul_nonneg (by omega) (by omega)
  · have b : (Vk M z k - pp M z k) * (u - Xk M z k) ≤ 9999 * 2000 := Int.mul_le_mul (by omega) (by omega) (by omega) (by omega)
    omega
theorem w24 (h : ZK mm y M) (hw : ZW M z) (hz : z < 6) {u : Int} (hu1 : 1 ≤ u) (hu2 : u < 2147483648) : ∀ (d k n : Nat), k + d = npt M z → d < n → (∀ i, i < k → pu M z i < u) → f5_worthOf_l24 mm n y (ii z) (ii u) (ii (Xk M z k)) (ii (Vk M z k)) (ii k) = some (ii (if ffl (fun i => u ≤ pu M z i) d k = npt M z then -1 else seg M z (ffl (fun i => u ≤ pu M z i) d k) u)) := by
  have hn := npt_le hw
  intro d
  induction d with
  | zero =>
    intro k n hk hdn hb
    obtain ⟨m, rfl⟩ : ∃ m, n = m + 1 := ⟨n - 1, by omega⟩
    rw [f5_worthOf_l24, z_npt h hw hz, bd_some, if_neg (inlt (by omega) (by omega) (by omega)), ffl, if_pos (by omega), lm1]
  | succ d ih =>
    intro k n hk hdn hb
    obtain ⟨m, rfl⟩ : ∃ m, n = m + 1 := ⟨n - 1, by omega⟩
    have a := XV_bd hw (k := k) (by omega)
    rw [f5_worthOf_l24, z_npt h hw hz, bd_some, if_pos (ilt (by omega) (by omega) (by omega)), l4, ii_mul, ii_add, z_pu h hz (k := k) (by omega) (by omega), bd_some, z_pp h hz (k := k) (by omega) (by omega), bd_some, ffl]
    by_cases c : u ≤ pu M z k
    · rw [if_neg (inlt c (by omega) (by omega)), ii_sub, ii_sub, ii_sub]
      have hx : Xk M z k ≤ u := by
        unfold Xk
        by_cases e : k = 0
        · rw [if_pos e]; omega
        · rw [if_neg e]; have := hb (k - 1) (by omega); omega
      have b := fall_bd hw (k := k) (by omega) hx c
      rw [f5_fallen_ok b.1 b.2 (by omega) (by omega), bd_some, ii_sub, if_pos c, if_neg (by omega), seg_XV hw]
    · rw [if_pos (ilt (by omega) (by omega) (by omega)), nm_eq, iSu, if_neg c]
      exact ih (k + 1) m (by omega) (by omega) (fun i hi => by
        by_cases e : i = k
        · subst e; omega
        · exact hb i (by omega))
theorem f5_worthOf_ok (h : ZK mm y M) (hw : ZW M z) (hz : z < 6) {u : Int} (hu1 : -2147483648 ≤ u) (hu2 : u < 2147483648) : f5_worthOf mm y (ii z) (ii u) = some (ii (wor M z u)) := by
  unfold f5_worthOf wor
  rw [l1]
  by_cases c : u < 1
  · rw [if_pos (ilt c (by omega) (by omega)), ii_neg]
    by_cases e : fk M z u = npt M z
    · rw [if_pos e]
    · rw [if_neg e, if_pos c]
  · rw [if_neg (inlt (by omega) (by omega) (by omega)), l4, ii_mul, z_pp h hz (k := 0) (by omega) (by omega), bd_some, l0]
    have q := w24 h hw hz (u := u) (by omega) hu2 (npt M z) 0 FU (by omega) (by have := npt_le hw; unfold FU; omega) (fun i hi => by omega)
    refine q.trans ?_
    unfold fk
    rw [if_neg c]
theorem f5_cut_ok (h : ZK mm y M) (hw : ZW M z) (hz : z < 6) {a : Int} (h1 : -2147483648 ≤ a) (h2 : a < 2147483648) : f5_cut mm y (ii z) (ii a) = some (ii (max (-(M (8 + 12 * z))) (min (M (9 + 12 * z)) a))) := by
  have b := hw.2.1
  have c := hw.2.2.1
  unfold f5_cut
  rw [z_in h hz, bd_some, z_ot h hz, bd_some, mni_ii (by omega) (by omega) h1 h2, nm_eq, ii_neg, mxi_ii (by omega) (by omega) (by omega) (by omega), nm_eq]
theorem w8 (h : ZK mm y M) (hw : ZW M z) (hz : z < 6) {p : Int} (hp1 : 0 ≤ p) (hp2 : p ≤ 10000) : ∀ (d k n : Nat), k + d = npt M z → d < n → (∀ i, i < k → p ≤ pp M z i) → f5_wantedFrom_l8 mm n y (ii z) (ii p) (ii (Xk M z k)) (ii (if k = 0 then 0 else pp M z (k - 1))) (ii k) = some (ii (if ffl (fun i => pp M z i < p) d k = npt M z then Xk M z (npt M z) else if ffl (fun i => pp M z i < p) d k = 0 then 0 else wsg M z (ffl (fun i => pp M z i < p) d k) p)) := by
  have hn := npt_le hw
  intro d
  induction d with
  | zero =>
    intro k n hk hdn hb
    obtain ⟨m, rfl⟩ : ∃ m, n = m + 1 := ⟨n - 1, by omega⟩
    have e : k = npt M z := by omega
    rw [f5_wantedFrom_l8, z_npt h hw hz, bd_some, if_neg (inlt (by omega) (by omega) (by omega)), ffl, if_pos e, e]
  | succ d ih =>
    intro k n hk hdn hb
    obtain ⟨m, rfl⟩ : ∃ m, n = m + 1 := ⟨n - 1, by omega⟩
    have a := XV_bd hw (k := k) (by omega)
    rw [f5_wantedFrom_l8, z_npt h hw hz, bd_some, if_pos (ilt (by omega) (by omega) (by omega)), l4, ii_mul, ii_add, z_pu h hz (k := k) (by omega) (by omega), bd_some, z_pp h hz (k := k) (by omega) (by omega), bd_some, ffl]
    by_cases c : pp M z k < p
    · rw [if_pos (ilt c (by omega) (by omega)), if_pos c, if_neg (show ¬ k = npt M z by omega)]
      by_cases e : k = 0
      · rw [if_pos (by rw [e]; rfl), if_pos e, l0]
      · rw [if_neg (by rw [l0]; exact ine (by omega) (by omega) (by omega) (by omega) (by omega)), if_neg e, if_neg e]
        obtain ⟨j, rfl⟩ : ∃ j, k = j + 1 := ⟨k - 1, by omega⟩
        have b := hb j (by omega)
        have q := hw.nx (k := j) (by omega)
        have q1 := hw.pt (k := j) (by omega)
        have m1 : 1 ≤ (pp M z j - p + 1) * (pu M z (j + 1) - pu M z j) := by
          have := Int.mul_le_mul (a := 1) (c := pp M z j - p + 1) (b := 1) (d := pu M z (j + 1) - pu M z j) (by omega) (by omega) (by omega) (by omega)
          omega
        have m2 : (pp M z j - p + 1) * (pu M z (j + 1) - pu M z j) ≤ 10000 * 2000 := Int.mul_le_mul (by omega) (by omega) (by omega) (by omega)
        rw [Xk_s]
        unfold f5_wantedBetween
        simp only [Nat.add_sub_cancel]
        rw [ii_sub, nm_eq, l0, if_pos (ilt (by omega) (by omega) (by omega)), dvz_ii (by omega) (by omega) (by omega), l1, ii_sub, ii_sub, ii_add, ii_mul, ii_sub, ii_div (by omega) (by omega) (by omega) (by omega), bd_some, ii_add]
        unfold wsg
        rfl
    · rw [if_neg (inlt (by omega) (by omega) (by omega)), nm_eq, iSu, if_neg c]
      exact ih (k + 1) m (by omega) (by omega) (fun i hi => by
        by_cases e : i = k
        · subst e; omega
        · exact hb i (by omega))
theorem f5_wantedFrom_ok (h : ZK mm y M) (hw : ZW M z) (hz : z < 6) {p : Int} (hp1 : 0 ≤ p) (hp2 : p ≤ 10000) : f5_wantedFrom mm y (ii z) (ii p) = some (ii (Wt M z p)) := by
  unfold f5_wantedFrom
  rw [l0]
  have q := w8 h hw hz hp1 hp2 (npt M z) 0 FU (by omega) (by have := npt_le hw; unfold FU; omega) (fun i hi => by omega)
  refine q.trans ?_
  unfold Wt gk wan Xk
  rfl
theorem f5_has_ok (h : ZK mm y M) (hr : 1 ≤ M 0 ∧ M 0 ≤ 6) {a : Int} (h1 : -2147483648 ≤ a) (h2 : a < 2147483648) : f5_has mm y (ii a) = some (ii (if 0 ≤ a ∧ a < M 0 then 1 else 0)) := by
  unfold f5_has
  rw [h.n, l0, l1]
  by_cases c : a < 0
  · rw [if_pos (ilt c (by omega) (by omega)), if_neg (by omega)]
  · rw [if_neg (inlt (by omega) (by omega) (by omega))]
    by_cases e : a < M 0
    · rw [if_pos (ilt e (by omega) (by omega)), if_pos (by omega)]
    · rw [if_neg (inlt (by omega) (by omega) (by omega)), if_neg (by omega)]
theorem f5_hasInner_ok (h : ZK mm y M) (hr : 1 ≤ M 0 ∧ M 0 ≤ 6) {a : Int} (h1 : -2147483648 ≤ a) (h2 : a < 2147483648) : f5_hasInner mm y (ii a) = some (ii (if 1 ≤ a ∧ a < M 0 then 1 else 0)) := by
  unfold f5_hasInner
  rw [l0, f5_has_ok h hr h1 h2, bd_some, l1]
  by_cases c : a = 0
  · rw [if_pos (by rw [c]), if_neg (by omega)]
  · rw [if_neg (ine c h1 h2 (by omega) (by omega))]
    by_cases e : 0 ≤ a ∧ a < M 0
    · rw [if_pos e, if_neg (ine (by omega) (by omega) (by omega) (by omega) (by omega)), if_pos (by omega)]
    · rw [if_neg e, if_pos rfl, if_neg (by omega)]
theorem f6_within_ok {a b c : Int} (h1 : -2147483648 ≤ a) (h2 : a < 2147483648) (h3 : -2147483648 ≤ b) (h4 : b < 2147483648) (h5 : -2147483648 ≤ c) (h6 : c < 2147483648) : f6_within mm (ii a) (ii b) (ii c) = some (ii (if b ≤ a ∧ a ≤ c then 1 else 0)) := by
  unfold f6_within
  rw [l0, l1]
  by_cases e : a < b
  · rw [if_pos (ilt e h1 h4), if_neg (by omega)]
  · rw [if_neg (inlt (by omega) (by omega) (by omega))]
    by_cases e2 : c < a
    · rw [if_pos (ilt e2 (by omega) (by omega)), if_neg (by omega)]
    · rw [if_neg (inlt (by omega) (by omega) (by omega)), if_pos (by omega)]
end
