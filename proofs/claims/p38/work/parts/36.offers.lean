/-! the class's offers -/
theorem su_bd {M : WM} {r : Nat} (hw : RW M r) {k : Nat} (hk : k ≤ stp M r) : 0 ≤ sm k (su M r) ∧ sm k (su M r) ≤ 500 * k := by
  constructor
  · exact sm_nonneg (fun i hi => by have := hw.2.2.2.2.2.2.2 i (by omega); omega)
  · have a : sm k (su M r) ≤ sm k (fun _ => 500) := sm_le (fun i hi => by have := hw.2.2.2.2.2.2.2 i (by omega); omega)
    rw [sm_const] at a
    omega
theorem rest_bd {M : WM} {r : Nat} (hw : RW M r) : -1500 ≤ rest M r ∧ rest M r ≤ 500 := by
  have a := su_bd hw (Nat.le_refl _)
  have b := hw.2.1
  have c := stp_le hw
  unfold rest
  omega
theorem lu_bd {M : WM} {r : Nat} (hw : RW M r) (k : Nat) : -1500 ≤ lu M r k ∧ lu M r k ≤ 500 := by
  have a := rest_bd hw
  unfold lu
  by_cases c : k = 3
  · rw [if_pos c]
    by_cases d : M (83 + 13 * r) = 1
    · rw [if_pos d]; exact a
    · rw [if_neg d]; omega
  · rw [if_neg c]
    by_cases d : k < stp M r
    · rw [if_pos d]
      have := hw.2.2.2.2.2.2.2 k d
      omega
    · rw [if_neg d]; omega
theorem li_bd {M : WM} (hM : WW M) {r : Nat} {k : Nat} {fl : Int} (hf : 0 ≤ fl ∧ fl ≤ 9999) : -2147483648 ≤ li M r k fl ∧ li M r k fl < 2147483648 := by
  have a := hM.rg (87 + 13 * r + 2 * k)
  have b := hM.ce
  unfold li lif sp
  by_cases c : k = 3
  · rw [if_pos c]; omega
  · rw [if_neg c]
    by_cases d : M (84 + 13 * r) = 0
    · rw [if_pos d]
      by_cases e : M (83 + 13 * r) = 1
      · rw [if_pos e]; omega
      · rw [if_neg e]; omega
    · rw [if_neg d]
      by_cases e : M (83 + 13 * r) = 1
      · rw [if_pos e]; omega
      · rw [if_neg e]; omega
theorem li_bd2 {M : WM} (hM : WW M) {r : Nat} (hw : RW M r) {k : Nat} {fl : Int} (hf : 0 ≤ fl ∧ fl ≤ 9999) (hk : k = 3 ∨ k < stp M r) : 0 ≤ li M r k fl ∧ li M r k fl ≤ 9999 := by
  have b := hM.ce
  unfold li lif
  by_cases c : k = 3
  · rw [if_pos c]; omega
  · have a := hw.2.2.2.2.2.2.2 k (by omega)
    rw [if_neg c]
    by_cases d : M (84 + 13 * r) = 0
    · rw [if_pos d]
      by_cases e : M (83 + 13 * r) = 1
      · rw [if_pos e]; omega
      · rw [if_neg e]; omega
    · rw [if_neg d]
      by_cases e : M (83 + 13 * r) = 1
      · rw [if_pos e]; omega
      · rw [if_neg e]; omega
theorem flr_bd {M : WM} (hM : WW M) {r : Nat} (hw : RW M r) : 0 ≤ flr M r ∧ flr M r ≤ 9999 := by
  have a := hw.2.2.1
  unfold flr
  exact hM.fl (by omega)
section
variable {mm : Mem} {o : Nat} {M : WM} {r : Nat}
theorem o_stp (h : OK mm o M) (hw : RW M r) (hr : r < 12) : f6_at mm (o + 8) (ii r) = some (ii (stp M r)) := by rw [o_st h hr, stp_c hw]
theorem rl11 (h : OK mm o M) (hw : RW M r) (hr : r < 12) : ∀ (d k n : Nat), k + d = stp M r → d < n → f2_rest_l11 mm n o (ii r) (ii (M (80 + 13 * r) - sm k (su M r))) (ii k) = some (ii (rest M r)) := by
  have hs := stp_le hw
  intro d
  induction d with
  | zero =>
    intro k n hk hdn
    obtain ⟨m, rfl⟩ : ∃ m, n = m + 1 := ⟨n - 1, by omega⟩
    rw [f2_rest_l11, o_stp h hw hr, bd_some, if_neg (inlt (by omega) (by omega) (by omega))]
    unfold rest
    have e : k = stp M r := by omega
    rw [e]
  | succ d ih =>
    intro k n hk hdn
    obtain ⟨m, rfl⟩ : ∃ m, n = m + 1 := ⟨n - 1, by omega⟩
    rw [f2_rest_l11, o_stp h hw hr, bd_some, if_pos (ilt (by omega) (by omega) (by omega)), l3, ii_mul, ii_add, o_su h hr (k := k) (by omega) (by omega), bd_some, ii_sub, nm_eq, iSu, nm_eq]
    have e : M (80 + 13 * r) - sm k (su M r) - su M r k = M (80 + 13 * r) - sm (k + 1) (su M r) := by rw [sm_s]; omega
    rw [e]
    exact ih (k + 1) m (by omega) (by omega)
theorem f2_rest_ok (h : OK mm o M) (hw : RW M r) (hr : r < 12) : f2_rest mm o (ii r) = some (ii (rest M r)) := by
  unfold f2_rest
  rw [o_sz h hr, bd_some, l0]
  have q := rl11 h hw hr (stp M r) 0 FU (by omega) (by have := stp_le hw; unfold FU; omega)
  rw [sm_0, Int.sub_zero] at q
  exact q
theorem f2_unitsOf_ok (h : OK mm o M) (hw : RW M r) (hr : r < 12) {k : Nat} (hk : k < 4) : f2_unitsOf mm o (ii r) (ii k) = some (ii (lu M r k)) := by
  have hs := stp_le hw
  have b := hw.2.2.2.2.1
  unfold f2_unitsOf lu
  by_cases c : k = 3
  · rw [if_pos (by rw [c]; rfl), if_pos c, o_mu h hr, bd_some, l1, l0]
    by_cases d : M (83 + 13 * r) = 1
    · rw [if_pos (by rw [d]), if_pos d, f2_rest_ok h hw hr, bd_some]
    · rw [if_neg (ine d (by omega) (by omega) (by omega) (by omega)), if_neg d]
  · rw [l3, if_neg (ine (by omega) (by omega) (by omega) (by omega) (by omega)), if_neg c, o_stp h hw hr, bd_some]
    by_cases d : k < stp M r
    · rw [if_pos (ilt (by omega) (by omega) (by omega)), if_pos d, ii_mul, ii_add, o_su h hr (k := k) (by omega) (by omega), bd_some]
    · rw [if_neg (inlt (by omega) (by omega) (by omega)), if_neg d, l0]
theorem itsj_ok (h : OK mm o M) (hM : WW M) (hw : RW M r) (hr : r < 12) {v : Int} (h1 : -2147483648 ≤ v) (h2 : v < 2147483648) : f2_itsOf_j51 mm o (ii r) (ii v) = some (ii (if M (83 + 13 * r) = 1 then min v (M 2) else v)) := by
  have b := hw.2.2.2.2.1
  have c := hM.ce
  unfold f2_itsOf_j51
  rw [o_mu h hr, bd_some, l1]
  by_cases d : M (83 + 13 * r) = 1
  · rw [if_pos (by rw [d]), if_pos d, h.c, mni_ii h1 h2 (by omega) (by omega), nm_eq]
  · rw [if_neg (ine d (by omega) (by omega) (by omega) (by omega)), if_neg d]
theorem f2_itsOf_ok (h : OK mm o M) (hM : WW M) (hw : RW M r) (hr : r < 12) {k : Nat} (hk : k < 4) : f2_itsOf mm o (ii r) (ii k) = some (ii (li M r k (flr M r))) := by
  have f := flr_bd hM hw
  have g := hw.2.2.2.2.2.1
  have kd := hw.2.2.1
  have a : -2147483648 ≤ sp M r k ∧ sp M r k < 2147483648 := hM.rg _
  unfold f2_itsOf li
  by_cases c : k = 3
  · rw [if_pos (by rw [c]; rfl), if_pos c, l0]
  · rw [l3, if_neg (ine (by omega) (by omega) (by omega) (by omega) (by omega)), if_neg c, ii_mul, ii_add, o_sp h hr (k := k) (by omega) (by omega), bd_some, o_fr h hr, bd_some, l0]
    unfold lif
    by_cases d : M (84 + 13 * r) = 0
    · rw [if_pos (by rw [d]), if_pos d, o_kd h hr, bd_some, o_fl h (k := (M (81 + 13 * r)).toNat) (by omega) (by omega), bd_some, mxi_ii a.1 a.2 (by unfold flr at f; omega) (by unfold flr at f; omega), nm_eq, itsj_ok h hM hw hr (by omega) (by unfold flr at f; omega)]
      rfl
    · rw [if_neg (ine d (by omega) (by omega) (by omega) (by omega)), if_neg d, itsj_ok h hM hw hr a.1 a.2]
theorem f2_has_ok (h : OK mm o M) (hr : 0 ≤ M 1 ∧ M 1 ≤ 12) {a : Int} (h1 : -2147483648 ≤ a) (h2 : a < 2147483648) : f2_has mm o (ii a) = some (ii (if 0 ≤ a ∧ a < M 1 then 1 else 0)) := by
  unfold f2_has
  rw [h.n, l0, l1]
  by_cases c : a < 0
  · rw [if_pos (ilt c (by omega) (by omega)), if_neg (by omega)]
  · rw [if_neg (inlt (by omega) (by omega) (by omega))]
    by_cases e : a < M 1
    · rw [if_pos (ilt e (by omega) (by omega)), if_pos (by omega)]
    · rw [if_neg (inlt (by omega) (by omega) (by omega)), if_neg (by omega)]
theorem f2_hasLine_ok (h : OK mm o M) (hM : WW M) {a k : Int} (h1 : -2147483648 ≤ a) (h2 : a < 2147483648) (h3 : -2147483648 ≤ k) (h4 : k < 2147483648) : f2_hasLine mm o (ii a) (ii k) = some (ii (if (0 ≤ a ∧ a < M 1) ∧ (0 ≤ k ∧ k ≤ 3) ∧ 0 < lu M a.toNat k.toNat then 1 else 0)) := by
  have hr := hM.rn
  unfold f2_hasLine
  rw [f2_has_ok h hr h1 h2, bd_some, l0, l3, l1]
  by_cases c : 0 ≤ a ∧ a < M 1
  · rw [if_pos c, if_neg (ine (by omega) (by omega) (by omega) (by omega) (by omega)), f6_within_ok h3 h4 (by omega) (by omega) (by omega) (by omega), bd_some]
    by_cases d : 0 ≤ k ∧ k ≤ 3
    · rw [if_pos d, if_neg (ine (by omega) (by omega) (by omega) (by omega) (by omega))]
      obtain ⟨r, rfl⟩ := Int.eq_ofNat_of_zero_le c.1
      obtain ⟨j, rfl⟩ := Int.eq_ofNat_of_zero_le d.1
      have hw := hM.r (r := r) c.2
      have b := lu_bd hw j
      rw [f2_unitsOf_ok h hw (by omega) (by omega), bd_some]
      simp only [Int.toNat_natCast]
      by_cases e : 0 < lu M r j
      · rw [if_pos (ilt e (by omega) (by omega)), if_pos ⟨c, d, e⟩]
      · rw [if_neg (inlt (by omega) (by omega) (by omega)), if_neg (fun x => e x.2.2)]
    · rw [if_neg d, if_pos rfl, if_neg (fun x => d x.2.1)]
  · rw [if_neg c, if_pos rfl, if_neg (fun x => c x.1)]
theorem f2_lastPrice_ok (h : OK mm o M) (hw : RW M r) (hr : r < 12) : f2_lastPrice mm o (ii r) = some (ii (if stp M r = 0 then 0 else sp M r (stp M r - 1))) := by
  have hs := stp_le hw
  unfold f2_lastPrice
  rw [o_stp h hw hr, bd_some, l0]
  by_cases e : stp M r = 0
  · rw [if_pos (by rw [e]; rfl), if_pos e]
  · rw [if_neg (ine (by omega) (by omega) (by omega) (by omega) (by omega)), if_neg e, l3, l1, ii_mul, ii_add, ii_sub, o_sp h hr (k := stp M r - 1) (by omega) (by omega), bd_some]
end
