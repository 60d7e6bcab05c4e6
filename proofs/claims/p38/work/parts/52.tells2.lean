section
variable {mm m' : Mem} {s : ST}
theorem fq1 (hf : FrQ 1 mm m') : Frf mm m' := fun c hc => hf c (by omega)
theorem padd_oj {M : WM} {z : Nat} {u p : Int} (hz : z < 6) (hn : npt M z < 4) : ∀ j, oj j = true → padd M z u p j = M j := fun j hj => by
  have := oj_z hj
  exact padd_o (by omega) hn
theorem sadd_zj {M : WM} {r : Nat} {u p : Int} (hn : stp M r < 3) : ∀ j, zj j = true → sadd M r u p j = M j := fun j hj => by
  have := zj_o hj
  exact sadd_o (by omega) hn
theorem radd_zj {M : WM} {z sz kd ow mu fr : Int} : ∀ j, zj j = true → radd M z sz kd ow mu fr j = M j := fun j hj => by
  have := zj_o hj
  exact radd_o (by omega) (by omega)
/-! point -/
def lst (M : WM) (z : Nat) : Int := if npt M z = 0 then 9999 else pp M z (npt M z - 1)
theorem lst_bd {M : WM} {z : Nat} (hw : ZW M z) : 0 ≤ lst M z ∧ lst M z ≤ 9999 := by
  unfold lst
  by_cases e : npt M z = 0
  · rw [if_pos e]; omega
  · rw [if_neg e]
    have := hw.pt (k := npt M z - 1) (by omega)
    omega
def okp (M : WM) (a u p : Int) : Prop := (0 ≤ a ∧ a < M 0) ∧ npt M a.toNat < 4 ∧ (wan M a.toNat + 1 ≤ u ∧ u ≤ 2000) ∧ (0 ≤ p ∧ p ≤ lst M a.toNat)
theorem c_point_n (h : CI mm s) (hs : SW s) {a u p : Int} (h1 : -2147483648 ≤ a) (h2 : a < 2147483648) (h3 : -2147483648 ≤ u) (h4 : u < 2147483648) (h5 : -2147483648 ≤ p) (h6 : p < 2147483648) (hn : ¬ okp (sM s) a u p) : f6_point mm (ii a) (ii u) (ii p) = some (ii (-1), mm) := by
  have hz := hs.1.1.zn
  have zc := zn_c hs.1.1
  unfold f6_point
  rw [f5_has_ok h.z hz h1 h2, bd_some, l0, l1, l4, l2000, ii_neg]
  by_cases c : 0 ≤ a ∧ a < sM s 0
  · obtain ⟨z, rfl⟩ := Int.eq_ofNat_of_zero_le c.1
    have hw := wwz hs.1.1 (z := z) (by omega)
    have np := npt_le hw
    have wl := wan_le hw
    have lb := lst_bd hw
    have q : f6_at mm 21 (ii z) = _ := z_npt h.z hw (by omega)
    rw [if_pos c, if_neg (ine (by omega) (by omega) (by omega) (by omega) (by omega)), q, bd_some]
    by_cases d : npt (sM s) z < 4
    · rw [if_pos (ilt (by omega) (by omega) (by omega)), f5_wanted_ok h.z hw (by omega), bd_some, ii_add, f6_within_ok h3 h4 (by omega) (by omega) (by omega) (by omega), bd_some]
      by_cases e : wan (sM s) z + 1 ≤ u ∧ u ≤ 2000
      · rw [if_pos e, if_neg (ine (by omega) (by omega) (by omega) (by omega) (by omega)), f5_lastPrice_ok h.z hw (by omega), bd_some]
        show bd (f6_within mm (ii p) (ii 0) (ii (lst (sM s) z))) _ = _
        rw [f6_within_ok h5 h6 (by omega) (by omega) (by omega) (by omega), bd_some]
        by_cases f : 0 ≤ p ∧ p ≤ lst (sM s) z
        · exact absurd ⟨c, d, e, f⟩ hn
        · rw [if_neg f, if_pos rfl]
      · rw [if_neg e, if_pos rfl]
    · rw [if_neg (inlt (by omega) (by omega) (by omega))]
  · rw [if_neg c, if_pos rfl]
theorem c_point_y (h : CI mm s) (hs : SW s) {a u p : Int} (hy : okp (sM s) a u p) : ∃ m', f6_point mm (ii a) (ii u) (ii p) = some (ii ((npt (sM s) a.toNat : Int) + 1), m') ∧ Fcl mm m' ∧ CI m' (sset s (padd (sM s) a.toNat u p)) := by
  have hz := hs.1.1.zn
  have zc := zn_c hs.1.1
  obtain ⟨c, d, e, f⟩ := hy
  obtain ⟨z, rfl⟩ := Int.eq_ofNat_of_zero_le c.1
  simp only [Int.toNat_natCast] at d e f ⊢
  have hw := wwz hs.1.1 (z := z) (by omega)
  have wl := wan_le hw
  have lb := lst_bd hw
  obtain ⟨m1, g1, g2, g3⟩ := f5_addPoint_ok h.z hw (by omega) d u p
  refine ⟨m1, ?_, fz_cl g1, h.uz g1 g2 (padd_oj (by omega) d)⟩
  unfold f6_point
  have q : f6_at mm 21 (ii z) = _ := z_npt h.z hw (by omega)
  rw [f5_has_ok h.z hz (by omega) (by omega), bd_some, l0, l1, l4, l2000, if_pos c, if_neg (ine (by omega) (by omega) (by omega) (by omega) (by omega)), q, bd_some, if_pos (ilt (by omega) (by omega) (by omega)), f5_wanted_ok h.z hw (by omega), bd_some, ii_add, f6_within_ok (by omega) (by omega) (by omega) (by omega) (by omega) (by omega), bd_some, if_pos e, if_neg (ine (by omega) (by omega) (by omega) (by omega) (by omega)), f5_lastPrice_ok h.z hw (by omega), bd_some]
  show bd (f6_within mm (ii p) (ii 0) (ii (lst (sM s) z))) _ = _
  rw [f6_within_ok (by omega) (by omega) (by omega) (by omega) (by omega) (by omega), bd_some, if_pos f, if_neg (ine (by omega) (by omega) (by omega) (by omega) (by omega)), g3, bd_some]
/-! resource -/
def okr (M : WM) (a sz kd ow : Int) : Prop := M 1 < 12 ∧ (0 ≤ a ∧ a < M 0) ∧ (1 ≤ sz ∧ sz ≤ 500) ∧ (0 ≤ kd ∧ kd ≤ 3) ∧ (0 ≤ ow ∧ ow ≤ 5)
end
