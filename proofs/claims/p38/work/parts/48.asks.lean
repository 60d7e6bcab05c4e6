section
variable {mm : Mem} {s : ST}
theorem D_bd (hs : SW s) {z : Nat} (hz : z < zn (sM s)) : Pz (Dc (sM s)) z ≤ 9999 ∧ (-100000 ≤ Nz (Dc (sM s)) z ∧ Nz (Dc (sM s)) z ≤ 100000) ∧ (-200000 ≤ Sz (Dc (sM s)) z ∧ Sz (Dc (sM s)) z ≤ 2000) := by
  have hD : WD (Dc (sM s)) := Dg_WD hs.1 (ii 0) false
  have a := PN_9 hD (z := z) hz
  have b := N_bd hD (z := z) hz
  have c := S_bd hD (z := z) hz
  have d := hD.wb (z := z) hz (Pz (Dc (sM s)) z)
  omega
theorem c_charged (h : CI mm s) (hs : SW s) {a : Int} (h1 : -2147483648 ≤ a) (h2 : a < 2147483648) : ∃ m', f6_charged mm (ii a) = some (ll (if 0 ≤ a ∧ a < sM s 0 then (Pz (Dc (sM s)) a.toNat : Int) * Sz (Dc (sM s)) a.toNat else -1000000000000000), m') ∧ Fcl mm m' ∧ CI m' s := by
  have hz := hs.1.1.zn
  have hc := zn_c hs.1.1
  unfold f6_charged
  rw [f5_has_ok h.z hz h1 h2, bd_some]
  by_cases c : 0 ≤ a ∧ a < sM s 0
  · obtain ⟨z, rfl⟩ := Int.eq_ofNat_of_zero_le c.1
    obtain ⟨m', f1, f2, f3, f4⟩ := c_clear h hs
    refine ⟨m', ?_, f2, f3⟩
    have r := f4.2.1 z (by omega)
    have db := D_bd hs (z := z) (by omega)
    rw [if_pos c, l0, if_neg (ine (by omega) (by omega) (by omega) (by omega) (by omega)), f1, bd_some, at_i m' (q := 35) (k := z) (n := 6) (by decide) (by omega) (by omega), bd_some, at_i m' (q := 37) (k := z) (n := 6) (by decide) (by omega) (by omega), bd_some, if_pos c, Int.toNat_natCast]
    have r0 : m' 35 z = _ := r.1
    have r2 : m' 37 z = _ := r.2.2
    rw [r0, r2, ii_ll (by omega) (by omega), ii_ll (by omega) (by omega), ll_mul]
  · refine ⟨mm, ?_, Fcl.rf mm, h⟩
    rw [if_neg c, l0, if_pos rfl, if_neg c]
    rfl
theorem c_binds (h : CI mm s) (hs : SW s) {a : Int} (h1 : -2147483648 ≤ a) (h2 : a < 2147483648) : ∃ m', f6_binds mm (ii a) = some (ii (if 0 ≤ a ∧ a < sM s 0 then (if a = 0 then 0 else bnd (sM s) (Dc (sM s)) a.toNat) else -1), m') ∧ Fcl mm m' ∧ CI m' s := by
  have hz := hs.1.1.zn
  have hc := zn_c hs.1.1
  unfold f6_binds
  rw [f5_has_ok h.z hz h1 h2, bd_some]
  by_cases c : 0 ≤ a ∧ a < sM s 0
  · rw [if_pos c, if_pos c, l0, if_neg (ine (by omega) (by omega) (by omega) (by omega) (by omega))]
    by_cases e : a = 0
    · refine ⟨mm, ?_, Fcl.rf mm, h⟩
      rw [if_pos (by rw [e]), if_pos e]
    · obtain ⟨z, rfl⟩ := Int.eq_ofNat_of_zero_le c.1
      obtain ⟨m', f1, f2, f3, f4⟩ := c_clear h hs
      refine ⟨m', ?_, f2, f3⟩
      rw [if_neg (ine e h1 h2 (by omega) (by omega)), if_neg e, f1, bd_some, boundOf_ok f3.ak f4 hs.1 (by omega) (by omega), bd_some, Int.toNat_natCast]
  · refine ⟨mm, ?_, Fcl.rf mm, h⟩
    rw [if_neg c, l0, if_pos rfl, if_neg c]
    rfl
theorem c_rent (h : CI mm s) (hs : SW s) {a : Int} (h1 : -2147483648 ≤ a) (h2 : a < 2147483648) : ∃ m', f6_rent mm (ii a) = some (ll (if 0 ≤ a ∧ a < sM s 0 then (if a = 0 then 0 else rto (Dc (sM s)) a.toNat) else -1000000000000000), m') ∧ Fcl mm m' ∧ CI m' s := by
  have hz := hs.1.1.zn
  have hc := zn_c hs.1.1
  unfold f6_rent
  rw [f5_has_ok h.z hz h1 h2, bd_some]
  by_cases c : 0 ≤ a ∧ a < sM s 0
  · rw [if_pos c, if_pos c, l0, if_neg (ine (by omega) (by omega) (by omega) (by omega) (by omega))]
    by_cases e : a = 0
    · refine ⟨mm, ?_, Fcl.rf mm, h⟩
      rw [if_pos (by rw [e]), if_pos e]
      rfl
    · obtain ⟨z, rfl⟩ := Int.eq_ofNat_of_zero_le c.1
      obtain ⟨m', f1, f2, f3, f4⟩ := c_clear h hs
      refine ⟨m', ?_, f2, f3⟩
      rw [if_neg (ine e h1 h2 (by omega) (by omega)), if_neg e, f1, bd_some, rentOf_ok f3.ak f4 hs.1 (by omega) (by omega), bd_some, Int.toNat_natCast]
  · refine ⟨mm, ?_, Fcl.rf mm, h⟩
    rw [if_neg c, l0, if_pos rfl, if_neg c]
    rfl
theorem c_paid (h : CI mm s) (hs : SW s) {a : Int} (h1 : -2147483648 ≤ a) (h2 : a < 2147483648) : ∃ m', f6_paid mm (ii a) = some (ll (if 0 ≤ a ∧ a < sM s 1 then pdt (Dc (sM s)) a.toNat else if 100 ≤ a ∧ a ≤ 105 then sm (rn (sM s)) (pow' (sM s) (Dc (sM s)) (a - 100)) else -1000000000000000), m') ∧ Fcl mm m' ∧ CI m' s := by
  have hr := hs.1.1.rn
  have hc := rn_c hs.1.1
  unfold f6_paid
  rw [f2_has_ok h.o hr h1 h2, bd_some, l0, l100, l105]
  by_cases c : 0 ≤ a ∧ a < sM s 1
  · obtain ⟨r, rfl⟩ := Int.eq_ofNat_of_zero_le c.1
    obtain ⟨m', f1, f2, f3, f4⟩ := c_clear h hs
    refine ⟨m', ?_, f2, f3⟩
    rw [if_pos c, if_neg (ine (by omega) (by omega) (by omega) (by omega) (by omega)), f1, bd_some, paidTo_ok f3.ak f4 hs.1 (by omega), bd_some, if_pos c, Int.toNat_natCast]
  · rw [if_neg c, if_pos rfl, f6_within_ok h1 h2 (by omega) (by omega) (by omega) (by omega), bd_some, if_neg c]
    by_cases d : 100 ≤ a ∧ a ≤ 105
    · obtain ⟨m', f1, f2, f3, f4⟩ := c_clear h hs
      refine ⟨m', ?_, f2, f3⟩
      rw [if_pos d, if_neg (ine (by omega) (by omega) (by omega) (by omega) (by omega)), f1, bd_some, ii_sub, paidToOwner_ok f3.ak f4 hs.1 (by omega) (by omega), bd_some, if_pos d]
    · refine ⟨mm, ?_, Fcl.rf mm, h⟩
      rw [if_neg d, if_pos rfl, if_neg d]
      rfl
def tkS (M : WM) (a b : Int) : Int := if 0 ≤ a ∧ a < M 1 then (if b = -1 then tko (Dc M) a.toNat else if (0 ≤ b ∧ b ≤ 3) ∧ 0 < lu M a.toNat b.toNat then Tz (Dc M) (4 * a.toNat + b.toNat) else -1) else -1
theorem c_taken (h : CI mm s) (hs : SW s) {a b : Int} (h1 : -2147483648 ≤ a) (h2 : a < 2147483648) (h3 : -2147483648 ≤ b) (h4 : b < 2147483648) : ∃ m', f6_taken mm (ii a) (ii b) = some (ii (tkS (sM s) a b), m') ∧ Fcl mm m' ∧ CI m' s := by
  have hr := hs.1.1.rn
  have hc := rn_c hs.1.1
  unfold f6_taken tkS
  rw [f2_has_ok h.o hr h1 h2, bd_some, l0, l1, l4, ii_neg]
  by_cases c : 0 ≤ a ∧ a < sM s 1
  · obtain ⟨r, rfl⟩ := Int.eq_ofNat_of_zero_le c.1
    rw [if_pos c, if_pos c, if_neg (ine (by omega) (by omega) (by omega) (by omega) (by omega)), Int.toNat_natCast]
    by_cases d : b = -1
    · obtain ⟨m', f1, f2, f3, f4⟩ := c_clear h hs
      refine ⟨m', ?_, f2, f3⟩
      rw [if_pos (by rw [d]), if_pos d, f1, bd_some, takenOf_ok f3.ak f4 hs.1 (by omega), bd_some]
    · rw [if_neg (ine d h3 h4 (by omega) (by omega)), if_neg d, f2_hasLine_ok h.o hs.1.1 h1 h2 h3 h4, bd_some, Int.toNat_natCast]
      by_cases e : (0 ≤ b ∧ b ≤ 3) ∧ 0 < lu (sM s) r b.toNat
      · obtain ⟨k, rfl⟩ := Int.eq_ofNat_of_zero_le e.1.1
        obtain ⟨m', f1, f2, f3, f4⟩ := c_clear h hs
        refine ⟨m', ?_, f2, f3⟩
        rw [if_pos (show ((0 : Int) ≤ r ∧ (r : Int) < sM s 1) ∧ ((0 : Int) ≤ k ∧ (k : Int) ≤ 3) ∧ 0 < lu (sM s) r (k : Int).toNat from ⟨c, e⟩), if_neg (ine (by omega) (by omega) (by omega) (by omega) (by omega)), f1, bd_some, ii_mul, ii_add, at_e m' (q := 38) (k := 4 * r + k) (n := 48) (by omega) (by decide) (by omega) (by omega), bd_some, if_pos e, Int.toNat_natCast]
        have t : m' 38 (4 * r + k) = _ := f4.2.2 (4 * r + k) (by omega)
        rw [t]
      · refine ⟨mm, ?_, Fcl.rf mm, h⟩
        rw [if_neg (show ¬ (((0 : Int) ≤ r ∧ (r : Int) < sM s 1) ∧ (0 ≤ b ∧ b ≤ 3) ∧ 0 < lu (sM s) r b.toNat) from fun x => e x.2), if_pos rfl, if_neg e]
  · refine ⟨mm, ?_, Fcl.rf mm, h⟩
    rw [if_neg c, if_pos rfl, if_neg c]
def lvS (M : WM) (a p b : Int) : Int := if (0 ≤ a ∧ a < M 0) ∧ (0 ≤ p ∧ p ≤ 9999) then Lz (Dc M) a.toNat (if b = 0 then p else p + 1) else -1000000
theorem c_level (h : CI mm s) (hs : SW s) {a p b : Int} (h1 : -2147483648 ≤ a) (h2 : a < 2147483648) (h3 : -2147483648 ≤ p) (h4 : p < 2147483648) (hb : b = 0 ∨ b = 1) : ∃ m', f6_level mm (ii a) (ii p) (ii b) = some (ii (lvS (sM s) a p b), m') ∧ Fcl mm m' ∧ CI m' s := by
  have hz := hs.1.1.zn
  have hc := zn_c hs.1.1
  unfold f6_level lvS
  rw [f5_has_ok h.z hz h1 h2, bd_some, l0, l1, l9999, lm1000000]
  by_cases c : 0 ≤ a ∧ a < sM s 0
  · obtain ⟨z, rfl⟩ := Int.eq_ofNat_of_zero_le c.1
    rw [if_pos c, if_neg (ine (by omega) (by omega) (by omega) (by omega) (by omega)), f6_within_ok h3 h4 (by omega) (by omega) (by omega) (by omega), bd_some]
    by_cases d : 0 ≤ p ∧ p ≤ 9999
    · rw [if_pos d, if_neg (ine (by omega) (by omega) (by omega) (by omega) (by omega)), if_pos (show ((0 : Int) ≤ z ∧ (z : Int) < sM s 0) ∧ (0 ≤ p ∧ p ≤ 9999) from ⟨c, d⟩), Int.toNat_natCast]
      have J : ∀ q : Int, 0 ≤ q → q ≤ 10000 → ∃ m', f6_level_j47 (ii q) (ii z) mm = some (ii (Lz (Dc (sM s)) z q), m') ∧ Fcl mm m' ∧ CI m' s := by
        intro q q1 q2
        obtain ⟨m1, f1, f2, f3⟩ := readLines_ok h.ak hs.1
        have hA1 : AK m1 15 (sM s) := h.ak.fr (fun c h1 h2 => f1 c (by omega) (by omega))
        obtain ⟨m2, g1, g2, g3⟩ := fill_ok hA1 f2 hs.1 (q := 15 + 26) (Or.inl rfl) (f := z) (by omega) q1 q2
        have F : FrA 15 mm m2 := fun c h1 h2 => by rw [g1 c (by omega), f1 c (by omega) (by omega)]
        refine ⟨m2, ?_, fa_cl F, h.fa F⟩
        unfold f6_level_j47 f0_levelOf
        rw [f3, bd_some, g3, bd_some, at_i m2 (q := 15 + 26) (k := z) (n := 6) (by decide) (by omega) (by omega), bd_some, g2 z (Nat.le_refl _) (by omega), bd_some]
      rcases hb with rfl | rfl
      · rw [if_pos rfl, if_pos rfl]
        exact J p (by omega) (by omega)
      · rw [if_neg (ine (by omega) (by omega) (by omega) (by omega) (by omega)), if_neg (by omega), ii_add]
        exact J (p + 1) (by omega) (by omega)
    · refine ⟨mm, ?_, Fcl.rf mm, h⟩
      rw [if_neg d, if_pos rfl, if_neg (show ¬ (((0 : Int) ≤ z ∧ (z : Int) < sM s 0) ∧ (0 ≤ p ∧ p ≤ 9999)) from fun x => d x.2)]
  · refine ⟨mm, ?_, Fcl.rf mm, h⟩
    rw [if_neg c, if_pos rfl, if_neg (show ¬ ((0 ≤ a ∧ a < sM s 0) ∧ (0 ≤ p ∧ p ≤ 9999)) from fun x => c x.1)]
end
