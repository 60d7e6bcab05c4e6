/-! two calls of the class more: a resource told, a curve dropped -/
section
variable {mm : Mem} {s : ST}
theorem c_resource_y (h : CI mm s) (hs : SW s) {a sz kd ow mu : Int} (hy : okr (sM s) a sz kd ow) (hmu : mu = 0 ∨ mu = 1) : ∃ m', f6_resource mm (ii a) (ii sz) (ii kd) (ii ow) (ii mu) = some (ii (rn (sM s)), m') ∧ CI m' (sset s (radd (sM s) a sz kd ow mu 0)) := by
  have hz := hs.1.1.zn
  have hrn := hs.1.1.rn
  have rc := rn_c hs.1.1
  obtain ⟨e1, e2, e3, e4, e5⟩ := hy
  have h1 : -2147483648 ≤ a := by omega
  have h2 : a < 2147483648 := by omega
  have h3 : -2147483648 ≤ sz := by omega
  have h4 : sz < 2147483648 := by omega
  have h5 : -2147483648 ≤ kd := by omega
  have h6 : kd < 2147483648 := by omega
  have h7 : -2147483648 ≤ ow := by omega
  have h8 : ow < 2147483648 := by omega
  obtain ⟨m1, g1, g2, g3⟩ := f2_add_ok h.o hs.1.1 (by omega) a sz kd ow hmu (Or.inl rfl : (0 : Int) = 0 ∨ (0 : Int) = 1)
  refine ⟨m1, ?_, h.uo g1 g2 radd_zj⟩
  have ho := h.o
  unfold f6_resource
  rw [ho.n, f5_has_ok h.z hz h1 h2, bd_some, l0, l1, l3, l5, l12, l500, f6_within_ok h3 h4 (by omega) (by omega) (by omega) (by omega), bd_some, f6_within_ok h5 h6 (by omega) (by omega) (by omega) (by omega), bd_some, f6_within_ok h7 h8 (by omega) (by omega) (by omega) (by omega), bd_some, if_pos (ilt e1 (by omega) (by omega)), if_pos e2, if_neg (ine (by omega) (by omega) (by omega) (by omega) (by omega)), if_pos e3, if_neg (ine (by omega) (by omega) (by omega) (by omega) (by omega)), if_pos e4, if_neg (ine (by omega) (by omega) (by omega) (by omega) (by omega)), if_pos e5, if_neg (ine (by omega) (by omega) (by omega) (by omega) (by omega)), g3, bd_some]
theorem c_drop_y (h : CI mm s) (hs : SW s) {z : Nat} (hz : z < zn (sM s)) : ∃ m', f6_drop mm (ii (z : Int)) (ii 0) = some (ii (npt (sM s) z), m') ∧ CI m' (sset s (pdrop (sM s) z)) := by
  have hzn := hs.1.1.zn
  have zc := zn_c hs.1.1
  have hw := wwz hs.1.1 (z := z) (by omega)
  have h1 : -2147483648 ≤ (z : Int) := by omega
  have h2 : (z : Int) < 2147483648 := by omega
  have c : 0 ≤ (z : Int) ∧ (z : Int) < sM s 0 := by omega
  obtain ⟨m1, g1, g2, g3⟩ := f5_dropPoints_ok h.z hw (by omega)
  refine ⟨m1, ?_, h.uz g1 g2 (fun j hj => by have := oj_z hj; exact up_ne _ _ (by omega))⟩
  unfold f6_drop f6_drop_j39
  rw [l0, if_pos rfl, f5_has_ok h.z hzn h1 h2, bd_some, if_pos c, if_neg (ine (by omega) (by omega) (by omega) (by omega) (by omega)), if_pos rfl, g3, bd_some]
end
