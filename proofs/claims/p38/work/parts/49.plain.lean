/-! questions that clear nothing -/
theorem lgc_self (x : Int64) : lg_cmp x x = 0 := by
  unfold lg_cmp
  rw [if_neg (fun h => Int64.lt_irrefl h), if_pos rfl]
def bts (M : WM) (z : Nat) : Nat → Int32
  | 0 => ii 0
  | r + 1 => if M (79 + 13 * r) = z then bts M z r ||| (ii 1 <<< (ii r &&& 31)) else bts M z r
def cntS (s : ST) (a : Int) : Int := if a = 0 then sM s 0 else if a = 1 then sM s 1 else if a = 2 then sM s 2 else if a = 3 then stl s else if 10 ≤ a ∧ a ≤ 13 then sM s (3 + (a - 10).toNat) else -1
def lineS (M : WM) (a k b : Int) : Int := if (0 ≤ a ∧ a < M 1) ∧ (0 ≤ k ∧ k ≤ 3) ∧ 0 < lu M a.toNat k.toNat then (if b = 0 then lu M a.toNat k.toNat else li M a.toNat k.toNat (flr M a.toNat)) else -1
def zofS (M : WM) (z k : Nat) : Int32 := if k < 4 then ii (M (7 + 12 * z + k)) else if k = 4 then ii (wan M z) else bts M z (rn M)
section
variable {mm : Mem} {s : ST}
theorem c_line (h : CI mm s) (hs : SW s) {a k b : Int} (h1 : -2147483648 ≤ a) (h2 : a < 2147483648) (h3 : -2147483648 ≤ k) (h4 : k < 2147483648) (hb : b = 0 ∨ b = 1) : f6_line mm (ii a) (ii k) (ii b) = some (ii (lineS (sM s) a k b)) := by
  have hr := hs.1.1.rn
  have hc := rn_c hs.1.1
  unfold f6_line lineS
  rw [f2_hasLine_ok h.o hs.1.1 h1 h2 h3 h4, bd_some, l0, l1, ii_neg]
  by_cases c : (0 ≤ a ∧ a < sM s 1) ∧ (0 ≤ k ∧ k ≤ 3) ∧ 0 < lu (sM s) a.toNat k.toNat
  · rw [if_pos c, if_pos c, if_neg (ine (by omega) (by omega) (by omega) (by omega) (by omega))]
    obtain ⟨r, rfl⟩ := Int.eq_ofNat_of_zero_le c.1.1
    obtain ⟨j, rfl⟩ := Int.eq_ofNat_of_zero_le c.2.1.1
    have hw := wwr hs.1.1 (r := r) (by omega)
    simp only [Int.toNat_natCast]
    rcases hb with rfl | rfl
    · rw [if_pos rfl, if_pos rfl, f2_unitsOf_ok h.o hw (by omega) (by omega), bd_some]
    · rw [if_neg (ine (by omega) (by omega) (by omega) (by omega) (by omega)), if_neg (by omega), f2_itsOf_ok h.o hs.1.1 hw (by omega) (by omega), bd_some]
  · rw [if_neg c, if_pos rfl, if_neg c]
theorem c_worth (h : CI mm s) (hs : SW s) {a u : Int} (h1 : -2147483648 ≤ a) (h2 : a < 2147483648) (h3 : -2147483648 ≤ u) (h4 : u < 2147483648) : f6_worth mm (ii a) (ii u) = some (ii (if 0 ≤ a ∧ a < sM s 0 then wor (sM s) a.toNat u else -1)) := by
  have hz := hs.1.1.zn
  have hc := zn_c hs.1.1
  unfold f6_worth
  rw [f5_has_ok h.z hz h1 h2, bd_some, l0, l1, ii_neg]
  by_cases c : 0 ≤ a ∧ a < sM s 0
  · obtain ⟨z, rfl⟩ := Int.eq_ofNat_of_zero_le c.1
    rw [if_pos c, if_neg (ine (by omega) (by omega) (by omega) (by omega) (by omega)), f5_worthOf_ok h.z (wwz hs.1.1 (by omega)) (by omega) h3 h4, bd_some, if_pos c, Int.toNat_natCast]
  · rw [if_neg c, if_pos rfl, if_neg c]
theorem c_wants (h : CI mm s) (hs : SW s) {a p : Int} (h1 : -2147483648 ≤ a) (h2 : a < 2147483648) (h3 : -2147483648 ≤ p) (h4 : p < 2147483648) : f6_wants mm (ii a) (ii p) = some (ii (if (0 ≤ a ∧ a < sM s 0) ∧ (0 ≤ p ∧ p ≤ 9999) then Wt (sM s) a.toNat p else -1)) := by
  have hz := hs.1.1.zn
  have hc := zn_c hs.1.1
  unfold f6_wants
  rw [f5_has_ok h.z hz h1 h2, bd_some, l0, l1, ii_neg, l9999]
  by_cases c : 0 ≤ a ∧ a < sM s 0
  · obtain ⟨z, rfl⟩ := Int.eq_ofNat_of_zero_le c.1
    rw [if_pos c, if_neg (ine (by omega) (by omega) (by omega) (by omega) (by omega)), f6_within_ok h3 h4 (by omega) (by omega) (by omega) (by omega), bd_some]
    by_cases d : 0 ≤ p ∧ p ≤ 9999
    · rw [if_pos d, if_neg (ine (by omega) (by omega) (by omega) (by omega) (by omega)), f5_wantedFrom_ok h.z (wwz hs.1.1 (by omega)) (by omega) (by omega) (by omega), bd_some, if_pos ⟨c, d⟩, Int.toNat_natCast]
    · rw [if_neg d, if_pos rfl, if_neg (fun x => d x.2)]
  · rw [if_neg c, if_pos rfl, if_neg (fun x => c x.1)]
end
