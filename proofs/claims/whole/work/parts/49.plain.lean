/-! questions that clear nothing -/
theorem lgc_self (x : Int64) : lg_cmp x x = 0 := by
  unfold lg_cmp
  rw [if_neg (fun h => Int64.lt_irrefl h), if_pos rfl]
def bts (M : WM) (z : Nat) : Nat → Int32
  | 0 => ii 0
  | r + 1 => if M (79 + 13 * r) = z then bts M z r ||| (ii 1 <<< (ii r &&& 31)) else bts M z r
def cntS (s : ST) (a : Int) : Int := if a = 0 then sM s 0 else if a = 1 then sM s 1 else if a = 2 then sM s 2 else if a = 3 then stl s else if 10 ≤ a ∧ a ≤ 13 then sM s (3 + (a - 10).toNat) else -1
def lineS (M : WM) (a k b : Int) : Int := if (0 ≤ a ∧ a < M 1) ∧ (0 ≤ k ∧ k ≤ 3) ∧ 0 < lu M a.toNat k.toNat then (if b = 0 then lu M a.toNat k.toNat else li M a.toNat k.toNat (flr M a.toNat)) else -1
def zofS (M : WM) (z k : Nat) : Int32 := if k < 4 then ii (M (7 + 12 * z + k)) else if k = 4 then ii (wan M z) else bts M z (rn M)
section
variable {mm : Mem} {s : ST}
theorem c_fault (h : CI mm s) : f6_fault mm = some (ii (sft s)) := by
  unfold f6_fault
  rw [h.2.2.2.2.2.2.2]
theorem r_fault (h : RI mm s) : ∃ m', f7_fault mm = some (ii (sft s), m') ∧ Frf mm m' ∧ RI m' s := by
  have h0 := h.u0 (k := 0) (by omega) (ii 0)
  refine ⟨_, ?_, frf_u0 mm 0 (ii 0), h0⟩
  unfold f7_fault
  rw [l0, nm_eq, h0.2.2.2.2.2.2.2]
theorem c_count (h : CI mm s) (hs : SW s) {a : Int} (h1 : -2147483648 ≤ a) (h2 : a < 2147483648) : f6_count mm (ii a) = some (ii (cntS s a)) := by
  unfold f6_count cntS
  have ho := h.o
  rw [h.z.n, ho.n, ho.c, h.2.2.2.2.2.1, l0, l1, l2, l3, l10, l13]
  by_cases c0 : a = 0
  · rw [if_pos (by rw [c0]), if_pos c0]
  · rw [if_neg (ine c0 h1 h2 (by omega) (by omega)), if_neg c0]
    by_cases c1 : a = 1
    · rw [if_pos (by rw [c1]), if_pos c1]
    · rw [if_neg (ine c1 h1 h2 (by omega) (by omega)), if_neg c1]
      by_cases c2 : a = 2
      · rw [if_pos (by rw [c2]), if_pos c2]
      · rw [if_neg (ine c2 h1 h2 (by omega) (by omega)), if_neg c2]
        by_cases c3 : a = 3
        · rw [if_pos (by rw [c3]), if_pos c3]
        · rw [if_neg (ine c3 h1 h2 (by omega) (by omega)), if_neg c3, f6_within_ok h1 h2 (by omega) (by omega) (by omega) (by omega), bd_some]
          by_cases c : 10 ≤ a ∧ a ≤ 13
          · have q : f6_at mm 25 (ii (a - 10)) = _ := o_fl ho (k := (a - 10).toNat) (by omega) (i := a - 10) (by omega)
            rw [if_pos c, if_neg (ine (by omega) (by omega) (by omega) (by omega) (by omega)), ii_sub, q, bd_some, if_pos c]
          · rw [if_neg c, if_pos rfl, if_neg c, ii_neg]
theorem r_count (h : RI mm s) (hs : SW s) {a : Int} (h1 : -2147483648 ≤ a) (h2 : a < 2147483648) : ∃ m', f7_count mm (ii a) = some (ii (cntS s a), m') ∧ Frf mm m' ∧ RI m' s := by
  have h0 := h.u0 (k := 0) (by omega) (ii 0)
  refine ⟨_, ?_, frf_u0 mm 0 (ii 0), h0⟩
  unfold f7_count cntS
  rw [l0, nm_eq, l10, l13, f7_in_ok h1 h2 (by omega) (by omega) (by omega) (by omega), bd_some, l1, l2, l3, f7_in_ok h1 h2 (by omega) (by omega) (by omega) (by omega), bd_some]
  by_cases c : 10 ≤ a ∧ a ≤ 13
  · rw [if_pos c, if_neg (ine (by omega) (by omega) (by omega) (by omega) (by omega)), if_neg (by omega), if_neg (by omega), if_neg (by omega), if_neg (by omega), if_pos c, ii_add, ii_sub, rd1 h0.1 (k := 3 + (a - 10).toNat) (by omega) (by omega)]
  · rw [if_neg c, if_pos rfl]
    by_cases d : 0 ≤ a ∧ a ≤ 2
    · rw [if_pos d, if_neg (ine (by omega) (by omega) (by omega) (by omega) (by omega)), rd1 h0.1 (k := a.toNat) (by omega) (by omega)]
      by_cases c0 : a = 0
      · rw [if_pos c0, c0]; rfl
      · rw [if_neg c0]
        by_cases c1 : a = 1
        · rw [if_pos c1, c1]; rfl
        · have c2 : a = 2 := by omega
          rw [if_neg c1, if_pos c2, c2]; rfl
    · rw [if_neg d, if_pos rfl, if_neg (show ¬ a = 0 by omega), if_neg (show ¬ a = 1 by omega), if_neg (show ¬ a = 2 by omega)]
      by_cases c3 : a = 3
      · rw [if_pos (by rw [c3]), if_pos c3, h0.2.2.2.2.2.1]
      · rw [if_neg (ine c3 h1 h2 (by omega) (by omega)), if_neg c3, if_neg c, ii_neg]
theorem c_line (h : CI mm s) (hs : SW s) {a k b : Int} (h1 : -2147483648 ≤ a) (h2 : a < 2147483648) (h3 : -2147483648 ≤ k) (h4 : k < 2147483648) (hb : b = 0 ∨ b = 1) : f6_line mm (ii a) (ii k) (ii b) = some (ii (lineS (sM s) a k b)) := by
  have hr := hs.1.1.rn
  have hc := rn_c hs.1.1
  unfold f6_line lineS
  rw [f2_hasLine_ok h.o hs.1.1 h1 h2 h3 h4, bd_some, l0, l1, ii_neg]
  by_cases c : (0 ≤ a ∧ a < sM s 1) ∧ (0 ≤ k ∧ k ≤ 3) ∧ 0 < lu (sM s) a.toNat k.toNat
  · rw [if_pos c, if_pos c, if_neg (ine (by omega) (by omega) (by omega) (by omega) (by omega))]
    obtain ⟨r, rfl⟩ := Int.eq_ofNat_of_zero_le c.1.1
    obtain ⟨j, rfl⟩ := Int.eq_ofNat_of_zero_le c.2.1.1
    have hw := wwr hs.1.1 (r := r) (by omega)
    simp only [Int.toNat_natCast]
    rcases hb with rfl | rfl
    · rw [if_pos rfl, if_pos rfl, f2_unitsOf_ok h.o hw (by omega) (by omega), bd_some]
    · rw [if_neg (ine (by omega) (by omega) (by omega) (by omega) (by omega)), if_neg (by omega), f2_itsOf_ok h.o hs.1.1 hw (by omega) (by omega), bd_some]
  · rw [if_neg c, if_pos rfl, if_neg c]
theorem r_line (h : RI mm s) (hs : SW s) {a k b : Int} (h1 : -2147483648 ≤ a) (h2 : a < 2147483648) (h3 : -2147483648 ≤ k) (h4 : k < 2147483648) (hb : b = 0 ∨ b = 1) : ∃ m', f7_line mm (ii a) (ii k) (ii b) = some (ii (lineS (sM s) a k b), m') ∧ Frf mm m' ∧ RI m' s := by
  have hr := hs.1.1.rn
  have hc := rn_c hs.1.1
  have h0 := (h.u0 (k := 0) (by omega) (ii 0)).u0 (k := 6) (by omega) (ii 0)
  refine ⟨_, ?_, (frf_u0 mm 0 (ii 0)).tr (frf_u0 _ 6 (ii 0)), h0⟩
  unfold f7_line lineS
  rw [l0, nm_eq, nm_eq, f7_isResource_ok h0.1 hr h1 h2, bd_some, l1, ii_neg]
  by_cases c : 0 ≤ a ∧ a < sM s 1
  · obtain ⟨r, rfl⟩ := Int.eq_ofNat_of_zero_le c.1
    have hw := wwr hs.1.1 (r := r) (by omega)
    rw [if_pos c, if_neg (ine (by omega) (by omega) (by omega) (by omega) (by omega)), f7_isLine_ok h0.1 hw (by omega) h3 h4, bd_some, Int.toNat_natCast]
    by_cases d : (0 ≤ k ∧ k ≤ 3) ∧ 0 < lu (sM s) r k.toNat
    · obtain ⟨j, rfl⟩ := Int.eq_ofNat_of_zero_le d.1.1
      rw [if_pos d, if_neg (ine (by omega) (by omega) (by omega) (by omega) (by omega)), if_pos (show ((0 : Int) ≤ r ∧ (r : Int) < sM s 1) ∧ ((0 : Int) ≤ j ∧ (j : Int) ≤ 3) ∧ 0 < lu (sM s) r (j : Int).toNat from ⟨c, d⟩), Int.toNat_natCast]
      rcases hb with rfl | rfl
      · rw [if_pos rfl, if_pos rfl, f7_lineUnits_ok h0.1 hw (by omega) (by omega), bd_some]
      · rw [if_neg (ine (by omega) (by omega) (by omega) (by omega) (by omega)), if_neg (by omega), f7_lineIts_ok h0.1 hs.1.1 hw (by omega) (by omega) false (by rw [up2_at]; rfl), bd_some]
        rfl
    · rw [if_neg d, if_pos rfl, if_neg (show ¬ (((0 : Int) ≤ r ∧ (r : Int) < sM s 1) ∧ (0 ≤ k ∧ k ≤ 3) ∧ 0 < lu (sM s) r k.toNat) from fun x => d x.2)]
  · rw [if_neg c, if_pos rfl, if_neg (show ¬ ((0 ≤ a ∧ a < sM s 1) ∧ (0 ≤ k ∧ k ≤ 3) ∧ 0 < lu (sM s) a.toNat k.toNat) from fun x => c x.1)]
theorem c_worth (h : CI mm s) (hs : SW s) {a u : Int} (h1 : -2147483648 ≤ a) (h2 : a < 2147483648) (h3 : -2147483648 ≤ u) (h4 : u < 2147483648) : f6_worth mm (ii a) (ii u) = some (ii (if 0 ≤ a ∧ a < sM s 0 then wor (sM s) a.toNat u else -1)) := by
  have hz := hs.1.1.zn
  have hc := zn_c hs.1.1
  unfold f6_worth
  rw [f5_has_ok h.z hz h1 h2, bd_some, l0, l1, ii_neg]
  by_cases c : 0 ≤ a ∧ a < sM s 0
  · obtain ⟨z, rfl⟩ := Int.eq_ofNat_of_zero_le c.1
    rw [if_pos c, if_neg (ine (by omega) (by omega) (by omega) (by omega) (by omega)), f5_worthOf_ok h.z (wwz hs.1.1 (by omega)) (by omega) h3 h4, bd_some, if_pos c, Int.toNat_natCast]
  · rw [if_neg c, if_pos rfl, if_neg c]
theorem r_worth (h : RI mm s) (hs : SW s) {a u : Int} (h1 : -2147483648 ≤ a) (h2 : a < 2147483648) (h3 : -2147483648 ≤ u) (h4 : u < 2147483648) : ∃ m', f7_worth mm (ii a) (ii u) = some (ii (if 0 ≤ a ∧ a < sM s 0 then wor (sM s) a.toNat u else -1), m') ∧ Frf mm m' ∧ RI m' s := by
  have hz := hs.1.1.zn
  have hc := zn_c hs.1.1
  have h0 := h.u0 (k := 0) (by omega) (ii 0)
  refine ⟨_, ?_, frf_u0 mm 0 (ii 0), h0⟩
  unfold f7_worth
  rw [l0, nm_eq, f7_isZone_ok h0.1 hz h1 h2, bd_some, l1, ii_neg]
  by_cases c : 0 ≤ a ∧ a < sM s 0
  · obtain ⟨z, rfl⟩ := Int.eq_ofNat_of_zero_le c.1
    rw [if_pos c, if_neg (ine (by omega) (by omega) (by omega) (by omega) (by omega)), f7_worthOf_ok h0.1 (wwz hs.1.1 (by omega)) (by omega) h3 h4, bd_some, if_pos c, Int.toNat_natCast]
  · rw [if_neg c, if_pos rfl, if_neg c]
theorem c_wants (h : CI mm s) (hs : SW s) {a p : Int} (h1 : -2147483648 ≤ a) (h2 : a < 2147483648) (h3 : -2147483648 ≤ p) (h4 : p < 2147483648) : f6_wants mm (ii a) (ii p) = some (ii (if (0 ≤ a ∧ a < sM s 0) ∧ (0 ≤ p ∧ p ≤ 9999) then Wt (sM s) a.toNat p else -1)) := by
  have hz := hs.1.1.zn
  have hc := zn_c hs.1.1
  unfold f6_wants
  rw [f5_has_ok h.z hz h1 h2, bd_some, l0, l1, ii_neg, l9999]
  by_cases c : 0 ≤ a ∧ a < sM s 0
  · obtain ⟨z, rfl⟩ := Int.eq_ofNat_of_zero_le c.1
    rw [if_pos c, if_neg (ine (by omega) (by omega) (by omega) (by omega) (by omega)), f6_within_ok h3 h4 (by omega) (by omega) (by omega) (by omega), bd_some]
    by_cases d : 0 ≤ p ∧ p ≤ 9999
    · rw [if_pos d, if_neg (ine (by omega) (by omega) (by omega) (by omega) (by omega)), f5_wantedFrom_ok h.z (wwz hs.1.1 (by omega)) (by omega) (by omega) (by omega), bd_some, if_pos ⟨c, d⟩, Int.toNat_natCast]
    · rw [if_neg d, if_pos rfl, if_neg (fun x => d x.2)]
  · rw [if_neg c, if_pos rfl, if_neg (fun x => c x.1)]
theorem r_wants (h : RI mm s) (hs : SW s) {a p : Int} (h1 : -2147483648 ≤ a) (h2 : a < 2147483648) (h3 : -2147483648 ≤ p) (h4 : p < 2147483648) : ∃ m', f7_wants mm (ii a) (ii p) = some (ii (if (0 ≤ a ∧ a < sM s 0) ∧ (0 ≤ p ∧ p ≤ 9999) then Wt (sM s) a.toNat p else -1), m') ∧ Frf mm m' ∧ RI m' s := by
  have hz := hs.1.1.zn
  have hc := zn_c hs.1.1
  have h0 := h.u0 (k := 0) (by omega) (ii 0)
  refine ⟨_, ?_, frf_u0 mm 0 (ii 0), h0⟩
  unfold f7_wants
  rw [l0, nm_eq, f7_isZone_ok h0.1 hz h1 h2, bd_some, l1, ii_neg]
  by_cases c : 0 ≤ a ∧ a < sM s 0
  · obtain ⟨z, rfl⟩ := Int.eq_ofNat_of_zero_le c.1
    rw [if_pos c, if_neg (ine (by omega) (by omega) (by omega) (by omega) (by omega)), f7_isPrice_ok h3 h4, bd_some]
    by_cases d : 0 ≤ p ∧ p ≤ 9999
    · rw [if_pos d, if_neg (ine (by omega) (by omega) (by omega) (by omega) (by omega)), f7_wantedAt_ok h0.1 (wwz hs.1.1 (by omega)) (by omega) (by omega) (by omega), bd_some, if_pos ⟨c, d⟩, Int.toNat_natCast]
    · rw [if_neg d, if_pos rfl, if_neg (fun x => d x.2)]
  · rw [if_neg c, if_pos rfl, if_neg (fun x => c x.1)]
theorem bi4 {o : Nat} (h : OK mm o (sM s)) (hs : SW s) {z : Int} (h1 : -2147483648 ≤ z) (h2 : z < 2147483648) (hz : 0 ≤ z) : ∀ (d r n : Nat), r + d = rn (sM s) → d < n → f2_bitsIn_l4 mm n o (ii z) (bts (sM s) z.toNat r) (ii r) = some (bts (sM s) z.toNat (rn (sM s))) := by
  have hrb := rn_bd hs.1.1
  intro d
  induction d with
  | zero =>
    intro r n hr hdn
    obtain ⟨q, rfl⟩ : ∃ q, n = q + 1 := ⟨n - 1, by omega⟩
    rw [f2_bitsIn_l4, h.n, rn_c hs.1.1, if_neg (inlt (by omega) (by omega) (by omega)), show r = rn (sM s) by omega]
  | succ d ih =>
    intro r n hr hdn
    obtain ⟨q, rfl⟩ : ∃ q, n = q + 1 := ⟨n - 1, by omega⟩
    have o := (wwr hs.1.1 (r := r) (by omega)).1
    have zb := hs.1.1.zn
    have go := ih (r + 1) q (by omega) (by omega)
    rw [bts] at go
    rw [f2_bitsIn_l4, h.n, rn_c hs.1.1, if_pos (ilt (by omega) (by omega) (by omega)), o_zn h (by omega), bd_some, l1]
    unfold f2_bitsIn_j30
    by_cases c : sM s (79 + 13 * r) = z
    · rw [if_pos (by omega)] at go
      rw [if_pos (by rw [c]), nm_eq, iSu, nm_eq]
      exact go
    · rw [if_neg (by omega)] at go
      rw [if_neg (ine c (by omega) (by omega) h1 h2), iSu, nm_eq]
      exact go
theorem c_zoneOf (h : CI mm s) (hs : SW s) {a b : Int} (h1 : -2147483648 ≤ a) (h2 : a < 2147483648) (h3 : -2147483648 ≤ b) (h4 : b < 2147483648) : (((0 ≤ a ∧ a < sM s 0) ∧ (0 ≤ b ∧ b ≤ 5)) → f6_zoneOf mm (ii a) (ii b) = some (zofS (sM s) a.toNat b.toNat)) ∧ (¬ ((0 ≤ a ∧ a < sM s 0) ∧ (0 ≤ b ∧ b ≤ 5)) → f6_zoneOf mm (ii a) (ii b) = none ∧ t6_zoneOf mm (ii a) (ii b) = some ()) := by
  have hz := hs.1.1.zn
  have hc := zn_c hs.1.1
  constructor
  · rintro ⟨c, d⟩
    obtain ⟨z, rfl⟩ := Int.eq_ofNat_of_zero_le c.1
    obtain ⟨k, rfl⟩ := Int.eq_ofNat_of_zero_le d.1
    have hw := wwz hs.1.1 (z := z) (by omega)
    unfold f6_zoneOf zofS
    rw [f5_has_ok h.z hz h1 h2, bd_some, l0, l1, l2, l3, l4, l5, if_pos c, if_neg (ine (by omega) (by omega) (by omega) (by omega) (by omega))]
    simp only [Int.toNat_natCast]
    have q1 : f6_at mm 19 (ii z) = _ := z_in h.z (z := z) (by omega)
    have q2 : f6_at mm 20 (ii z) = _ := z_ot h.z (z := z) (by omega)
    have q3 : f6_at mm 21 (ii z) = _ := z_pts h.z (z := z) (by omega)
    have ne : ∀ j : Int, 0 ≤ j ∧ j < 6 → ¬ (k : Int) = j → ¬ ii (k : Int) = ii j := fun j hj hk => ine hk (by omega) (by omega) (by omega) (by omega)
    by_cases c0 : k = 0
    · subst c0
      rw [if_pos (by rfl)]
      by_cases z0 : z = 0
      · subst z0
        rw [if_pos (by rfl), if_pos (by omega), ii_neg]
        exact congrArg (fun x => some (ii x)) hs.1.1.o0.symm
      · have q0 : f6_at mm 18 (ii z) = _ := z_out h.z (z := z) (by omega) (by omega)
        rw [if_neg (ine (by omega) (by omega) (by omega) (by omega) (by omega)), q0, bd_some, if_pos (by omega), Nat.add_zero]
    · rw [if_neg (ne 0 (by omega) (by omega))]
      by_cases c1 : k = 1
      · subst c1
        rw [if_pos (by rfl), q1, bd_some, if_pos (by omega), show 7 + 12 * z + 1 = 8 + 12 * z by omega]
      · rw [if_neg (ne 1 (by omega) (by omega))]
        by_cases c2 : k = 2
        · subst c2
          rw [if_pos (by rfl), q2, bd_some, if_pos (by omega), show 7 + 12 * z + 2 = 9 + 12 * z by omega]
        · rw [if_neg (ne 2 (by omega) (by omega))]
          by_cases c3 : k = 3
          · subst c3
            rw [if_pos (by rfl), q3, bd_some, if_pos (by omega), show 7 + 12 * z + 3 = 10 + 12 * z by omega]
          · rw [if_neg (ne 3 (by omega) (by omega))]
            by_cases c4 : k = 4
            · subst c4
              rw [if_pos (by rfl), f5_wanted_ok h.z hw (by omega), bd_some, if_neg (by omega), if_pos rfl]
            · have c5 : k = 5 := by omega
              subst c5
              rw [if_neg (ne 4 (by omega) (by omega)), if_pos (by rfl), if_neg (by omega), if_neg (by omega)]
              unfold f2_bitsIn
              rw [l0]
              have q := bi4 h.o hs (z := (z : Int)) h1 h2 (by omega) (rn (sM s)) 0 FU (by omega) (by have := rn_bd hs.1.1; unfold FU; omega)
              rw [Int.toNat_natCast] at q
              rw [show ii 0 = bts (sM s) z 0 from rfl]
              have q' : f2_bitsIn_l4 mm FU 24 (ii z) (bts (sM s) z 0) (bts (sM s) z 0) = some (bts (sM s) z (rn (sM s))) := q
              rw [q', bd_some]
  · intro hn
    unfold f6_zoneOf t6_zoneOf
    rw [f5_has_ok h.z hz h1 h2, bd_some, bd_some, l0, l1, l2, l3, l4, l5]
    by_cases c : 0 ≤ a ∧ a < sM s 0
    · have d : ¬ (0 ≤ b ∧ b ≤ 5) := fun x => hn ⟨c, x⟩
      rw [if_pos c]
      simp only [if_neg (show ¬ ii 1 = ii 0 by decide)]
      have ne : ∀ j : Int, 0 ≤ j → j < 6 → ¬ ii b = ii j := fun j hj hk => ine (by omega) (by omega) (by omega) (by omega) (by omega)
      simp only [if_neg (ne 0 (by omega) (by omega)), if_neg (ne 1 (by omega) (by omega)), if_neg (ne 2 (by omega) (by omega)), if_neg (ne 3 (by omega) (by omega)), if_neg (ne 4 (by omega) (by omega)), if_neg (ne 5 (by omega) (by omega))]
      first | exact ⟨rfl, rfl⟩ | exact ⟨trivial, trivial⟩ | exact ⟨trivial, rfl⟩ | trivial
    · rw [if_neg c]
      exact ⟨rfl, rfl⟩
theorem c_resourceOf (h : CI mm s) (hs : SW s) {a b : Int} (h1 : -2147483648 ≤ a) (h2 : a < 2147483648) (h3 : -2147483648 ≤ b) (h4 : b < 2147483648) : (((0 ≤ a ∧ a < sM s 1) ∧ (0 ≤ b ∧ b ≤ 6)) → f6_resourceOf mm (ii a) (ii b) = some (ii (sM s (79 + 13 * a.toNat + b.toNat)))) ∧ (¬ ((0 ≤ a ∧ a < sM s 1) ∧ (0 ≤ b ∧ b ≤ 6)) → f6_resourceOf mm (ii a) (ii b) = none ∧ t6_resourceOf mm (ii a) (ii b) = some ()) := by
  have hz := hs.1.1.rn
  have hc := rn_c hs.1.1
  constructor
  · rintro ⟨c, d⟩
    obtain ⟨z, rfl⟩ := Int.eq_ofNat_of_zero_le c.1
    obtain ⟨k, rfl⟩ := Int.eq_ofNat_of_zero_le d.1
    unfold f6_resourceOf
    rw [f2_has_ok h.o hz h1 h2, bd_some, l0, l1, l2, l3, l4, l5, l6, if_pos c, if_neg (ine (by omega) (by omega) (by omega) (by omega) (by omega))]
    simp only [Int.toNat_natCast]
    have q0 : f6_at mm 26 (ii z) = _ := o_zn h.o (r := z) (by omega)
    have q1 : f6_at mm 27 (ii z) = _ := o_sz h.o (r := z) (by omega)
    have q2 : f6_at mm 28 (ii z) = _ := o_kd h.o (r := z) (by omega)
    have q3 : f6_at mm 29 (ii z) = _ := o_ow h.o (r := z) (by omega)
    have q4 : f6_at mm 30 (ii z) = _ := o_mu h.o (r := z) (by omega)
    have q5 : f6_at mm 31 (ii z) = _ := o_fr h.o (r := z) (by omega)
    have q6 : f6_at mm 32 (ii z) = _ := o_st h.o (r := z) (by omega)
    have ne : ∀ j : Int, 0 ≤ j ∧ j < 7 → ¬ (k : Int) = j → ¬ ii (k : Int) = ii j := fun j hj hk => ine hk (by omega) (by omega) (by omega) (by omega)
    by_cases c0 : k = 0
    · subst c0
      rw [if_pos (by rfl), q0, bd_some, Nat.add_zero]
    · rw [if_neg (ne 0 (by omega) (by omega))]
      by_cases c1 : k = 1
      · subst c1
        rw [if_pos (by rfl), q1, bd_some, show 79 + 13 * z + 1 = 80 + 13 * z by omega]
      · rw [if_neg (ne 1 (by omega) (by omega))]
        by_cases c2 : k = 2
        · subst c2
          rw [if_pos (by rfl), q2, bd_some, show 79 + 13 * z + 2 = 81 + 13 * z by omega]
        · rw [if_neg (ne 2 (by omega) (by omega))]
          by_cases c3 : k = 3
          · subst c3
            rw [if_pos (by rfl), q3, bd_some, show 79 + 13 * z + 3 = 82 + 13 * z by omega]
          · rw [if_neg (ne 3 (by omega) (by omega))]
            by_cases c4 : k = 4
            · subst c4
              rw [if_pos (by rfl), q4, bd_some, show 79 + 13 * z + 4 = 83 + 13 * z by omega]
            · rw [if_neg (ne 4 (by omega) (by omega))]
              by_cases c5 : k = 5
              · subst c5
                rw [if_pos (by rfl), q5, bd_some, show 79 + 13 * z + 5 = 84 + 13 * z by omega]
              · have c6 : k = 6 := by omega
                subst c6
                rw [if_neg (ne 5 (by omega) (by omega)), if_pos (by rfl), q6, bd_some, show 79 + 13 * z + 6 = 85 + 13 * z by omega]
  · intro hn
    unfold f6_resourceOf t6_resourceOf
    rw [f2_has_ok h.o hz h1 h2, bd_some, bd_some, l0, l1, l2, l3, l4, l5, l6]
    by_cases c : 0 ≤ a ∧ a < sM s 1
    · have d : ¬ (0 ≤ b ∧ b ≤ 6) := fun x => hn ⟨c, x⟩
      rw [if_pos c]
      simp only [if_neg (show ¬ ii 1 = ii 0 by decide)]
      have ne : ∀ j : Int, 0 ≤ j → j < 7 → ¬ ii b = ii j := fun j hj hk => ine (by omega) (by omega) (by omega) (by omega) (by omega)
      simp only [if_neg (ne 0 (by omega) (by omega)), if_neg (ne 1 (by omega) (by omega)), if_neg (ne 2 (by omega) (by omega)), if_neg (ne 3 (by omega) (by omega)), if_neg (ne 4 (by omega) (by omega)), if_neg (ne 5 (by omega) (by omega)), if_neg (ne 6 (by omega) (by omega))]
      first | exact ⟨rfl, rfl⟩ | exact ⟨trivial, trivial⟩ | exact ⟨trivial, rfl⟩ | trivial
    · rw [if_neg c]
      exact ⟨rfl, rfl⟩
theorem z52 (h : RK mm (sM s)) (hs : SW s) {z : Nat} (hz : z < zn (sM s)) {b : Nat} (hb : b = 4 ∨ b = 5) : ∀ (d r n : Nat), r + d = rn (sM s) → d < n → f7_zoneOf_l52 n (ii z) (ii b) (bts (sM s) z r) (ii r) mm = some (zofS (sM s) z b, mm) := by
  have hrb := rn_bd hs.1.1
  have hzb := zn_bd hs.1.1
  intro d
  induction d with
  | zero =>
    intro r n hr hdn
    obtain ⟨q, rfl⟩ : ∃ q, n = q + 1 := ⟨n - 1, by omega⟩
    rw [f7_zoneOf_l52, l1, rd1 h (k := 1) (by omega) (by omega), rn_c hs.1.1, if_neg (inlt (by omega) (by omega) (by omega)), l4]
    unfold zofS
    rcases hb with rfl | rfl
    · rw [if_pos (by rfl), f7_wanted_ok h (wwz hs.1.1 hz) (by omega), bd_some, if_neg (by omega), if_pos rfl]
    · rw [if_neg (ine (by omega) (by omega) (by omega) (by omega) (by omega)), if_neg (by omega), if_neg (by omega), show r = rn (sM s) by omega]
  | succ d ih =>
    intro r n hr hdn
    obtain ⟨q, rfl⟩ : ∃ q, n = q + 1 := ⟨n - 1, by omega⟩
    have o := (wwr hs.1.1 (r := r) (by omega)).1
    have zb := hs.1.1.zn
    have go := ih (r + 1) q (by omega) (by omega)
    rw [bts] at go
    rw [f7_zoneOf_l52, l1, rd1 h (k := 1) (by omega) (by omega), rn_c hs.1.1, if_pos (ilt (by omega) (by omega) (by omega)), l0, f7_ofResource_ok h (r := r) (by omega) (k := 0) (by omega) (j := 79 + 13 * r) (by omega) (by omega), bd_some]
    unfold f7_zoneOf_j83
    by_cases c : sM s (79 + 13 * r) = z
    · rw [if_pos c] at go
      rw [if_pos (by rw [c]), nm_eq, iSu, nm_eq]
      exact go
    · rw [if_neg c] at go
      rw [if_neg (ine c (by omega) (by omega) (by omega) (by omega)), nm_eq, iSu, nm_eq, ← l0, Int32.or_zero]
      exact go
theorem r_zoneOf (h : RI mm s) (hs : SW s) {a b : Int} (h1 : -2147483648 ≤ a) (h2 : a < 2147483648) (h3 : -2147483648 ≤ b) (h4 : b < 2147483648) : ∃ m' v, f7_zoneOf mm (ii a) (ii b) = some (v, m') ∧ Frf mm m' ∧ RI m' s ∧ (((0 ≤ a ∧ a < sM s 0) ∧ (0 ≤ b ∧ b ≤ 5)) → v = zofS (sM s) a.toNat b.toNat ∧ m' 0 0 = 0) ∧ (¬ ((0 ≤ a ∧ a < sM s 0) ∧ (0 ≤ b ∧ b ≤ 5)) → m' 0 0 = 1) := by
  have hz := hs.1.1.zn
  have hc := zn_c hs.1.1
  unfold f7_zoneOf
  rw [f7_isZone_ok h.1 hz h1 h2, bd_some, l0, l5, f7_in_ok h3 h4 (by omega) (by omega) (by omega) (by omega), bd_some]
  have bad : ∃ m' v, f7_zoneOf_j22 (ii a) (ii b) mm = some (v, m') ∧ Frf mm m' ∧ RI m' s ∧ m' 0 0 = 1 := by
    refine ⟨up2 mm 0 0 1, ii 0, ?_, frf_u0 mm 0 _, h.u0 (by omega) _, up2_at _ _ _ _⟩
    unfold f7_zoneOf_j22 f7_zoneOf_j23
    rw [nm_eq, up2_at, if_pos (by decide), l0]
  obtain ⟨mb, vb, b1, b2, b3, b4⟩ := bad
  by_cases c : 0 ≤ a ∧ a < sM s 0
  · rw [if_pos c, if_neg (ine (by omega) (by omega) (by omega) (by omega) (by omega))]
    by_cases d : 0 ≤ b ∧ b ≤ 5
    · obtain ⟨z, rfl⟩ := Int.eq_ofNat_of_zero_le c.1
      obtain ⟨k, rfl⟩ := Int.eq_ofNat_of_zero_le d.1
      have h0 := h.u0 (k := 0) (by omega) (ii 0)
      refine ⟨up2 mm 0 0 (ii 0), zofS (sM s) z k, ?_, frf_u0 mm 0 _, h0, fun _ => ⟨rfl, by rw [up2_at]⟩, fun hn => absurd ⟨c, d⟩ hn⟩
      rw [if_pos d, if_neg (ine (by omega) (by omega) (by omega) (by omega) (by omega))]
      unfold f7_zoneOf_j23
      rw [nm_eq, up2_at, l0, if_neg (by decide), l4]
      by_cases e : k < 4
      · rw [if_pos (ilt (by omega) (by omega) (by omega)), f7_ofZone_ok h0.1 (z := z) (by omega) (k := k) (by omega) (j := 7 + 12 * z + k) rfl rfl, bd_some]
        unfold zofS
        rw [if_pos e]
      · rw [if_neg (inlt (by omega) (by omega) (by omega))]
        exact z52 h0.1 hs (by omega) (by omega) (rn (sM s)) 0 FU (by omega) (by have := rn_bd hs.1.1; unfold FU; omega)
    · refine ⟨mb, vb, ?_, b2, b3, fun x => absurd x.2 d, fun _ => b4⟩
      rw [if_neg d, if_pos rfl]
      exact b1
  · refine ⟨mb, vb, ?_, b2, b3, fun x => absurd x.1 c, fun _ => b4⟩
    rw [if_neg c, if_pos rfl]
    exact b1
theorem r_resourceOf (h : RI mm s) (hs : SW s) {a b : Int} (h1 : -2147483648 ≤ a) (h2 : a < 2147483648) (h3 : -2147483648 ≤ b) (h4 : b < 2147483648) : ∃ m' v, f7_resourceOf mm (ii a) (ii b) = some (v, m') ∧ Frf mm m' ∧ RI m' s ∧ (((0 ≤ a ∧ a < sM s 1) ∧ (0 ≤ b ∧ b ≤ 6)) → v = ii (sM s (79 + 13 * a.toNat + b.toNat)) ∧ m' 0 0 = 0) ∧ (¬ ((0 ≤ a ∧ a < sM s 1) ∧ (0 ≤ b ∧ b ≤ 6)) → m' 0 0 = 1) := by
  have hz := hs.1.1.rn
  have hc := rn_c hs.1.1
  unfold f7_resourceOf
  rw [f7_isResource_ok h.1 hz h1 h2, bd_some, l0, l6, f7_in_ok h3 h4 (by omega) (by omega) (by omega) (by omega), bd_some]
  have bad : ∃ m' v, f7_resourceOf_j23 (ii a) (ii b) mm = some (v, m') ∧ Frf mm m' ∧ RI m' s ∧ m' 0 0 = 1 := by
    refine ⟨up2 mm 0 0 1, ii 0, ?_, frf_u0 mm 0 _, h.u0 (by omega) _, up2_at _ _ _ _⟩
    unfold f7_resourceOf_j23 f7_resourceOf_j24
    rw [nm_eq, up2_at, if_pos (by decide), l0]
  obtain ⟨mb, vb, b1, b2, b3, b4⟩ := bad
  by_cases c : 0 ≤ a ∧ a < sM s 1
  · rw [if_pos c, if_neg (ine (by omega) (by omega) (by omega) (by omega) (by omega))]
    by_cases d : 0 ≤ b ∧ b ≤ 6
    · obtain ⟨z, rfl⟩ := Int.eq_ofNat_of_zero_le c.1
      obtain ⟨k, rfl⟩ := Int.eq_ofNat_of_zero_le d.1
      have h0 := h.u0 (k := 0) (by omega) (ii 0)
      refine ⟨up2 mm 0 0 (ii 0), ii (sM s (79 + 13 * z + k)), ?_, frf_u0 mm 0 _, h0, fun _ => ⟨rfl, by rw [up2_at]⟩, fun hn => absurd ⟨c, d⟩ hn⟩
      rw [if_pos d, if_neg (ine (by omega) (by omega) (by omega) (by omega) (by omega))]
      unfold f7_resourceOf_j24
      rw [nm_eq, up2_at, l0, if_neg (by decide), f7_ofResource_ok h0.1 (r := z) (by omega) (k := k) (by omega) (j := 79 + 13 * z + k) rfl rfl, bd_some]
    · refine ⟨mb, vb, ?_, b2, b3, fun x => absurd x.2 d, fun _ => b4⟩
      rw [if_neg d, if_pos rfl]
      exact b1
  · refine ⟨mb, vb, ?_, b2, b3, fun x => absurd x.1 c, fun _ => b4⟩
    rw [if_neg c, if_pos rfl]
    exact b1
end
