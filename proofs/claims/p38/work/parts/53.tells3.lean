section
variable {mm m' : Mem} {s : ST}
def lpr (M : WM) (r : Nat) : Int := if stp M r = 0 then 0 else sp M r (stp M r - 1)
theorem lpr_bd {M : WM} {r : Nat} (hw : RW M r) : 0 ≤ lpr M r ∧ lpr M r ≤ 9999 := by
  unfold lpr
  by_cases e : stp M r = 0
  · rw [if_pos e]; omega
  · rw [if_neg e]
    have := hw.2.2.2.2.2.2.2 (stp M r - 1) (by omega)
    omega
def oks (M : WM) (a u p : Int) : Prop := (0 ≤ a ∧ a < M 1) ∧ stp M a.toNat < 3 ∧ (1 ≤ u ∧ u ≤ rest M a.toNat) ∧ (lpr M a.toNat ≤ p ∧ p ≤ 9999)
theorem sadd_WF {M : WM} (hM : WF M) {r : Nat} (hr : r < rn M) (hn : stp M r < 3) {u p : Int} (hu : 1 ≤ u ∧ u ≤ rest M r) (hp : lpr M r ≤ p ∧ p ≤ 9999) : WF (sadd M r u p) := by
  have hw := wwr hM.1 hr
  have rb := rest_bd hw
  have lb := lpr_bd hw
  have q := sadd_RW hw hn (u := u) (p := p) (by omega) (by omega)
  exact WF_r hM hr (fun j hj => sadd_o (by omega) hn) (sadd_rg hM.1 hn (by omega) (by omega)) q.1 (by rw [q.2]; omega)
theorem c_step_n (h : CI mm s) (hs : SW s) {a u p : Int} (h1 : -2147483648 ≤ a) (h2 : a < 2147483648) (h3 : -2147483648 ≤ u) (h4 : u < 2147483648) (h5 : -2147483648 ≤ p) (h6 : p < 2147483648) (hn : ¬ oks (sM s) a u p) : f6_step mm (ii a) (ii u) (ii p) = some (ii (-1), mm) := by
  have hz := hs.1.1.rn
  have zc := rn_c hs.1.1
  unfold f6_step
  rw [f2_has_ok h.o hz h1 h2, bd_some, l0, l1, l3, l9999, ii_neg]
  by_cases c : 0 ≤ a ∧ a < sM s 1
  · obtain ⟨r, rfl⟩ := Int.eq_ofNat_of_zero_le c.1
    have hw := wwr hs.1.1 (r := r) (by omega)
    have np := stp_le hw
    have rb := rest_bd hw
    have lb := lpr_bd hw
    have q : f6_at mm 32 (ii r) = _ := o_stp h.o hw (by omega)
    rw [if_pos c, if_neg (ine (by omega) (by omega) (by omega) (by omega) (by omega)), q, bd_some]
    by_cases d : stp (sM s) r < 3
    · rw [if_pos (ilt (by omega) (by omega) (by omega)), f2_rest_ok h.o hw (by omega), bd_some, f6_within_ok h3 h4 (by omega) (by omega) (by omega) (by omega), bd_some]
      by_cases e : 1 ≤ u ∧ u ≤ rest (sM s) r
      · rw [if_pos e, if_neg (ine (by omega) (by omega) (by omega) (by omega) (by omega)), f2_lastPrice_ok h.o hw (by omega), bd_some]
        show bd (f6_within mm (ii p) (ii (lpr (sM s) r)) (ii 9999)) _ = _
        rw [f6_within_ok h5 h6 (by omega) (by omega) (by omega) (by omega), bd_some]
        by_cases f : lpr (sM s) r ≤ p ∧ p ≤ 9999
        · exact absurd ⟨c, d, e, f⟩ hn
        · rw [if_neg f, if_pos rfl]
      · rw [if_neg e, if_pos rfl]
    · rw [if_neg (inlt (by omega) (by omega) (by omega))]
  · rw [if_neg c, if_pos rfl]
theorem c_step_y (h : CI mm s) (hs : SW s) {a u p : Int} (hy : oks (sM s) a u p) : ∃ m', f6_step mm (ii a) (ii u) (ii p) = some (ii ((stp (sM s) a.toNat : Int) + 1), m') ∧ Fcl mm m' ∧ CI m' (sset s (sadd (sM s) a.toNat u p)) := by
  have hz := hs.1.1.rn
  have zc := rn_c hs.1.1
  obtain ⟨c, d, e, f⟩ := hy
  obtain ⟨r, rfl⟩ := Int.eq_ofNat_of_zero_le c.1
  simp only [Int.toNat_natCast] at d e f ⊢
  have hw := wwr hs.1.1 (r := r) (by omega)
  have rb := rest_bd hw
  have lb := lpr_bd hw
  obtain ⟨m1, g1, g2, g3⟩ := f2_addStep_ok h.o hw (by omega) d u p
  refine ⟨m1, ?_, fo_cl g1, h.uo g1 g2 (sadd_zj d)⟩
  unfold f6_step
  have q : f6_at mm 32 (ii r) = _ := o_stp h.o hw (by omega)
  rw [f2_has_ok h.o hz (by omega) (by omega), bd_some, l0, l1, l3, l9999, if_pos c, if_neg (ine (by omega) (by omega) (by omega) (by omega) (by omega)), q, bd_some, if_pos (ilt (by omega) (by omega) (by omega)), f2_rest_ok h.o hw (by omega), bd_some, f6_within_ok (by omega) (by omega) (by omega) (by omega) (by omega) (by omega), bd_some, if_pos e, if_neg (ine (by omega) (by omega) (by omega) (by omega) (by omega)), f2_lastPrice_ok h.o hw (by omega), bd_some]
  show bd (f6_within mm (ii p) (ii (lpr (sM s) r)) (ii 9999)) _ = _
  rw [f6_within_ok (by omega) (by omega) (by omega) (by omega) (by omega) (by omega), bd_some, if_pos f, if_neg (ine (by omega) (by omega) (by omega) (by omega) (by omega)), g3, bd_some]
/-! drop -/
/-! set -/
def plc (M : WM) (a k v : Int) : Int := if 0 ≤ v ∧ v ≤ 9999 then (if a = 0 then (if 0 ≤ k ∧ k ≤ 3 then 3 + k else -1) else if a = 1 then 2 else if a = 2 then (if 1 ≤ k ∧ k < M 0 then 8 + 12 * k else -1) else if a = 3 then (if 1 ≤ k ∧ k < M 0 then 9 + 12 * k else -1) else if a = 4 then (if v ≤ 1 ∧ (0 ≤ k ∧ k < M 1) then 84 + 13 * k else -1) else -1) else -1
end
