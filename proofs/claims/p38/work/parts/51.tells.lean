/-! calls that tell -/
def sset (s : ST) (M : WM) : ST := (M, s.2)
section
variable {mm m' : Mem} {s : ST}
theorem CI.ups (h : CI mm s) {M' : WM} (hf : ∀ c, c = 14 ∨ (73 ≤ c ∧ c ≤ 75) ∨ (95 ≤ c ∧ c ≤ 132) → m' c = mm c) (hm : MK m' 16 M') : CI m' (sset s M') := by
  obtain ⟨a, b, c, d, e, f, g, i⟩ := h
  exact ⟨hm, fun q => (b q).fr (fun c h1 h2 => hf c (by omega)), fun q => (c q).fr (fun c h1 h2 => hf c (by omega)), by rw [hf 14 (by omega)]; exact d, by rw [hf 14 (by omega)]; exact e, by rw [hf 74 (by omega)]; exact f, fun j hj => by rw [hf 75 (by omega)]; exact g j hj, by rw [hf 73 (by omega)]; exact i⟩
theorem RI.ups (h : RI mm s) {M' : WM} (hf : ∀ c, c = 2 ∨ c = 3 ∨ c = 12 → m' c = mm c) (h5 : m' 0 15 = mm 0 15) (h6 : m' 0 16 = mm 0 16) (hm : RK m' M') : RI m' (sset s M') := by
  obtain ⟨a, b, c, d, e, f, g, i⟩ := h
  exact ⟨hm, fun q j hj => by rw [hf 2 (by omega)]; exact b q j hj, fun q j hj => by rw [hf 2 (by omega)]; exact c q j hj, by rw [hf 3 (by omega)]; exact d, by rw [hf 3 (by omega)]; exact e, by rw [h5]; exact f, fun j hj => by rw [hf 12 (by omega)]; exact g j hj, by rw [h6]; exact i⟩
theorem CI.uz (h : CI mm s) {M' : WM} (hf : FrZ 17 mm m') (hz : ZK m' 17 M') (ho : ∀ j, oj j = true → M' j = sM s j) : CI m' (sset s M') :=
  h.ups (fun c hc => hf c (by omega)) ⟨hz, ok_M (ok_fr h.o (fun c hc => hf _ (by omega))) ho⟩
theorem CI.uo (h : CI mm s) {M' : WM} (hf : FrO 24 mm m') (hz : OK m' 24 M') (ho : ∀ j, zj j = true → M' j = sM s j) : CI m' (sset s M') :=
  h.ups (fun c hc => hf c (by omega)) ⟨zk_M (zk_fr h.z (fun c hc => hf _ (by omega))) ho, hz⟩
theorem fz_cl (hf : FrZ 17 mm m') : Fcl mm m' := fun c hc => hf c (by omega)
theorem fo_cl (hf : FrO 24 mm m') : Fcl mm m' := fun c hc => hf c (by omega)
theorem oj_z {j : Nat} (h : oj j = true) : j ≠ 0 ∧ ¬ (7 ≤ j ∧ j < 79) := by
  unfold oj at h
  simp at h
  omega
theorem zj_o {j : Nat} (h : zj j = true) : j ≠ 1 ∧ j ≠ 2 ∧ ¬ (3 ≤ j ∧ j < 7) ∧ j < 79 := by
  unfold zj at h
  simp at h
  omega
theorem RI.w1 (h : RI mm s) (j : Nat) (v : Int) : RI (up2 mm 1 j (ii v)) (sset s (up (sM s) j v)) :=
  h.ups (fun c hc => by funext k; exact up2_c _ _ _ _ (by omega)) (up2_c _ _ _ _ (by omega)) (up2_c _ _ _ _ (by omega)) (rk_up h.1 v)
theorem frf_u1 (mm : Mem) (k : Nat) (v : Int32) : Frf mm (up2 mm 1 k v) := fun c hc => by funext j; exact up2_c _ _ _ _ (by omega)
theorem SW.ups (h : SW s) {M' : WM} (hM : WF M') : SW (sset s M') := ⟨hM, h.2⟩
def Stq (mm : Mem) (fc : Option (Int32 × Mem)) (fr : Mem → Option (Int32 × Mem)) : Prop := ∃ m1 m2 v s', fc = some (v, m1) ∧ fr m1 = some (v, m2) ∧ CI m2 s' ∧ RI m2 s' ∧ SW s'
def StqL (mm : Mem) (fc : Option (Int64 × Mem)) (fr : Mem → Option (Int64 × Mem)) : Prop := ∃ m1 m2 v s', fc = some (v, m1) ∧ fr m1 = some (v, m2) ∧ CI m2 s' ∧ RI m2 s' ∧ SW s'
def StqQ (mm : Mem) (fc : Option Int32) (fr : Mem → Option (Int32 × Mem)) : Prop := ∃ m2 v s', fc = some v ∧ fr mm = some (v, m2) ∧ CI m2 s' ∧ RI m2 s' ∧ SW s'
theorem stp_mk {fc : Option (Int32 × Mem)} {fr : Mem → Option (Int32 × Mem)} {v : Int32} {s' : ST} (h : RI mm s) (hs : SW s') (hc : ∃ m', fc = some (v, m') ∧ Fcl mm m' ∧ CI m' s') (hr : ∀ m, RI m s → ∃ m', fr m = some (v, m') ∧ Frf m m' ∧ RI m' s') : Stq mm fc fr := by
  obtain ⟨m1, c1, c2, c3⟩ := hc
  obtain ⟨m2, r1, r2, r3⟩ := hr m1 (h.fc c2)
  exact ⟨m1, m2, v, s', c1, r1, c3.ff r2, r3, hs⟩
theorem stpL_mk {fc : Option (Int64 × Mem)} {fr : Mem → Option (Int64 × Mem)} {v : Int64} {s' : ST} (h : RI mm s) (hs : SW s') (hc : ∃ m', fc = some (v, m') ∧ Fcl mm m' ∧ CI m' s') (hr : ∀ m, RI m s → ∃ m', fr m = some (v, m') ∧ Frf m m' ∧ RI m' s') : StqL mm fc fr := by
  obtain ⟨m1, c1, c2, c3⟩ := hc
  obtain ⟨m2, r1, r2, r3⟩ := hr m1 (h.fc c2)
  exact ⟨m1, m2, v, s', c1, r1, c3.ff r2, r3, hs⟩
theorem stpQ_mk {fc : Option Int32} {fr : Mem → Option (Int32 × Mem)} {v : Int32} {s' : ST} (h : CI mm s) (hs : SW s) (hc : fc = some v) (hr : ∃ m', fr mm = some (v, m') ∧ Frf mm m' ∧ RI m' s) : StqQ mm fc fr := by
  obtain ⟨m2, r1, r2, r3⟩ := hr
  exact ⟨m2, v, s, hc, r1, h.ff r2, r3, hs⟩
/-! zone -/
def okz (M : WM) (a b c : Int) : Prop := M 0 < 6 ∧ (0 ≤ a ∧ a < M 0) ∧ (0 ≤ b ∧ b ≤ 9999) ∧ (0 ≤ c ∧ c ≤ 9999)
theorem c_zone_n (h : CI mm s) (hs : SW s) {a b c : Int} (h1 : -2147483648 ≤ a) (h2 : a < 2147483648) (h3 : -2147483648 ≤ b) (h4 : b < 2147483648) (h5 : -2147483648 ≤ c) (h6 : c < 2147483648) (hn : ¬ okz (sM s) a b c) : f6_zone mm (ii a) (ii b) (ii c) = some (ii (-1), mm) := by
  have hz := hs.1.1.zn
  unfold f6_zone
  rw [h.z.n, f5_has_ok h.z hz h1 h2, bd_some, l0, l1, l6, l9999, ii_neg, f6_within_ok h3 h4 (by omega) (by omega) (by omega) (by omega), bd_some, f6_within_ok h5 h6 (by omega) (by omega) (by omega) (by omega), bd_some]
  by_cases e1 : sM s 0 < 6
  · rw [if_pos (ilt e1 (by omega) (by omega))]
    by_cases e2 : 0 ≤ a ∧ a < sM s 0
    · rw [if_pos e2, if_neg (ine (by omega) (by omega) (by omega) (by omega) (by omega))]
      by_cases e3 : 0 ≤ b ∧ b ≤ 9999
      · rw [if_pos e3, if_neg (ine (by omega) (by omega) (by omega) (by omega) (by omega))]
        by_cases e4 : 0 ≤ c ∧ c ≤ 9999
        · exact absurd ⟨e1, e2, e3, e4⟩ hn
        · rw [if_neg e4, if_pos rfl]
      · rw [if_neg e3, if_pos rfl]
    · rw [if_neg e2, if_pos rfl]
  · rw [if_neg (inlt (by omega) (by omega) (by omega))]
theorem c_zone_y (h : CI mm s) (hs : SW s) {a b c : Int} (hy : okz (sM s) a b c) : ∃ m', f6_zone mm (ii a) (ii b) (ii c) = some (ii (zn (sM s)), m') ∧ Fcl mm m' ∧ CI m' (sset s (zoa (sM s) a b c)) := by
  have hz := hs.1.1.zn
  have zc := zn_c hs.1.1
  obtain ⟨e1, e2, e3, e4⟩ := hy
  obtain ⟨m', f1, f2, f3⟩ := f5_add_ok h.z hs.1.1 (by omega) a b c
  refine ⟨m', ?_, fz_cl f1, h.uz f1 f2 (fun j hj => by have := oj_z hj; exact zoa_o (by omega) (by omega))⟩
  unfold f6_zone
  rw [h.z.n, f5_has_ok h.z hz (by omega) (by omega), bd_some, l0, l6, l9999, f6_within_ok (by omega) (by omega) (by omega) (by omega) (by omega) (by omega), bd_some, f6_within_ok (by omega) (by omega) (by omega) (by omega) (by omega) (by omega), bd_some, if_pos (ilt e1 (by omega) (by omega)), if_pos e2, if_neg (ine (by omega) (by omega) (by omega) (by omega) (by omega)), if_pos e3, if_neg (ine (by omega) (by omega) (by omega) (by omega) (by omega)), if_pos e4, if_neg (ine (by omega) (by omega) (by omega) (by omega) (by omega)), f3, bd_some]
end
