/-! a market copied -/
theorem cp10 {s t k : Nat} (hs : ln s = k) (ht : ln t = k) (hst : s ≠ t) (hk : k < 1000) : ∀ (d i n : Nat) (m : Mem), i + d = k → d < n → (∀ j, j < i → m t j = m s j) → ∃ m', FrQ t m m' ∧ (∀ j, j < k → m' t j = m s j) ∧ f6_copyRow_l10 n s t (ii i) m = some m' := by
  intro d
  induction d with
  | zero =>
    intro i n m hi hdn hj
    obtain ⟨q, rfl⟩ : ∃ q, n = q + 1 := ⟨n - 1, by omega⟩
    refine ⟨m, FrQ.rf _ m, fun j h => hj j (by omega), ?_⟩
    rw [f6_copyRow_l10, ii_nI, hs, if_neg (inlt (by omega) (by omega) (by omega))]
  | succ d ih =>
    intro i n m hi hdn hj
    obtain ⟨q, rfl⟩ : ∃ q, n = q + 1 := ⟨n - 1, by omega⟩
    rw [f6_copyRow_l10, ii_nI, ii_nI, hs, ht, if_pos (ilt (by omega) (by omega) (by omega)), if_pos (ilt (by omega) (by omega) (by omega)), rdq m hs (k := i) (by omega) (by omega) rfl, wrq m ht (k := i) (by omega) (by omega) rfl, iSu, nm_eq]
    have F := (FrQ.rf t m).u i (m s i)
    obtain ⟨m', f1, f2, f3⟩ := ih (i + 1) q (up2 m t i (m s i)) (by omega) (by omega) (fun j h => by
      rw [up2_c _ _ _ _ hst]
      by_cases e : j = i
      · rw [e, up2_at]
      · rw [up2_k _ _ _ _ e]; exact hj j (by omega))
    refine ⟨m', F.tr f1, fun j h => ?_, f3⟩
    rw [f2 j h, up2_c _ _ _ _ hst]
theorem copyRow_ok (m : Mem) {s t k : Nat} (hs : ln s = k) (ht : ln t = k) (hst : s ≠ t) (hk : k < 1000) : ∃ m', FrQ t m m' ∧ (∀ j, j < k → m' t j = m s j) ∧ f6_copyRow m s t = some m' := by
  unfold f6_copyRow
  rw [l0]
  exact cp10 hs ht hst hk k 0 FU m (by omega) (by unfold FU; omega) (fun j h => by omega)
def apt (y0 n y1 : Nat) : Prop := y1 + n < y0 ∨ y0 + n < y1
theorem row_cp {m mm : Mem} {y0 n y1 i k : Nat} (ha : apt y0 n y1) (hi : i ≤ n) (hs : ln (y1 + i) = k) (ht : ln (y0 + i) = k) (hk : k < 1000) (hm : ∀ c, (c < y0 ∨ y0 + n < c) → m c = mm c) : ∃ m', FrQ (y0 + i) m m' ∧ (∀ j, j < k → m' (y0 + i) j = mm (y1 + i) j) ∧ f6_copyRow m (y1 + i) (y0 + i) = some m' := by
  unfold apt at ha
  obtain ⟨m', f1, f2, f3⟩ := copyRow_ok m hs ht (by omega) hk
  refine ⟨m', f1, fun j hj => ?_, f3⟩
  rw [f2 j hj, hm _ (by omega)]
def lz (c : Nat) : Nat := if c = 0 then 1 else if c ≤ 4 then 6 else 24
def lo (c : Nat) : Nat := if c = 0 then 2 else if c = 1 then 4 else if c ≤ 8 then 12 else 36
theorem cz_sl : ∀ j, j < 79 → zj j = true → (cz j).2 < lz (cz j).1 ∧ (cz j).1 ≤ 6 := by decide +kernel
theorem cof_sl : ∀ j, j < 235 → oj j = true → (cof j).2 < lo (cof j).1 ∧ (cof j).1 ≤ 10 := by decide +kernel
theorem zk_cp {mm m' : Mem} {y0 y1 : Nat} {M : WM} (h : ZK mm y1 M) (h0 : Ob y0 5) (hc : ∀ c, c ≤ 6 → ∀ s, s < lz c → m' (y0 + c) s = mm (y1 + c) s) : ZK m' y0 M := ⟨h0, fun j hj => by
  have a := cz_sl j (zj_lt hj) hj
  rw [hc _ a.2 _ a.1]; exact h.2 j hj⟩
theorem ok_cp {mm m' : Mem} {y0 y1 : Nat} {M : WM} (h : OK mm y1 M) (h0 : Ob y0 2) (hc : ∀ c, c ≤ 10 → ∀ s, s < lo c → m' (y0 + c) s = mm (y1 + c) s) : OK m' y0 M := ⟨h0, fun j hj => by
  have a := cof_sl j (oj_lt hj) hj
  rw [hc _ a.2 _ a.1]; exact h.2 j hj⟩
theorem z_copy {mm : Mem} {y0 y1 : Nat} {M : WM} (h : ZK mm y1 M) (h0 : Ob y0 5) (ha : apt y0 6 y1) : ∃ m', (∀ c, (c < y0 ∨ y0 + 6 < c) → m' c = mm c) ∧ ZK m' y0 M ∧ f5_copyFrom mm y0 y1 = some m' := by
  have a := ln5 y0 h0.1 h0.2
  have b := z_ln h
  have F0 : ∀ c, c ≠ y0 → up2 mm y0 0 (mm y1 0) c = mm c := fun c hc => by funext j; exact up2_c _ _ _ _ hc
  obtain ⟨m1, f1, g1, e1⟩ := row_cp (m := up2 mm y0 0 (mm y1 0)) (mm := mm) (i := 1) ha (by omega) b.1 a.1 (by omega) (fun c hc => F0 c (by omega))
  obtain ⟨m2, f2, g2, e2⟩ := row_cp (m := m1) (mm := mm) (i := 2) ha (by omega) b.2.1 a.2.1 (by omega) (fun c hc => by rw [f1 c (by omega), F0 c (by omega)])
  obtain ⟨m3, f3, g3, e3⟩ := row_cp (m := m2) (mm := mm) (i := 3) ha (by omega) b.2.2.1 a.2.2.1 (by omega) (fun c hc => by rw [f2 c (by omega), f1 c (by omega), F0 c (by omega)])
  obtain ⟨m4, f4, g4, e4⟩ := row_cp (m := m3) (mm := mm) (i := 4) ha (by omega) b.2.2.2.1 a.2.2.2.1 (by omega) (fun c hc => by rw [f3 c (by omega), f2 c (by omega), f1 c (by omega), F0 c (by omega)])
  obtain ⟨m5, f5, g5, e5⟩ := row_cp (m := m4) (mm := mm) (i := 5) ha (by omega) b.2.2.2.2.1 a.2.2.2.2.1 (by omega) (fun c hc => by rw [f4 c (by omega), f3 c (by omega), f2 c (by omega), f1 c (by omega), F0 c (by omega)])
  obtain ⟨m6, f6, g6, e6⟩ := row_cp (m := m5) (mm := mm) (i := 6) ha (by omega) b.2.2.2.2.2 a.2.2.2.2.2 (by omega) (fun c hc => by rw [f5 c (by omega), f4 c (by omega), f3 c (by omega), f2 c (by omega), f1 c (by omega), F0 c (by omega)])
  refine ⟨m6, fun c hc => by rw [f6 c (by omega), f5 c (by omega), f4 c (by omega), f3 c (by omega), f2 c (by omega), f1 c (by omega), F0 c (by omega)], zk_cp h h0 (fun c hc s hs => ?_), ?_⟩
  · match c, hc, hs with
    | 0, _, hs =>
      have : s = 0 := by unfold lz at hs; simp at hs; omega
      rw [this, f6 _ (by omega), f5 _ (by omega), f4 _ (by omega), f3 _ (by omega), f2 _ (by omega), f1 _ (by omega)]
      exact up2_at _ _ _ _
    | 1, _, hs => rw [f6 _ (by omega), f5 _ (by omega), f4 _ (by omega), f3 _ (by omega), f2 _ (by omega)]; exact g1 s hs
    | 2, _, hs => rw [f6 _ (by omega), f5 _ (by omega), f4 _ (by omega), f3 _ (by omega)]; exact g2 s hs
    | 3, _, hs => rw [f6 _ (by omega), f5 _ (by omega), f4 _ (by omega)]; exact g3 s hs
    | 4, _, hs => rw [f6 _ (by omega), f5 _ (by omega)]; exact g4 s hs
    | 5, _, hs => rw [f6 _ (by omega)]; exact g5 s hs
    | 6, _, hs => exact g6 s hs
    | n + 7, hn, _ => omega
  · unfold f5_copyFrom
    rw [nm_eq, e1, bd_some, e2, bd_some, e3, bd_some, e4, bd_some, e5, bd_some, e6, bd_some]
theorem o_copy {mm : Mem} {y0 y1 : Nat} {M : WM} (h : OK mm y1 M) (h0 : Ob y0 2) (ha : apt y0 10 y1) : ∃ m', (∀ c, (c < y0 ∨ y0 + 10 < c) → m' c = mm c) ∧ OK m' y0 M ∧ f2_copyFrom mm y0 y1 = some m' := by
  have a := ln2 y0 h0.1 h0.2
  have b := o_ln h
  have hne : y1 ≠ y0 := by unfold apt at ha; omega
  generalize hm0 : up2 (up2 mm y0 0 (mm y1 0)) y0 1 (up2 mm y0 0 (mm y1 0) y1 1) = m0
  have F0 : ∀ c, c ≠ y0 → m0 c = mm c := fun c hc => by
    rw [← hm0]; funext j; rw [up2_c _ _ _ _ hc, up2_c _ _ _ _ hc]
  obtain ⟨m1, f1, g1, e1⟩ := row_cp (m := m0) (mm := mm) (i := 1) ha (by omega) b.1 a.1 (by omega) (fun c hc => F0 c (by omega))
  obtain ⟨m2, f2, g2, e2⟩ := row_cp (m := m1) (mm := mm) (i := 2) ha (by omega) b.2.1 a.2.1 (by omega) (fun c hc => by rw [f1 c (by omega), F0 c (by omega)])
  obtain ⟨m3, f3, g3, e3⟩ := row_cp (m := m2) (mm := mm) (i := 3) ha (by omega) b.2.2.1 a.2.2.1 (by omega) (fun c hc => by rw [f2 c (by omega), f1 c (by omega), F0 c (by omega)])
  obtain ⟨m4, f4, g4, e4⟩ := row_cp (m := m3) (mm := mm) (i := 4) ha (by omega) b.2.2.2.1 a.2.2.2.1 (by omega) (fun c hc => by rw [f3 c (by omega), f2 c (by omega), f1 c (by omega), F0 c (by omega)])
  obtain ⟨m5, f5, g5, e5⟩ := row_cp (m := m4) (mm := mm) (i := 5) ha (by omega) b.2.2.2.2.1 a.2.2.2.2.1 (by omega) (fun c hc => by rw [f4 c (by omega), f3 c (by omega), f2 c (by omega), f1 c (by omega), F0 c (by omega)])
  obtain ⟨m6, f6, g6, e6⟩ := row_cp (m := m5) (mm := mm) (i := 6) ha (by omega) b.2.2.2.2.2.1 a.2.2.2.2.2.1 (by omega) (fun c hc => by rw [f5 c (by omega), f4 c (by omega), f3 c (by omega), f2 c (by omega), f1 c (by omega), F0 c (by omega)])
  obtain ⟨m7, f7, g7, e7⟩ := row_cp (m := m6) (mm := mm) (i := 7) ha (by omega) b.2.2.2.2.2.2.1 a.2.2.2.2.2.2.1 (by omega) (fun c hc => by rw [f6 c (by omega), f5 c (by omega), f4 c (by omega), f3 c (by omega), f2 c (by omega), f1 c (by omega), F0 c (by omega)])
  obtain ⟨m8, f8, g8, e8⟩ := row_cp (m := m7) (mm := mm) (i := 8) ha (by omega) b.2.2.2.2.2.2.2.1 a.2.2.2.2.2.2.2.1 (by omega) (fun c hc => by rw [f7 c (by omega), f6 c (by omega), f5 c (by omega), f4 c (by omega), f3 c (by omega), f2 c (by omega), f1 c (by omega), F0 c (by omega)])
  obtain ⟨m9, f9, g9, e9⟩ := row_cp (m := m8) (mm := mm) (i := 9) ha (by omega) b.2.2.2.2.2.2.2.2.1 a.2.2.2.2.2.2.2.2.1 (by omega) (fun c hc => by rw [f8 c (by omega), f7 c (by omega), f6 c (by omega), f5 c (by omega), f4 c (by omega), f3 c (by omega), f2 c (by omega), f1 c (by omega), F0 c (by omega)])
  obtain ⟨m10, f10, g10, e10⟩ := row_cp (m := m9) (mm := mm) (i := 10) ha (by omega) b.2.2.2.2.2.2.2.2.2 a.2.2.2.2.2.2.2.2.2 (by omega) (fun c hc => by rw [f9 c (by omega), f8 c (by omega), f7 c (by omega), f6 c (by omega), f5 c (by omega), f4 c (by omega), f3 c (by omega), f2 c (by omega), f1 c (by omega), F0 c (by omega)])
  refine ⟨m10, fun c hc => by rw [f10 c (by omega), f9 c (by omega), f8 c (by omega), f7 c (by omega), f6 c (by omega), f5 c (by omega), f4 c (by omega), f3 c (by omega), f2 c (by omega), f1 c (by omega), F0 c (by omega)], ok_cp h h0 (fun c hc s hs => ?_), ?_⟩
  · match c, hc, hs with
    | 0, _, hs =>
      have hs : s < 2 := hs
      have e : m10 (y0 + 0) = m0 y0 := by rw [f10 _ (by omega), f9 _ (by omega), f8 _ (by omega), f7 _ (by omega), f6 _ (by omega), f5 _ (by omega), f4 _ (by omega), f3 _ (by omega), f2 _ (by omega), f1 _ (by omega)]; rfl
      rw [e, ← hm0]
      by_cases e1 : s = 0
      · rw [e1, up2_k _ _ _ _ (by omega), up2_at]; rfl
      · have e2 : s = 1 := by omega
        rw [e2, up2_at, up2_c _ _ _ _ hne]; rfl
    | 1, _, hs => rw [f10 _ (by omega), f9 _ (by omega), f8 _ (by omega), f7 _ (by omega), f6 _ (by omega), f5 _ (by omega), f4 _ (by omega), f3 _ (by omega), f2 _ (by omega)]; exact g1 s hs
    | 2, _, hs => rw [f10 _ (by omega), f9 _ (by omega), f8 _ (by omega), f7 _ (by omega), f6 _ (by omega), f5 _ (by omega), f4 _ (by omega), f3 _ (by omega)]; exact g2 s hs
    | 3, _, hs => rw [f10 _ (by omega), f9 _ (by omega), f8 _ (by omega), f7 _ (by omega), f6 _ (by omega), f5 _ (by omega), f4 _ (by omega)]; exact g3 s hs
    | 4, _, hs => rw [f10 _ (by omega), f9 _ (by omega), f8 _ (by omega), f7 _ (by omega), f6 _ (by omega), f5 _ (by omega)]; exact g4 s hs
    | 5, _, hs => rw [f10 _ (by omega), f9 _ (by omega), f8 _ (by omega), f7 _ (by omega), f6 _ (by omega)]; exact g5 s hs
    | 6, _, hs => rw [f10 _ (by omega), f9 _ (by omega), f8 _ (by omega), f7 _ (by omega)]; exact g6 s hs
    | 7, _, hs => rw [f10 _ (by omega), f9 _ (by omega), f8 _ (by omega)]; exact g7 s hs
    | 8, _, hs => rw [f10 _ (by omega), f9 _ (by omega)]; exact g8 s hs
    | 9, _, hs => rw [f10 _ (by omega)]; exact g9 s hs
    | 10, _, hs => exact g10 s hs
    | n + 11, hn, _ => omega
  · unfold f2_copyFrom
    rw [nm_eq, nm_eq, hm0, e1, bd_some, e2, bd_some, e3, bd_some, e4, bd_some, e5, bd_some, e6, bd_some, e7, bd_some, e8, bd_some, e9, bd_some, e10, bd_some]
theorem m_copy {mm : Mem} {q0 q1 : Nat} {M : WM} (h : MK mm q1 M) (h0 : Ob (q0 + 1) 5) (h1 : Ob (q0 + 8) 2) (ha : apt q0 18 q1) : ∃ m', (∀ c, (c < q0 + 1 ∨ q0 + 18 < c) → m' c = mm c) ∧ MK m' q0 M ∧ f1_copyFrom mm q0 q1 = some m' := by
  unfold apt at ha
  obtain ⟨m1, f1, g1, e1⟩ := z_copy h.1 h0 (by unfold apt; omega)
  have ho : OK m1 (q1 + 8) M := ok_fr h.2 (fun c hc => f1 _ (by omega))
  obtain ⟨m2, f2, g2, e2⟩ := o_copy ho h1 (by unfold apt; omega)
  refine ⟨m2, fun c hc => by rw [f2 c (by omega), f1 c (by omega)], ⟨zk_fr g1 (fun c hc => f2 _ (by omega)), g2⟩, ?_⟩
  unfold f1_copyFrom
  rw [e1, bd_some, e2, bd_some]
theorem MK.fr {mm m' : Mem} {q : Nat} {M : WM} (h : MK mm q M) (hf : ∀ c, q < c → c ≤ q + 18 → m' c = mm c) : MK m' q M := ⟨zk_fr h.1 (fun c hc => hf _ (by omega) (by omega)), ok_fr h.2 (fun c hc => hf _ (by omega) (by omega))⟩
