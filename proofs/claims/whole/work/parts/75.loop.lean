/-! the law's loop, its start -/
def zlaw (L : Nat) (xs : Nat → Int32) : Nat → Nat → Mem → Option Int32
  | 0, _, _ => none
  | n + 1, j, mm => fL_law_l23 L xs (fun x4 m2 => if x4 = nI (6 * (j + 1)) ∧ 6 * (j + 1) ≤ L then zlaw L xs n (j + 1) m2 else none) (nI (6 * j)) mm
theorem zlaw_ok {L : Nat} {xs : Nat → Int32} (hL : L ≤ 3072) : ∀ (n j : Nat) (mm : Mem) (s : ST), CI mm s → RI mm s → SW s → 6 * j ≤ L → L < 6 * (j + n) → zlaw L xs n j mm = some 1 := by
  intro n
  induction n with
  | zero => intro j mm s _ _ _ h1 h2; omega
  | succ n ih =>
    intro j mm s h hr hs h1 h2
    show fL_law_l23 L xs _ (nI (6 * j)) mm = some 1
    by_cases c : L < 6 * j + 6
    · unfold fL_law_l23
      rw [ii_nI, ii_nI, l6, ii_sub, if_pos (ilt (by omega) (by omega) (by omega))]
    · have x : ∀ k : Nat, k < 6 → inb (ii ((6 * j : Nat) : Int) + ii k) L = true := fun k hk => by
        rw [ii_add]
        exact ii_inb (by omega) (by omega) (by omega)
      have x0 : inb (ii ((6 * j : Nat) : Int)) L = true := ii_inb (by omega) (by omega) (by omega)
      rw [ii_nI]
      refine lw_body h hr hs ⟨x0, ?_, ?_, ?_, ?_, ?_⟩ (fun m s' g1 g2 g3 => ?_)
      · rw [l1]; exact x 1 (by omega)
      · rw [l2]; exact x 2 (by omega)
      · rw [l3]; exact x 3 (by omega)
      · rw [l4]; exact x 4 (by omega)
      · rw [l5]; exact x 5 (by omega)
      · have e : ii ((6 * j : Nat) : Int) + 6 = nI (6 * (j + 1)) := by
          rw [l6, ii_add, ii_nI]
          exact congrArg ii (by omega)
        rw [if_pos ⟨e, by omega⟩]
        exact ih (j + 1) m s' g1 g2 g3 (by omega) (by omega)
def mem0 : Mem := fun c => match c with | 1 => upd (upd (upd (fun _ => 0) 0 1) 2 (9999)) 7 (-1) | 17 => (fun k => if k = 0 then 1 else 0) | 46 => (fun k => if k = 0 then 1 else 0) | 77 => (fun k => if k = 0 then 1 else 0) | 96 => (fun k => if k = 0 then 1 else 0) | 115 => (fun k => if k = 0 then 1 else 0) | 24 => (fun k => if k = 1 then 9999 else 0) | 53 => (fun k => if k = 1 then 9999 else 0) | 84 => (fun k => if k = 1 then 9999 else 0) | 103 => (fun k => if k = 1 then 9999 else 0) | 122 => (fun k => if k = 1 then 9999 else 0) | _ => fun _ => 0
def M0 : WM := fun j => if j = 0 then 1 else if j = 2 then 9999 else if j = 7 then -1 else 0
def ST0 : ST := (M0, M0, M0, false, false, fun _ => 0, 0, 0)
theorem M0_WF : WF M0 := by
  have e : ∀ j, j ≠ 0 → j ≠ 2 → j ≠ 7 → M0 j = 0 := fun j a b c => by
    unfold M0
    rw [if_neg a, if_neg b, if_neg c]
  have e0 : M0 0 = 1 := rfl
  have e1 : M0 1 = 0 := rfl
  have e2 : M0 2 = 9999 := rfl
  have e7 : M0 7 = -1 := rfl
  refine ⟨⟨fun j => ?_, by omega, by omega, by omega, fun k hk => ?_, e7, fun z hz => ?_, fun r hr => by omega⟩, fun r hr => by omega⟩
  · by_cases a : j = 0
    · rw [a]; omega
    · by_cases b : j = 2
      · rw [b]; omega
      · by_cases c : j = 7
        · rw [c]; omega
        · rw [e j a b c]; omega
  · rw [e _ (by omega) (by omega) (by omega)]; omega
  · have hz : z = 0 := by omega
    subst hz
    have np : npt M0 0 = 0 := rfl
    exact ⟨fun h => by omega, by rw [e _ (by omega) (by omega) (by omega)]; omega, by rw [e _ (by omega) (by omega) (by omega)]; omega, by rw [e _ (by omega) (by omega) (by omega)]; omega, fun k hk => by omega, fun k hk => by omega⟩
theorem m0_z : ∀ j, j < 79 → zj j = true → mem0 (17 + (cz j).1) (cz j).2 = ii (M0 j) := by decide +kernel
theorem m0_o : ∀ j, j < 235 → oj j = true → mem0 (24 + (cof j).1) (cof j).2 = ii (M0 j) := by decide +kernel
theorem m0_r : ∀ j, j < 235 → mem0 1 j = ii (M0 j) := by decide +kernel
theorem m0_CI : CI mem0 ST0 := by
  refine ⟨⟨⟨ob_17, fun j hj => m0_z j (zj_lt hj) hj⟩, ⟨ob_24, fun j hj => m0_o j (oj_lt hj) hj⟩⟩, ?_, ?_, ?_, ?_, ?_, ?_, ?_⟩
  · intro h; cases h
  · intro h; cases h
  · decide
  · decide
  · decide
  · intro i hi; exact absurd hi (by show ¬ i < 0; omega)
  · decide
theorem m0_RI : RI mem0 ST0 := by
  refine ⟨m0_r, ?_, ?_, ?_, ?_, ?_, ?_, ?_⟩
  · intro h; cases h
  · intro h; cases h
  · decide
  · decide
  · decide
  · intro i hi; exact absurd hi (by show ¬ i < 0; omega)
  · decide
theorem m0_SW : SW ST0 := by
  refine ⟨M0_WF, ?_, ?_, by show 0 ≤ 500; omega, ?_⟩
  · intro h; cases h
  · intro h; cases h
  · intro i hi; exact absurd hi (by show ¬ i < 0; omega)
theorem zlaw_0 {L : Nat} {xs : Nat → Int32} (hL : L ≤ 3072) : zlaw L xs 600 0 mem0 = some 1 := zlaw_ok hL 600 0 mem0 ST0 m0_CI m0_RI m0_SW (by omega) (by omega)
