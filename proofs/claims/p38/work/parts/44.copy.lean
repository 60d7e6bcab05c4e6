/-! a market copied -/
def apt (y0 n y1 : Nat) : Prop := y1 + n < y0 ∨ y0 + n < y1
def lz (c : Nat) : Nat := if c = 0 then 1 else if c ≤ 4 then 6 else 24
def lo (c : Nat) : Nat := if c = 0 then 2 else if c = 1 then 4 else if c ≤ 8 then 12 else 36
theorem cz_sl : ∀ j, j < 79 → zj j = true → (cz j).2 < lz (cz j).1 ∧ (cz j).1 ≤ 6 := by decide +kernel
theorem cof_sl : ∀ j, j < 235 → oj j = true → (cof j).2 < lo (cof j).1 ∧ (cof j).1 ≤ 10 := by decide +kernel
theorem zk_cp {mm m' : Mem} {y0 y1 : Nat} {M : WM} (h : ZK mm y1 M) (h0 : Ob y0 5) (hc : ∀ c, c ≤ 6 → ∀ s, s < lz c → m' (y0 + c) s = mm (y1 + c) s) : ZK m' y0 M := ⟨h0, fun j hj => by
  have a := cz_sl j (zj_lt hj) hj
  rw [hc _ a.2 _ a.1]; exact h.2 j hj⟩
theorem ok_cp {mm m' : Mem} {y0 y1 : Nat} {M : WM} (h : OK mm y1 M) (h0 : Ob y0 2) (hc : ∀ c, c ≤ 10 → ∀ s, s < lo c → m' (y0 + c) s = mm (y1 + c) s) : OK m' y0 M := ⟨h0, fun j hj => by
  have a := cof_sl j (oj_lt hj) hj
  rw [hc _ a.2 _ a.1]; exact h.2 j hj⟩
theorem MK.fr {mm m' : Mem} {q : Nat} {M : WM} (h : MK mm q M) (hf : ∀ c, q < c → c ≤ q + 18 → m' c = mm c) : MK m' q M := ⟨zk_fr h.1 (fun c hc => hf _ (by omega) (by omega)), ok_fr h.2 (fun c hc => hf _ (by omega) (by omega))⟩
