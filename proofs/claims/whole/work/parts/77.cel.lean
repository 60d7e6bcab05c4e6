/-! the cells made are the memory's start -/
theorem rfk_b : ∀ c, c < 134 → ∀ k, k < 23 → (rfk (kd c) k c).all (fun q => decide (q < 134)) = true := by decide +kernel
theorem nfl_b : ∀ c, c < 134 → nfl (kd c) ≤ 23 := by decide +kernel
def CfS (n b pf : Nat) (ak av : Nat → Nat) (D : va_G) (cI cZ cJ : ClassId) : Cfg := (fun c => if c < 134 then n + sg c else if c = 3000 then pf else if c = 5000 then b else if c < 2000 then ak (c - 1000) else av (c - 2000), D, cI, cZ, cJ)
section
variable {n b pf : Nat} {ak av : Nat → Nat} {D : va_G} {cI cZ cJ : ClassId}
theorem CfS_c {c : Nat} (hc : c < 134) : (CfS n b pf ak av D cI cZ cJ).1 c = n + sg c := if_pos hc
theorem CfS_x : (∀ i, i < 9 → (CfS n b pf ak av D cI cZ cJ).1 (1000 + i) = ak i ∧ (CfS n b pf ak av D cI cZ cJ).1 (2000 + i) = av i) ∧ (CfS n b pf ak av D cI cZ cJ).1 3000 = pf ∧ (CfS n b pf ak av D cI cZ cJ).1 5000 = b := by
  refine ⟨fun i hi => ⟨?_, ?_⟩, rfl, rfl⟩
  · unfold CfS
    dsimp only
    rw [if_neg (by omega), if_neg (by omega), if_neg (by omega), if_pos (by omega), Nat.add_sub_cancel_left]
  · unfold CfS
    dsimp only
    rw [if_neg (by omega), if_neg (by omega), if_neg (by omega), if_neg (by omega), Nat.add_sub_cancel_left]
theorem CfS_j : Dj (CfS n b pf ak av D cI cZ cJ) := by
  intro i j hi hj e
  rw [CfS_c hi, CfS_c hj] at e
  unfold sg at e
  have hi : i < 134 := hi
  have hj : j < 134 := hj
  repeat' split at e
  all_goals omega
theorem cel_S {c : Nat} (hc : c < 134) : she n (relE cI cZ cJ c) = cel (CfS n b pf ak av D cI cZ cJ) mem0 c := by
  unfold cel celx relE
  by_cases h : kd c < 8
  · rw [if_pos h, if_pos h]
    show Sum.inr (kd c, _) = Sum.inr (kd c, _)
    congr 2
    unfold fl
    rw [List.map_map]
    refine List.map_congr_left (fun k hk => ?_)
    have hk : k < 23 := by
      have := nfl_b c hc
      have := List.mem_range.mp hk
      omega
    have q := rfk_b c hc k hk
    show shv n (match rfk (kd c) k c with | some q => .ref (sg q) | none => .int (mem0 c k)) = fvv _ _ _ _ _
    unfold fvv
    cases hr : rfk (kd c) k c with
    | none => rfl
    | some x =>
      rw [hr] at q
      have hx : x < 134 := by simpa using q
      show Value.ref (n + sg x) = Value.ref _
      rw [CfS_c hx]
  · rw [if_neg h, if_neg h]
    by_cases h8 : kd c = 8
    · rw [if_pos h8, if_pos h8]; rfl
    · rw [if_neg h8, if_neg h8]
      by_cases h9 : kd c = 9
      · rw [if_pos h9, if_pos h9]; rfl
      · rw [if_neg h9, if_neg h9]; rfl
theorem wl_S {H : Heap} (hP : va_P D zcls (wsn n (csF cI cZ cJ)) H) : va_P D zcls (wl (CfS n b pf ak av D cI cZ cJ) mem0) H := by
  intro k q hq
  unfold wl at hq
  rw [List.getElem?_map] at hq
  have hk : k < 134 := by
    by_cases h : k < 134
    · exact h
    · rw [List.getElem?_eq_none (by rw [List.length_range]; show 134 ≤ k; omega)] at hq
      cases hq
  rw [List.getElem?_range hk] at hq
  have e := (Option.some.inj hq).symm
  subst e
  have t := hP (sg k) _ (wsn_get (n := n) (rel_ok cI cZ cJ k hk))
  rw [cel_S (b := b) (pf := pf) (ak := ak) (av := av) (D := D) hk] at t
  show va_at D zcls ((CfS n b pf ak av D cI cZ cJ).1 k, _) H
  rw [CfS_c hk]
  exact t
end
