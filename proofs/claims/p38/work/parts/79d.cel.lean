/-! the cells of a new object are the memory's start -/
theorem rfk_b : ∀ c, c < 133 → ∀ k, k < 23 → (rfk (kd c) k c).all (fun q => decide (14 ≤ q)) = true := by decide +kernel
theorem nfl_b : ∀ c, c < 133 → nfl (kd c) ≤ 23 := by decide +kernel
theorem cel_S {K : KF} {N c : Nat} (hc : c < 133) : she (K.1 + N) (relE K.2.2.2.1 c) = cel (cfg K (N + 1)) mem0 c := by
  unfold cel celx relE
  by_cases h : kd c < 8
  · rw [if_pos h, if_pos h]
    show Sum.inr (kd c, _) = Sum.inr (kd c, _)
    congr 2
    unfold fl
    rw [List.map_map]
    refine List.map_congr_left (fun k hk => ?_)
    have hk : k < 23 := by
      have := nfl_b c hc
      have := List.mem_range.mp hk
      omega
    have q := rfk_b c hc k hk
    show shv (K.1 + N) (match rfk (kd c) k c with | some q => .ref (q - 14) | none => .int (mem0 c k)) = fvv _ _ _ _ _
    unfold fvv
    cases hr : rfk (kd c) k c with
    | none => rfl
    | some x =>
      show Value.ref (K.1 + N + (x - 14)) = Value.ref (K.1 + (N + 1 - 1) + (x - 14))
      rw [Nat.add_sub_cancel]
  · rw [if_neg h, if_neg h]
    rfl
theorem HZ_ok (K : KF) : HZ K := by
  intro N H hP k q hq
  unfold wl at hq
  rw [List.getElem?_map] at hq
  have hk : k < 119 := by
    by_cases h : k < 119
    · exact h
    · rw [List.getElem?_eq_none (by rw [List.length_range]; omega)] at hq
      cases hq
  rw [List.getElem?_range hk] at hq
  have e := (Option.some.inj hq).symm
  subst e
  have t := hP k _ (wsn_get (n := K.1 + N) (rel_ok K.2.2.2.1 K.2.2.2.2.1 K.2.2.2.2.2 k hk))
  rw [cel_S (by omega)] at t
  show va_at K.2.2.1 zcls (K.1 + (N + 1 - 1) + (k + 14 - 14), _) H
  rw [Nat.add_sub_cancel, Nat.add_sub_cancel]
  exact t
