/-! the reference's reads -/
section
variable {mm : Mem} {M : WM}
theorem bok_c {β : Type} (c : Prop) [Decidable c] (K : Option β) : bok (ii (if c then 1 else 0)) K = K := by
  by_cases h : c
  · rw [if_pos h]; exact bok_1 K
  · rw [if_neg h]; exact bok_0 K
end
