/-! the reference clears -/
def Fr56 (mm m' : Mem) : Prop := ∀ c, c ≠ 5 → c ≠ 6 → m' c = mm c
section
variable {mm : Mem} {M : WM} {g : Int32} {nf : Bool}
theorem RC.fr (h : RC mm M g nf) {m' : Mem} (h0 : m' 0 = mm 0) (h1 : m' 1 = mm 1) : RC m' M g nf := ⟨rk_fr h.1 h1, by rw [h0]; exact h.2.1, by rw [h0]; exact h.2.2⟩
theorem Fr56.rf (mm : Mem) : Fr56 mm mm := fun _ _ _ => rfl
theorem Fr56.tr {a b c : Mem} (h : Fr56 a b) (h2 : Fr56 b c) : Fr56 a c := fun q h5 h6 => by rw [h2 q h5 h6, h q h5 h6]
theorem Fr56.u5 {a b : Mem} (h : Fr56 a b) (k : Nat) (v : Int32) : Fr56 a (up2 b 5 k v) := fun q h5 h6 => by
  funext j
  rw [up2_c _ _ _ _ h5, h q h5 h6]
theorem Fr56.u6 {a b : Mem} (h : Fr56 a b) (k : Nat) (v : Int32) : Fr56 a (up2 b 6 k v) := fun q h5 h6 => by
  funext j
  rw [up2_c _ _ _ _ h6, h q h5 h6]
theorem RC.f56 (h : RC mm M g nf) {m' : Mem} (hf : Fr56 mm m') : RC m' M g nf := h.fr (hf 0 (by omega) (by omega)) (hf 1 (by omega) (by omega))
def r56 (m : Mem) (D : DT) (p : Int) (y : Nat) : Prop := m 5 y = ii (Lz D y p) ∧ m 6 y = ii (Lz D y (p + 1))
theorem smi_0 {D : DT} (z : Nat) (p : Int) : sm (z + 1) (inn D z p) = 0 := sm_zero (fun i hi => by unfold inn; rw [if_neg (by omega)])
end
