section
variable {M : WM} {g : Int32} {nf : Bool}
def lq (D : DT) (z i : Nat) : Int := la D z (Pz D z) (Nz D z - Lz D z (Pz D z)) i
theorem lq_0 (D : DT) (z : Nat) : lq D z 0 = Nz D z - Lz D z (Pz D z) := rfl
theorem lq_bd {D : DT} (h : WD D) {z : Nat} (hz : z < dn D) {i : Nat} (hi : i ≤ 4 * dm D) : 0 ≤ lq D z i ∧ lq D z i ≤ 200000 := by
  have a := PN_9 h hz
  have n := N_bd h hz
  have l := Lz_bd h hz (Pz D z)
  have b := la_bd h (y := z) (p := Pz D z) (a := Nz D z - Lz D z (Pz D z)) (by omega) hi
  unfold lq
  omega
theorem lq_s (D : DT) (z i : Nat) : lq D z (i + 1) = if dz D (i / 4) = z ∧ dU D i ≠ 0 ∧ dJ D i = Pz D z then lq D z i - min (lq D z i) (dU D i) else lq D z i := rfl
theorem lq_T {D : DT} (i : Nat) {z : Nat} (hz : dz D (i / 4) = z) : Tz D i = if dU D i = 0 then 0 else if dJ D i < Pz D z then dU D i else if dJ D i = Pz D z then min (lq D z i) (dU D i) else 0 := by
  unfold Tz lq
  rw [hz]
theorem lq_skip {z r : Nat} (hr : r < rn M) (h : (M (79 + 13 * r)).toNat ≠ z ∨ gb g r = true) : lq (Dg M g nf) z (4 * (r + 1)) = lq (Dg M g nf) z (4 * r) := by
  have e : ∀ k, k < 4 → lq (Dg M g nf) z (4 * r + k + 1) = lq (Dg M g nf) z (4 * r + k) := by
    intro k hk
    have e1 : (4 * r + k) / 4 = r := by omega
    rw [lq_s, e1, if_neg]
    intro x
    rcases h with h | h
    · exact h x.1
    · apply x.2.1
      show Ug M g (4 * r + k) = 0
      rw [Ug_at hr hk, if_pos h]
  have a0 := e 0 (by omega)
  have a1 := e 1 (by omega)
  have a2 := e 2 (by omega)
  have a3 := e 3 (by omega)
  rw [show 4 * (r + 1) = 4 * r + 3 + 1 by omega, a3, show 4 * r + 3 = 4 * r + 2 + 1 by omega, a2, show 4 * r + 2 = 4 * r + 1 + 1 by omega, a1]
  exact a0
def lbq (D : DT) (z c : Nat) : Int := lb D z (Pz D z) (lft D z (Pz D z) (Nz D z)) c
theorem lbq_bd {D : DT} (h : WD D) {z : Nat} (hz : z < dn D) {c : Nat} (hc : c ≤ dn D) : 0 ≤ lbq D z c ∧ lbq D z c ≤ 200000 := by
  have a := lq_bd h hz (i := 4 * dm D) (Nat.le_refl _)
  have b := lb_bd h (y := z) (p := Pz D z) (a := lft D z (Pz D z) (Nz D z)) (show 0 ≤ lq D z (4 * dm D) from a.1) hc
  have e : lft D z (Pz D z) (Nz D z) = lq D z (4 * dm D) := rfl
  unfold lbq
  omega
theorem lbq_s (D : DT) (z c : Nat) : lbq D z (c + 1) = if z < c ∧ dou D c = z then lbq D z c - min (lbq D z c) (room D c (Pz D z)) else lbq D z c := rfl
theorem lbq_up {D : DT} (z : Nat) {c : Nat} (hc : c ≤ z + 1) : lbq D z c = lq D z (4 * dm D) := by
  induction c with
  | zero => rfl
  | succ c ih => rw [lbq_s, if_neg (by omega)]; exact ih (by omega)
theorem lbq_N {D : DT} (h : WD D) {z c : Nat} (hc : c < dn D) (hzc : z < c ∧ dou D c = z) : Nz D c = cu D c (Lz D c (Pz D z)) + min (lbq D z c) (room D c (Pz D z)) := by
  have := (PN_s h (z := c) (by omega) hc).1
  rw [hzc.2] at this
  exact this
theorem lbq_S (D : DT) (z : Nat) : Sz D z = dW D z (Pz D z) - lbq D z (dn D) := rfl
def c30s (m : Mem) (M : WM) (D : DT) (z : Nat) : Prop := (∀ y, y < z → m 7 y = ii (Pz D y) ∧ m 9 y = ii (Sz D y)) ∧ (∀ y, y < dn D → (y = 0 ∨ dou D y < z) → m 8 y = ii (Nz D y)) ∧ (∀ i, i < 4 * dm D → m 10 i = if dz D (i / 4) < z then ii (Tz D i) else ii 0)
def RCL (m : Mem) (M : WM) (D : DT) : Prop := (∀ y, y < zn M → m 7 y = ii (Pz D y) ∧ m 8 y = ii (Nz D y) ∧ m 9 y = ii (Sz D y)) ∧ (∀ i, i < 4 * rn M → m 10 i = ii (Tz D i))
end
