/-! what is told: a market in one row of 235 numbers, as the reference lays it -/
abbrev WM : Type := Nat → Int
def up (M : WM) (j : Nat) (v : Int) : WM := fun i => if i = j then v else M i
theorem up_eq (M : WM) (j : Nat) (v : Int) : up M j v j = v := by simp [up]
theorem up_ne (M : WM) {i j : Nat} (v : Int) (h : i ≠ j) : up M j v i = M i := by simp [up, h]
def npt (M : WM) (z : Nat) : Nat := (M (10 + 12 * z)).toNat
def pu (M : WM) (z k : Nat) : Int := M (11 + 12 * z + 2 * k)
def pp (M : WM) (z k : Nat) : Int := M (12 + 12 * z + 2 * k)
def wan (M : WM) (z : Nat) : Int := if npt M z = 0 then 0 else pu M z (npt M z - 1)
def ffl (t : Nat → Prop) [DecidablePred t] : Nat → Nat → Nat
  | 0, k => k
  | d + 1, k => if t k then k else ffl t d (k + 1)
theorem ffl_le (t : Nat → Prop) [DecidablePred t] (d k : Nat) : k ≤ ffl t d k ∧ ffl t d k ≤ k + d := by
  induction d generalizing k with
  | zero => exact ⟨Nat.le_refl _, Nat.le_refl _⟩
  | succ d ih =>
    unfold ffl
    by_cases h : t k
    · rw [if_pos h]; omega
    · rw [if_neg h]
      have := ih (k + 1)
      omega
theorem ffl_before (t : Nat → Prop) [DecidablePred t] (d k i : Nat) (h1 : k ≤ i) (h2 : i < ffl t d k) : ¬ t i := by
  induction d generalizing k with
  | zero => unfold ffl at h2; omega
  | succ d ih =>
    unfold ffl at h2
    by_cases h : t k
    · rw [if_pos h] at h2; omega
    · rw [if_neg h] at h2
      by_cases e : i = k
      · rw [e]; exact h
      · exact ih (k + 1) (by omega) h2
theorem ffl_at (t : Nat → Prop) [DecidablePred t] (d k : Nat) (h2 : ffl t d k < k + d) : t (ffl t d k) := by
  induction d generalizing k with
  | zero => unfold ffl at h2; omega
  | succ d ih =>
    unfold ffl at h2 ⊢
    by_cases h : t k
    · rw [if_pos h] at h2 ⊢; exact h
    · rw [if_neg h] at h2 ⊢
      exact ih (k + 1) (by omega)
def fk (M : WM) (z : Nat) (u : Int) : Nat := ffl (fun k => u ≤ pu M z k) (npt M z) 0
def gk (M : WM) (z : Nat) (p : Int) : Nat := ffl (fun k => pp M z k < p) (npt M z) 0
def seg (M : WM) (z k : Nat) (u : Int) : Int := if k = 0 then pp M z 0 else pp M z (k - 1) - (pp M z (k - 1) - pp M z k) * (u - pu M z (k - 1)) / (pu M z k - pu M z (k - 1))
def wor (M : WM) (z : Nat) (u : Int) : Int := if fk M z u = npt M z then -1 else if u < 1 then -1 else seg M z (fk M z u) u
def wsg (M : WM) (z k : Nat) (p : Int) : Int := pu M z (k - 1) + ((pp M z (k - 1) - p + 1) * (pu M z k - pu M z (k - 1)) - 1) / (pp M z (k - 1) - pp M z k)
def Wt (M : WM) (z : Nat) (p : Int) : Int := if gk M z p = npt M z then wan M z else if gk M z p = 0 then 0 else wsg M z (gk M z p) p
def stp (M : WM) (r : Nat) : Nat := (M (85 + 13 * r)).toNat
def su (M : WM) (r k : Nat) : Int := M (86 + 13 * r + 2 * k)
def sp (M : WM) (r k : Nat) : Int := M (87 + 13 * r + 2 * k)
def rest (M : WM) (r : Nat) : Int := M (80 + 13 * r) - sm (stp M r) (su M r)
def lu (M : WM) (r k : Nat) : Int := if k = 3 then (if M (83 + 13 * r) = 1 then rest M r else 0) else if k < stp M r then su M r k else 0
def lif (M : WM) (r k : Nat) (fl : Int) : Int := if M (84 + 13 * r) = 0 then max (sp M r k) fl else sp M r k
def li (M : WM) (r k : Nat) (fl : Int) : Int := if k = 3 then 0 else if M (83 + 13 * r) = 1 then min (lif M r k fl) (M 2) else lif M r k fl
def flr (M : WM) (r : Nat) : Int := M (3 + (M (81 + 13 * r)).toNat)
def ZW (M : WM) (z : Nat) : Prop := (1 ≤ z → 0 ≤ M (7 + 12 * z) ∧ M (7 + 12 * z) < z) ∧ (0 ≤ M (8 + 12 * z) ∧ M (8 + 12 * z) ≤ 9999) ∧ (0 ≤ M (9 + 12 * z) ∧ M (9 + 12 * z) ≤ 9999) ∧ (0 ≤ M (10 + 12 * z) ∧ M (10 + 12 * z) ≤ 4) ∧ (∀ k, k < npt M z → 1 ≤ pu M z k ∧ pu M z k ≤ 2000 ∧ 0 ≤ pp M z k ∧ pp M z k ≤ 9999) ∧ (∀ k, k + 1 < npt M z → pu M z k < pu M z (k + 1) ∧ pp M z (k + 1) ≤ pp M z k)
def RW (M : WM) (r : Nat) : Prop := (0 ≤ M (79 + 13 * r) ∧ M (79 + 13 * r) < M 0) ∧ (1 ≤ M (80 + 13 * r) ∧ M (80 + 13 * r) ≤ 500) ∧ (0 ≤ M (81 + 13 * r) ∧ M (81 + 13 * r) ≤ 3) ∧ (0 ≤ M (82 + 13 * r) ∧ M (82 + 13 * r) ≤ 5) ∧ (0 ≤ M (83 + 13 * r) ∧ M (83 + 13 * r) ≤ 1) ∧ (0 ≤ M (84 + 13 * r) ∧ M (84 + 13 * r) ≤ 1) ∧ (0 ≤ M (85 + 13 * r) ∧ M (85 + 13 * r) ≤ 3) ∧ (∀ k, k < stp M r → 1 ≤ su M r k ∧ su M r k ≤ 500 ∧ 0 ≤ sp M r k ∧ sp M r k ≤ 9999)
def WW (M : WM) : Prop := (∀ j, -2147483648 ≤ M j ∧ M j < 2147483648) ∧ (1 ≤ M 0 ∧ M 0 ≤ 6) ∧ (0 ≤ M 1 ∧ M 1 ≤ 12) ∧ (0 ≤ M 2 ∧ M 2 ≤ 9999) ∧ (∀ k, k < 4 → 0 ≤ M (3 + k) ∧ M (3 + k) ≤ 9999) ∧ M 7 = -1 ∧ (∀ z : Nat, z < M 0 → ZW M z) ∧ (∀ r : Nat, r < M 1 → RW M r)
def WF (M : WM) : Prop := WW M ∧ ∀ r : Nat, r < M 1 → 0 ≤ rest M r
theorem WW.rg {M : WM} (h : WW M) (j : Nat) : -2147483648 ≤ M j ∧ M j < 2147483648 := h.1 j
theorem WW.zn {M : WM} (h : WW M) : 1 ≤ M 0 ∧ M 0 ≤ 6 := h.2.1
theorem WW.rn {M : WM} (h : WW M) : 0 ≤ M 1 ∧ M 1 ≤ 12 := h.2.2.1
theorem WW.ce {M : WM} (h : WW M) : 0 ≤ M 2 ∧ M 2 ≤ 9999 := h.2.2.2.1
theorem WW.fl {M : WM} (h : WW M) {k : Nat} (hk : k < 4) : 0 ≤ M (3 + k) ∧ M (3 + k) ≤ 9999 := h.2.2.2.2.1 k hk
theorem WW.o0 {M : WM} (h : WW M) : M 7 = -1 := h.2.2.2.2.2.1
theorem WW.z {M : WM} (h : WW M) {z : Nat} (hz : z < M 0) : ZW M z := h.2.2.2.2.2.2.1 z hz
theorem WW.r {M : WM} (h : WW M) {r : Nat} (hr : r < M 1) : RW M r := h.2.2.2.2.2.2.2 r hr
theorem npt_le {M : WM} {z : Nat} (h : ZW M z) : npt M z ≤ 4 := by
  have := h.2.2.2.1
  unfold npt
  omega
theorem stp_le {M : WM} {r : Nat} (h : RW M r) : stp M r ≤ 3 := by
  have := h.2.2.2.2.2.2.1
  unfold stp
  omega
theorem ZW.pt {M : WM} {z k : Nat} (h : ZW M z) (hk : k < npt M z) : 1 ≤ pu M z k ∧ pu M z k ≤ 2000 ∧ 0 ≤ pp M z k ∧ pp M z k ≤ 9999 := h.2.2.2.2.1 k hk
theorem ZW.nx {M : WM} {z k : Nat} (h : ZW M z) (hk : k + 1 < npt M z) : pu M z k < pu M z (k + 1) ∧ pp M z (k + 1) ≤ pp M z k := h.2.2.2.2.2 k hk
theorem ZW.mono {M : WM} {z : Nat} (h : ZW M z) {i j : Nat} (hij : i ≤ j) (hj : j < npt M z) : pu M z i ≤ pu M z j ∧ pp M z j ≤ pp M z i := by
  induction j with
  | zero =>
    have : i = 0 := by omega
    subst this
    exact ⟨Int.le_refl _, Int.le_refl _⟩
  | succ j ih =>
    by_cases e : i = j + 1
    · subst e; exact ⟨Int.le_refl _, Int.le_refl _⟩
    · have a := ih (by omega) (by omega)
      have b := h.nx hj
      omega
theorem wan_le {M : WM} {z : Nat} (h : ZW M z) : 0 ≤ wan M z ∧ wan M z ≤ 2000 := by
  unfold wan
  by_cases e : npt M z = 0
  · rw [if_pos e]; omega
  · rw [if_neg e]
    have := h.pt (k := npt M z - 1) (by omega)
    omega
/-! worth falls; W counts -/
theorem fk_lt {M : WM} {z : Nat} (h : ZW M z) {u : Int} (hu : u ≤ wan M z) (h1 : 1 ≤ u) : fk M z u < npt M z := by
  have hn : npt M z ≠ 0 := by
    intro e
    unfold wan at hu
    rw [if_pos e] at hu
    omega
  have hle := ffl_le (fun k => u ≤ pu M z k) (npt M z) 0
  by_cases e : fk M z u < npt M z
  · exact e
  · exfalso
    have := ffl_before (fun k => u ≤ pu M z k) (npt M z) 0 (npt M z - 1) (by omega) (by unfold fk at e; omega)
    unfold wan at hu
    rw [if_neg hn] at hu
    exact this hu
theorem fk_at {M : WM} {z : Nat} {u : Int} (h : fk M z u < npt M z) : u ≤ pu M z (fk M z u) := by
  unfold fk at h ⊢
  exact ffl_at (fun k => u ≤ pu M z k) (npt M z) 0 (by omega)
theorem fk_before {M : WM} {z : Nat} {u : Int} {i : Nat} (h : i < fk M z u) : pu M z i < u := by
  have := ffl_before (fun k => u ≤ pu M z k) (npt M z) 0 i (by omega) h
  simpa using this
theorem gk_le (M : WM) (z : Nat) (p : Int) : gk M z p ≤ npt M z := by
  have := ffl_le (fun k => pp M z k < p) (npt M z) 0
  unfold gk
  omega
theorem gk_at {M : WM} {z : Nat} {p : Int} (h : gk M z p < npt M z) : pp M z (gk M z p) < p := by
  unfold gk at h ⊢
  exact ffl_at (fun k => pp M z k < p) (npt M z) 0 (by omega)
theorem gk_before {M : WM} {z : Nat} {p : Int} {i : Nat} (h : i < gk M z p) : p ≤ pp M z i := by
  have := ffl_before (fun k => pp M z k < p) (npt M z) 0 i (by omega) h
  simpa using this
theorem seg_bd {M : WM} {z : Nat} (h : ZW M z) {k : Nat} (hk : k < npt M z) {u : Int} (h1 : 0 < k → pu M z (k - 1) ≤ u) (h2 : u ≤ pu M z k) : pp M z k ≤ seg M z k u ∧ (0 < k → seg M z k u ≤ pp M z (k - 1)) := by
  unfold seg
  by_cases e : k = 0
  · subst e
    rw [if_pos rfl]
    omega
  · rw [if_neg e]
    obtain ⟨j, rfl⟩ : ∃ j, k = j + 1 := ⟨k - 1, by omega⟩
    have a := h.nx hk
    have b := h1 (by omega)
    simp only [Nat.add_sub_cancel] at b ⊢
    generalize pp M z j = v at *
    generalize pp M z (j + 1) = w at *
    generalize pu M z j = x at *
    generalize pu M z (j + 1) = y at *
    have c0 : 0 ≤ (v - w) * (u - x) := Int.mul_nonneg (by omega) (by omega)
    have c1 : (v - w) * (u - x) ≤ (v - w) * (y - x) := Int.mul_le_mul_of_nonneg_left (by omega) (by omega)
    have d0 : 0 ≤ (v - w) * (u - x) / (y - x) := Int.ediv_nonneg c0 (by omega)
    have d1 : (v - w) * (u - x) / (y - x) ≤ v - w := by
      apply Int.le_of_lt_add_one
      rw [Int.ediv_lt_iff_lt_mul (by omega)]
      rw [Int.add_mul]
      omega
    omega
theorem wsg_bd {M : WM} {z : Nat} (h : ZW M z) {k : Nat} (hk : k + 1 < npt M z) {p : Int} (h1 : p ≤ pp M z k) (h2 : pp M z (k + 1) < p) : pu M z k ≤ wsg M z (k + 1) p ∧ wsg M z (k + 1) p < pu M z (k + 1) ∧ (∀ u, pu M z k < u → u ≤ pu M z (k + 1) → (p ≤ seg M z (k + 1) u ↔ u ≤ wsg M z (k + 1) p)) := by
  unfold wsg seg
  simp only [Nat.add_sub_cancel, Nat.add_eq_zero_iff, Nat.succ_ne_zero, and_false, if_false]
  have a := h.nx hk
  generalize pp M z k = v at *
  generalize pp M z (k + 1) = w at *
  generalize pu M z k = x at *
  generalize pu M z (k + 1) = y at *
  have c0 : 1 ≤ (v - p + 1) * (y - x) := by
    have := Int.mul_le_mul (a := 1) (c := v - p + 1) (b := 1) (d := y - x) (by omega) (by omega) (by omega) (by omega)
    omega
  have d0 : 0 ≤ ((v - p + 1) * (y - x) - 1) / (v - w) := Int.ediv_nonneg (by omega) (by omega)
  have c1 : (v - p + 1) * (y - x) ≤ (v - w) * (y - x) := Int.mul_le_mul_of_nonneg_right (by omega) (by omega)
  have d1 : ((v - p + 1) * (y - x) - 1) / (v - w) < y - x := by
    rw [Int.ediv_lt_iff_lt_mul (by omega), Int.mul_comm (y - x)]
    omega
  refine ⟨by omega, by omega, fun u hu1 hu2 => ?_⟩
  have e1 : p ≤ v - (v - w) * (u - x) / (y - x) ↔ (v - w) * (u - x) / (y - x) < v - p + 1 := by omega
  rw [e1, Int.ediv_lt_iff_lt_mul (by omega)]
  have e2 : u ≤ x + ((v - p + 1) * (y - x) - 1) / (v - w) ↔ u - x ≤ ((v - p + 1) * (y - x) - 1) / (v - w) := by omega
  rw [e2, Int.le_ediv_iff_mul_le (by omega), Int.mul_comm (u - x)]
  omega
theorem Wt_bd {M : WM} {z : Nat} (h : ZW M z) (p : Int) : 0 ≤ Wt M z p ∧ Wt M z p ≤ wan M z ∧ Wt M z p ≤ 2000 := by
  have hw := wan_le h
  unfold Wt
  by_cases e : gk M z p = npt M z
  · rw [if_pos e]; omega
  · rw [if_neg e]
    have hg := gk_le M z p
    by_cases e0 : gk M z p = 0
    · rw [if_pos e0]; omega
    · rw [if_neg e0]
      have hb := gk_before (M := M) (z := z) (p := p) (i := gk M z p - 1) (by omega)
      have ha := gk_at (M := M) (z := z) (p := p) (by omega)
      obtain ⟨j, hj⟩ : ∃ j, gk M z p = j + 1 := ⟨gk M z p - 1, by omega⟩
      rw [hj] at ha hb ⊢
      simp only [Nat.add_sub_cancel] at hb
      have hs := wsg_bd h (k := j) (by omega) hb ha
      have h0 := h.pt (k := j) (by omega)
      have h1 := h.mono (i := j + 1) (j := npt M z - 1) (by omega) (by omega)
      have h2 : wan M z = pu M z (npt M z - 1) := by unfold wan; rw [if_neg (by omega)]
      omega
theorem Wt_iff {M : WM} {z : Nat} (h : ZW M z) {u : Int} (p : Int) (h1 : 1 ≤ u) (h2 : u ≤ wan M z) : p ≤ wor M z u ↔ u ≤ Wt M z p := by
  have hk := fk_lt h h2 h1
  have hka := fk_at hk
  have hkb := fun i (hi : i < fk M z u) => fk_before hi
  unfold wor
  rw [if_neg (by omega), if_neg (by omega)]
  generalize fk M z u = k at *
  have hsb := seg_bd h hk (u := u) (fun h0 => by have := hkb (k - 1) (by omega); omega) hka
  unfold Wt
  by_cases e : gk M z p = npt M z
  · rw [if_pos e]
    have := gk_before (M := M) (z := z) (p := p) (i := k) (by omega)
    omega
  · rw [if_neg e]
    have hg := gk_le M z p
    have ha := gk_at (M := M) (z := z) (p := p) (by omega)
    by_cases e0 : gk M z p = 0
    · rw [if_pos e0]
      rw [e0] at ha
      have hx : seg M z k u ≤ pp M z 0 := by
        by_cases ek : k = 0
        · subst ek; unfold seg; rw [if_pos rfl]; omega
        · have := hsb.2 (by omega)
          have := (h.mono (i := 0) (j := k - 1) (by omega) (by omega)).2
          omega
      omega
    · rw [if_neg e0]
      have hb := gk_before (M := M) (z := z) (p := p) (i := gk M z p - 1) (by omega)
      obtain ⟨j, hj⟩ : ∃ j, gk M z p = j + 1 := ⟨gk M z p - 1, by omega⟩
      rw [hj] at ha hb ⊢
      simp only [Nat.add_sub_cancel] at hb
      have hs := wsg_bd h (k := j) (by omega) hb ha
      by_cases c1 : k = j + 1
      · subst c1
        exact hs.2.2 u (hkb j (by omega)) hka
      · by_cases c2 : k < j + 1
        · have m1 := (h.mono (i := k) (j := j) (by omega) (by omega))
          constructor
          · intro _; omega
          · intro _
            have := gk_before (M := M) (z := z) (p := p) (i := k) (by omega)
            omega
        · have m1 := hkb (j + 1) (by omega)
          have m2 := (h.mono (i := j + 1) (j := k - 1) (by omega) (by omega)).2
          have m3 := hsb.2 (by omega)
          constructor
          · intro _; omega
          · intro _; omega
theorem Wt_mono {M : WM} {z : Nat} (h : ZW M z) {p q : Int} (hpq : p ≤ q) : Wt M z q ≤ Wt M z p := by
  have h1 := Wt_bd h p
  have h2 := Wt_bd h q
  by_cases e : Wt M z q = 0
  · omega
  · have h3 := (Wt_iff h (u := Wt M z q) q (by omega) (by omega)).mpr (Int.le_refl _)
    exact (Wt_iff h (u := Wt M z q) p (by omega) (by omega)).mp (by omega)
theorem wor_bd {M : WM} {z : Nat} (h : ZW M z) {u : Int} (h1 : 1 ≤ u) (h2 : u ≤ wan M z) : 0 ≤ wor M z u ∧ wor M z u ≤ pp M z 0 := by
  have hk := fk_lt h h2 h1
  have hka := fk_at hk
  have hkb := fun i (hi : i < fk M z u) => fk_before hi
  unfold wor
  rw [if_neg (by omega), if_neg (by omega)]
  generalize fk M z u = k at *
  have hsb := seg_bd h hk (u := u) (fun h0 => by have := hkb (k - 1) (by omega); omega) hka
  have hp := h.pt hk
  refine ⟨by omega, ?_⟩
  by_cases ek : k = 0
  · subst ek; unfold seg; rw [if_pos rfl]; omega
  · have := hsb.2 (by omega)
    have := (h.mono (i := 0) (j := k - 1) (by omega) (by omega)).2
    omega
def fpr (M : WM) (z : Nat) : Int := if npt M z = 0 then 0 else pp M z 0
theorem Wt_top {M : WM} {z : Nat} (h : ZW M z) {p : Int} (hp : fpr M z < p) : Wt M z p = 0 := by
  have h1 := Wt_bd h p
  by_cases e : Wt M z p = 0
  · exact e
  · exfalso
    have h3 := (Wt_iff h (u := Wt M z p) p (by omega) (by omega)).mpr (Int.le_refl _)
    have h4 := wor_bd h (u := Wt M z p) (by omega) (by omega)
    unfold fpr at hp
    by_cases en : npt M z = 0
    · have : wan M z = 0 := by unfold wan; rw [if_pos en]
      omega
    · rw [if_neg en] at hp
      omega
