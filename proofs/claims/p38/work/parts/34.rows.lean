/-! a market's cells: the class's rows, the reference's row -/
def cz (j : Nat) : Nat × Nat := if j = 0 then (0, 0) else if (j - 7) % 12 < 4 then (1 + (j - 7) % 12, (j - 7) / 12) else (5 + (j - 7) % 12 % 2, 4 * ((j - 7) / 12) + ((j - 7) % 12 - 4) / 2)
def czi (c s : Nat) : Nat := if c = 0 then 0 else if c ≤ 4 then 7 + 12 * s + (c - 1) else 11 + 12 * (s / 4) + 2 * (s % 4) + (c - 5)
def zj (j : Nat) : Bool := j == 0 || (decide (8 ≤ j) && decide (j < 79))
def cof (j : Nat) : Nat × Nat := if j = 1 then (0, 0) else if j = 2 then (0, 1) else if j < 7 then (1, j - 3) else if (j - 79) % 13 < 7 then (2 + (j - 79) % 13, (j - 79) / 13) else (9 + ((j - 79) % 13 + 1) % 2, 3 * ((j - 79) / 13) + ((j - 79) % 13 - 7) / 2)
def cofi (c s : Nat) : Nat := if c = 0 then 1 + s else if c = 1 then 3 + s else if c ≤ 8 then 79 + 13 * s + (c - 2) else 86 + 13 * (s / 3) + 2 * (s % 3) + (c - 9)
def oj (j : Nat) : Bool := (decide (1 ≤ j) && decide (j < 7)) || (decide (79 ≤ j) && decide (j < 235))
theorem czi_ok : ∀ j, j < 79 → zj j = true → czi (cz j).1 (cz j).2 = j ∧ (cz j).1 ≤ 6 := by decide +kernel
theorem cofi_ok : ∀ j, j < 235 → oj j = true → cofi (cof j).1 (cof j).2 = j ∧ (cof j).1 ≤ 10 := by decide +kernel
theorem zj_lt {j : Nat} (h : zj j = true) : j < 79 := by
  unfold zj at h
  simp at h
  omega
theorem oj_lt {j : Nat} (h : oj j = true) : j < 235 := by
  unfold oj at h
  simp at h
  omega
def ZK (mm : Mem) (y : Nat) (M : WM) : Prop := Ob y 5 ∧ ∀ j, zj j = true → mm (y + (cz j).1) (cz j).2 = ii (M j)
def OK (mm : Mem) (o : Nat) (M : WM) : Prop := Ob o 2 ∧ ∀ j, oj j = true → mm (o + (cof j).1) (cof j).2 = ii (M j)
def MK (mm : Mem) (q : Nat) (M : WM) : Prop := ZK mm (q + 1) M ∧ OK mm (q + 8) M
def RK (mm : Mem) (M : WM) : Prop := ∀ j, j < 235 → mm 1 j = ii (M j)
theorem ln5 : ∀ y, y < NC → kd y = 5 → ln (y + 1) = 6 ∧ ln (y + 2) = 6 ∧ ln (y + 3) = 6 ∧ ln (y + 4) = 6 ∧ ln (y + 5) = 24 ∧ ln (y + 6) = 24 := by decide +kernel
theorem ln2 : ∀ y, y < NC → kd y = 2 → ln (y + 1) = 4 ∧ ln (y + 2) = 12 ∧ ln (y + 3) = 12 ∧ ln (y + 4) = 12 ∧ ln (y + 5) = 12 ∧ ln (y + 6) = 12 ∧ ln (y + 7) = 12 ∧ ln (y + 8) = 12 ∧ ln (y + 9) = 36 ∧ ln (y + 10) = 36 := by decide +kernel
theorem ln0 : ∀ y, y < NC → kd y = 0 → ln (y + 20) = 6 ∧ ln (y + 21) = 6 ∧ ln (y + 22) = 6 ∧ ln (y + 23) = 48 ∧ ln (y + 24) = 48 ∧ ln (y + 25) = 48 ∧ ln (y + 26) = 6 ∧ ln (y + 27) = 6 ∧ ln (y + 28) = 6 := by decide +kernel
theorem cz_o : ∀ z, z < 6 → cz (7 + 12 * z) = (1, z) ∧ cz (8 + 12 * z) = (2, z) ∧ cz (9 + 12 * z) = (3, z) ∧ cz (10 + 12 * z) = (4, z) ∧ (1 ≤ z → zj (7 + 12 * z) = true) ∧ zj (8 + 12 * z) = true ∧ zj (9 + 12 * z) = true ∧ zj (10 + 12 * z) = true := by decide +kernel
theorem cz_p : ∀ z, z < 6 → ∀ k, k < 4 → cz (11 + 12 * z + 2 * k) = (5, 4 * z + k) ∧ cz (12 + 12 * z + 2 * k) = (6, 4 * z + k) ∧ zj (11 + 12 * z + 2 * k) = true ∧ zj (12 + 12 * z + 2 * k) = true := by decide +kernel
theorem cof_o : ∀ r, r < 12 → cof (79 + 13 * r) = (2, r) ∧ cof (80 + 13 * r) = (3, r) ∧ cof (81 + 13 * r) = (4, r) ∧ cof (82 + 13 * r) = (5, r) ∧ cof (83 + 13 * r) = (6, r) ∧ cof (84 + 13 * r) = (7, r) ∧ cof (85 + 13 * r) = (8, r) ∧ oj (79 + 13 * r) = true ∧ oj (80 + 13 * r) = true ∧ oj (81 + 13 * r) = true ∧ oj (82 + 13 * r) = true ∧ oj (83 + 13 * r) = true ∧ oj (84 + 13 * r) = true ∧ oj (85 + 13 * r) = true := by decide +kernel
theorem cof_p : ∀ r, r < 12 → ∀ k, k < 3 → cof (86 + 13 * r + 2 * k) = (9, 3 * r + k) ∧ cof (87 + 13 * r + 2 * k) = (10, 3 * r + k) ∧ oj (86 + 13 * r + 2 * k) = true ∧ oj (87 + 13 * r + 2 * k) = true := by decide +kernel
theorem cof_f : ∀ k, k < 4 → cof (3 + k) = (1, k) ∧ oj (3 + k) = true := by decide +kernel
section
variable {mm : Mem} {y o : Nat} {M : WM}
theorem ZK.n (h : ZK mm y M) : mm y 0 = ii (M 0) := h.2 0 rfl
theorem OK.n (h : OK mm o M) : mm o 0 = ii (M 1) := h.2 1 rfl
theorem OK.c (h : OK mm o M) : mm o 1 = ii (M 2) := h.2 2 rfl
theorem zk_g (h : ZK mm y M) {j c s : Nat} (hc : cz j = (c, s)) (hz : zj j = true) : mm (y + c) s = ii (M j) := by
  have := h.2 j hz
  rw [hc] at this
  exact this
theorem ok_g (h : OK mm o M) {j c s : Nat} (hc : cof j = (c, s)) (hz : oj j = true) : mm (o + c) s = ii (M j) := by
  have := h.2 j hz
  rw [hc] at this
  exact this
theorem zk_up (h : ZK mm y M) {j c s : Nat} (hc : cz j = (c, s)) (hz : zj j = true) (v : Int) : ZK (up2 mm (y + c) s (ii v)) y (up M j v) := by
  refine ⟨h.1, fun i hi => ?_⟩
  by_cases e : i = j
  · subst e
    rw [hc, up_eq, up2_at]
  · rw [up_ne M v e, ← h.2 i hi]
    have a := czi_ok i (zj_lt hi) hi
    have b := czi_ok j (zj_lt hz) hz
    rw [hc] at b
    unfold up2
    rw [if_neg]
    intro e1
    apply e
    have e2 : (cz i).1 = c := by omega
    rw [← a.1, ← b.1, e2, e1.2]
theorem ok_up (h : OK mm o M) {j c s : Nat} (hc : cof j = (c, s)) (hz : oj j = true) (v : Int) : OK (up2 mm (o + c) s (ii v)) o (up M j v) := by
  refine ⟨h.1, fun i hi => ?_⟩
  by_cases e : i = j
  · subst e
    rw [hc, up_eq, up2_at]
  · rw [up_ne M v e, ← h.2 i hi]
    have a := cofi_ok i (oj_lt hi) hi
    have b := cofi_ok j (oj_lt hz) hz
    rw [hc] at b
    unfold up2
    rw [if_neg]
    intro e1
    apply e
    have e2 : (cof i).1 = c := by omega
    rw [← a.1, ← b.1, e2, e1.2]
theorem zk_fr (h : ZK mm y M) {m' : Mem} (hf : ∀ c, c ≤ 6 → m' (y + c) = mm (y + c)) : ZK m' y M := ⟨h.1, fun j hj => by
  rw [hf _ (czi_ok j (zj_lt hj) hj).2]; exact h.2 j hj⟩
theorem ok_fr (h : OK mm o M) {m' : Mem} (hf : ∀ c, c ≤ 10 → m' (o + c) = mm (o + c)) : OK m' o M := ⟨h.1, fun j hj => by
  rw [hf _ (cofi_ok j (oj_lt hj) hj).2]; exact h.2 j hj⟩
theorem zk_M (h : ZK mm y M) {M' : WM} (he : ∀ j, zj j = true → M' j = M j) : ZK mm y M' := ⟨h.1, fun j hj => by rw [he j hj]; exact h.2 j hj⟩
theorem ok_M (h : OK mm o M) {M' : WM} (he : ∀ j, oj j = true → M' j = M j) : OK mm o M' := ⟨h.1, fun j hj => by rw [he j hj]; exact h.2 j hj⟩
theorem at_i (mm : Mem) {q k n : Nat} (hl : ln q = n) (hk : k < n) (hn : n < 2147483648) : f6_at mm q (ii k) = some (mm q k) := by
  unfold f6_at
  rw [l0, ii_nI, hl, if_neg, if_pos, rdc_ii (by omega) (by omega) (by omega), nm_eq, ii_tk k k rfl (by omega)]
  · rw [ii_lt (by omega) (by omega) (by omega) (by omega)]; omega
  · rw [ii_lt (by omega) (by omega) (by omega) (by omega)]; omega
theorem put_i (mm : Mem) {q k n : Nat} (hl : ln q = n) (hk : k < n) (hn : n < 2147483648) (v : Int32) : f6_put mm q (ii k) v = some (up2 mm q k v) := by
  unfold f6_put
  rw [l0, ii_nI, hl, if_neg, if_pos, rdc_ii (by omega) (by omega) (by omega), nm_eq, ii_tk k k rfl (by omega)]
  · rw [ii_lt (by omega) (by omega) (by omega) (by omega)]; omega
  · rw [ii_lt (by omega) (by omega) (by omega) (by omega)]; omega
theorem at_e (mm : Mem) {q k n : Nat} {i : Int} (hi : i = k) (hl : ln q = n) (hk : k < n) (hn : n < 2147483648) : f6_at mm q (ii i) = some (mm q k) := by
  subst hi
  exact at_i mm hl hk hn
theorem put_e (mm : Mem) {q k n : Nat} {i : Int} (hi : i = k) (hl : ln q = n) (hk : k < n) (hn : n < 2147483648) (v : Int32) : f6_put mm q (ii i) v = some (up2 mm q k v) := by
  subst hi
  exact put_i mm hl hk hn v
theorem z_ln (h : ZK mm y M) : ln (y + 1) = 6 ∧ ln (y + 2) = 6 ∧ ln (y + 3) = 6 ∧ ln (y + 4) = 6 ∧ ln (y + 5) = 24 ∧ ln (y + 6) = 24 := ln5 y h.1.1 h.1.2
theorem o_ln (h : OK mm o M) : ln (o + 1) = 4 ∧ ln (o + 2) = 12 ∧ ln (o + 3) = 12 ∧ ln (o + 4) = 12 ∧ ln (o + 5) = 12 ∧ ln (o + 6) = 12 ∧ ln (o + 7) = 12 ∧ ln (o + 8) = 12 ∧ ln (o + 9) = 36 ∧ ln (o + 10) = 36 := ln2 o h.1.1 h.1.2
theorem z_out (h : ZK mm y M) {z : Nat} (hz : z < 6) (h1 : 1 ≤ z) : f6_at mm (y + 1) (ii z) = some (ii (M (7 + 12 * z))) := by
  rw [at_i mm (z_ln h).1 hz (by omega), zk_g h (cz_o z hz).1 ((cz_o z hz).2.2.2.2.1 h1)]
theorem z_in (h : ZK mm y M) {z : Nat} (hz : z < 6) : f6_at mm (y + 2) (ii z) = some (ii (M (8 + 12 * z))) := by
  rw [at_i mm (z_ln h).2.1 hz (by omega), zk_g h (cz_o z hz).2.1 (cz_o z hz).2.2.2.2.2.1]
theorem z_ot (h : ZK mm y M) {z : Nat} (hz : z < 6) : f6_at mm (y + 3) (ii z) = some (ii (M (9 + 12 * z))) := by
  rw [at_i mm (z_ln h).2.2.1 hz (by omega), zk_g h (cz_o z hz).2.2.1 (cz_o z hz).2.2.2.2.2.2.1]
theorem z_pts (h : ZK mm y M) {z : Nat} (hz : z < 6) : f6_at mm (y + 4) (ii z) = some (ii (M (10 + 12 * z))) := by
  rw [at_i mm (z_ln h).2.2.2.1 hz (by omega), zk_g h (cz_o z hz).2.2.2.1 (cz_o z hz).2.2.2.2.2.2.2]
theorem z_pu (h : ZK mm y M) {z k : Nat} (hz : z < 6) (hk : k < 4) {i : Int} (hi : i = 4 * z + k) : f6_at mm (y + 5) (ii i) = some (ii (pu M z k)) := by
  rw [at_e mm (k := 4 * z + k) (by omega) (z_ln h).2.2.2.2.1 (by omega) (by omega), zk_g h (cz_p z hz k hk).1 (cz_p z hz k hk).2.2.1]
  rfl
theorem z_pp (h : ZK mm y M) {z k : Nat} (hz : z < 6) (hk : k < 4) {i : Int} (hi : i = 4 * z + k) : f6_at mm (y + 6) (ii i) = some (ii (pp M z k)) := by
  rw [at_e mm (k := 4 * z + k) (by omega) (z_ln h).2.2.2.2.2 (by omega) (by omega), zk_g h (cz_p z hz k hk).2.1 (cz_p z hz k hk).2.2.2]
  rfl
theorem o_fl (h : OK mm o M) {k : Nat} (hk : k < 4) {i : Int} (hi : i = k) : f6_at mm (o + 1) (ii i) = some (ii (M (3 + k))) := by
  rw [at_e mm hi (o_ln h).1 hk (by omega), ok_g h (cof_f k hk).1 (cof_f k hk).2]
theorem o_zn (h : OK mm o M) {r : Nat} (hr : r < 12) : f6_at mm (o + 2) (ii r) = some (ii (M (79 + 13 * r))) := by
  have q := cof_o r hr
  rw [at_i mm (o_ln h).2.1 hr (by omega), ok_g h q.1 q.2.2.2.2.2.2.2.1]
theorem o_sz (h : OK mm o M) {r : Nat} (hr : r < 12) : f6_at mm (o + 3) (ii r) = some (ii (M (80 + 13 * r))) := by
  have q := cof_o r hr
  rw [at_i mm (o_ln h).2.2.1 hr (by omega), ok_g h q.2.1 q.2.2.2.2.2.2.2.2.1]
theorem o_kd (h : OK mm o M) {r : Nat} (hr : r < 12) : f6_at mm (o + 4) (ii r) = some (ii (M (81 + 13 * r))) := by
  have q := cof_o r hr
  rw [at_i mm (o_ln h).2.2.2.1 hr (by omega), ok_g h q.2.2.1 q.2.2.2.2.2.2.2.2.2.1]
theorem o_ow (h : OK mm o M) {r : Nat} (hr : r < 12) : f6_at mm (o + 5) (ii r) = some (ii (M (82 + 13 * r))) := by
  have q := cof_o r hr
  rw [at_i mm (o_ln h).2.2.2.2.1 hr (by omega), ok_g h q.2.2.2.1 q.2.2.2.2.2.2.2.2.2.2.1]
theorem o_mu (h : OK mm o M) {r : Nat} (hr : r < 12) : f6_at mm (o + 6) (ii r) = some (ii (M (83 + 13 * r))) := by
  have q := cof_o r hr
  rw [at_i mm (o_ln h).2.2.2.2.2.1 hr (by omega), ok_g h q.2.2.2.2.1 q.2.2.2.2.2.2.2.2.2.2.2.1]
theorem o_fr (h : OK mm o M) {r : Nat} (hr : r < 12) : f6_at mm (o + 7) (ii r) = some (ii (M (84 + 13 * r))) := by
  have q := cof_o r hr
  rw [at_i mm (o_ln h).2.2.2.2.2.2.1 hr (by omega), ok_g h q.2.2.2.2.2.1 q.2.2.2.2.2.2.2.2.2.2.2.2.1]
theorem o_st (h : OK mm o M) {r : Nat} (hr : r < 12) : f6_at mm (o + 8) (ii r) = some (ii (M (85 + 13 * r))) := by
  have q := cof_o r hr
  rw [at_i mm (o_ln h).2.2.2.2.2.2.2.1 hr (by omega), ok_g h q.2.2.2.2.2.2.1 q.2.2.2.2.2.2.2.2.2.2.2.2.2]
theorem o_su (h : OK mm o M) {r k : Nat} (hr : r < 12) (hk : k < 3) {i : Int} (hi : i = 3 * r + k) : f6_at mm (o + 9) (ii i) = some (ii (su M r k)) := by
  have q := cof_p r hr k hk
  rw [at_e mm (k := 3 * r + k) (by omega) (o_ln h).2.2.2.2.2.2.2.2.1 (by omega) (by omega), ok_g h q.1 q.2.2.1]
  rfl
theorem o_sp (h : OK mm o M) {r k : Nat} (hr : r < 12) (hk : k < 3) {i : Int} (hi : i = 3 * r + k) : f6_at mm (o + 10) (ii i) = some (ii (sp M r k)) := by
  have q := cof_p r hr k hk
  rw [at_e mm (k := 3 * r + k) (by omega) (o_ln h).2.2.2.2.2.2.2.2.2 (by omega) (by omega), ok_g h q.2.1 q.2.2.2]
  rfl
end
/-! the reference's reads -/
section
variable {mm : Mem} {M : WM}
theorem rdq (mm : Mem) {q k n : Nat} (hl : ln q = n) (hk : k < n) (hn : n < 2147483648) {i : Int} (hi : i = k) {β : Type} (K : Int32 → Option β) : rdc q (ii i) (nm (mm q (ii i).toNatClampNeg) K) = K (mm q k) := by
  subst hi
  rw [rdc_ii (by omega) (by rw [hl]; omega) (by rw [hl]; omega), nm_eq, ii_tk k k rfl (by omega)]
theorem wrq (mm : Mem) {q k n : Nat} (hl : ln q = n) (hk : k < n) (hn : n < 2147483648) {i : Int} (hi : i = k) (v : Int32) {β : Type} (K : Mem → Option β) : rdc q (ii i) (nm (up2 mm q (ii i).toNatClampNeg v) K) = K (up2 mm q k v) := by
  subst hi
  rw [rdc_ii (by omega) (by rw [hl]; omega) (by rw [hl]; omega), nm_eq, ii_tk k k rfl (by omega)]
theorem rk_fr (h : RK mm M) {m' : Mem} (hf : m' 1 = mm 1) : RK m' M := fun j hj => by rw [hf]; exact h j hj
theorem rk_up (h : RK mm M) {j : Nat} (v : Int) : RK (up2 mm 1 j (ii v)) (up M j v) := fun i hi => by
  by_cases e : i = j
  · subst e; rw [up2_at, up_eq]
  · rw [up2_k _ _ _ _ e, up_ne _ _ e]; exact h i hi
end
