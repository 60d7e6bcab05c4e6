section
variable {M : WM} {g : Int32} {nf : Bool}
theorem h17 {m : Mem} (hR : RC m M g nf) (hM : WF M) (k4 : Int64 → Int32 → Option Int64) {z : Nat} (hz : z < zn M) {s : Int} (h9 : m 9 z = ii s) (hs1 : -200000 ≤ s) (hs2 : s ≤ wan M z) (a : Int) : ∀ (d u n : Nat), s - u ≤ d → d < n → (u = 0 ∨ (u : Int) ≤ s) → f7_surplusNow_l17 k4 m n (ll (a + sm u (wv M z))) (ii z) (ii ((u : Int) + 1)) = k4 (ll (a + wsm M z s)) (ii (z + 1 : Nat)) := by
  have hw := wwz hM.1 hz
  have hb := zn_bd hM.1
  have wl := wan_le hw
  intro d
  induction d with
  | zero =>
    intro u n hd hdn hu
    obtain ⟨q, rfl⟩ : ∃ q, n = q + 1 := ⟨n - 1, by omega⟩
    rw [f7_surplusNow_l17, rdq m lnR.2.2.2.2.2.2.2.2.1 (k := z) (by omega) (by omega) (by omega), h9, if_pos (ilt (by omega) (by omega) (by omega)), iSu, nm_eq]
    unfold wsm
    rw [show s.toNat = u by omega]
  | succ d ih =>
    intro u n hd hdn hu
    obtain ⟨q, rfl⟩ : ∃ q, n = q + 1 := ⟨n - 1, by omega⟩
    rw [f7_surplusNow_l17, rdq m lnR.2.2.2.2.2.2.2.2.1 (k := z) (by omega) (by omega) (by omega), h9]
    by_cases c : s < (u : Int) + 1
    · rw [if_pos (ilt (by omega) (by omega) (by omega)), iSu, nm_eq]
      unfold wsm
      rw [show s.toNat = u by omega]
    · have fp : npt M z ≠ 0 := fun e0 => by
        have e1 : wan M z = 0 := by unfold wan; rw [if_pos e0]
        omega
      have wb := wor_bd hw (u := (u : Int) + 1) (by omega) (by omega)
      have p0 := hw.pt (k := 0) (by omega)
      rw [if_neg (inlt (by omega) (by omega) (by omega)), f7_worthOf_ok hR.1 hw (by omega) (by omega) (by omega), bd_some, ii_ll (by omega) (by omega), ll_add, nm_eq, l1, ii_add, nm_eq]
      have go := ih (u + 1) q (by omega) (by omega) (by omega)
      rw [sm_s] at go
      have e1 : a + sm u (wv M z) + wor M z ((u : Int) + 1) = a + (sm u (wv M z) + wv M z u) := by
        have : wv M z u = wor M z ((u : Int) + 1) := rfl
        omega
      have e2 : (u : Int) + 1 + 1 = ((u + 1 : Nat) : Int) + 1 := by omega
      rw [e1, e2]
      exact go
/-- rows that a surplus is made of -/
def SR (m : Mem) (M : WM) (nf : Bool) (S T J : Nat → Int) : Prop := (∀ z, z < zn M → m 9 z = ii (S z) ∧ -200000 ≤ S z ∧ S z ≤ wan M z) ∧ (∀ i, i < 4 * rn M → m 10 i = ii (T i) ∧ (0 ≤ T i ∧ T i ≤ 500) ∧ (T i ≠ 0 → li M (i / 4) (i % 4) (if nf = true then 0 else flr M (i / 4)) = J i))
theorem h66 {m : Mem} (hR : RC m M g nf) (hM : WF M) (k53 : Int64 → Int32 → Option Int64) {S T J : Nat → Int} (hS : SR m M nf S T J) {r : Nat} (hr : r < rn M) (a : Int) : ∀ (d k n : Nat), k + d = 4 → d < n → f7_surplusNow_l66 k53 m n (ll (a - sm (4 * r + k) (fun i => J i * T i))) (ii r) (ii k) = k53 (ll (a - sm (4 * (r + 1)) (fun i => J i * T i))) (ii (r + 1 : Nat)) := by
  have hrb := rn_bd hM.1
  have hw := wwr hM.1 hr
  have fb := flr_bd hM.1 hw
  intro d
  induction d with
  | zero =>
    intro k n hk hdn
    obtain ⟨q, rfl⟩ : ∃ q, n = q + 1 := ⟨n - 1, by omega⟩
    rw [f7_surplusNow_l66, l3, if_pos (ilt (by omega) (by omega) (by omega)), iSu, nm_eq, show 4 * r + k = 4 * (r + 1) by omega]
  | succ d ih =>
    intro k n hk hdn
    obtain ⟨q, rfl⟩ : ∃ q, n = q + 1 := ⟨n - 1, by omega⟩
    obtain ⟨t1, t2, t3⟩ := hS.2 (4 * r + k) (by omega)
    have go := ih (k + 1) q (by omega) (by omega)
    rw [← Nat.add_assoc, sm_s] at go
    rw [f7_surplusNow_l66, l3, if_neg (inlt (by omega) (by omega) (by omega)), l4, ii_mul, ii_add, rdq m lnR.2.2.2.2.2.2.2.2.2.1 (k := 4 * r + k) (by omega) (by omega) (by omega), t1, l0, L0]
    unfold f7_surplusNow_j112
    by_cases c : T (4 * r + k) = 0
    · rw [if_pos (by rw [c]), ll_sub, nm_eq, iSu, nm_eq, Int.sub_zero]
      rw [c, Int.mul_zero, Int.add_zero] at go
      exact go
    · have e := t3 c
      rw [show (4 * r + k) / 4 = r by omega, show (4 * r + k) % 4 = k by omega] at e
      have lb := li_bd hM.1 (r := r) (k := k) (fl := if nf = true then 0 else flr M r) (by
        cases nf
        · exact fb
        · rw [if_pos rfl]; omega)
      rw [if_neg (ine c (by omega) (by omega) (by omega) (by omega)), rdq m lnR.2.2.2.2.2.2.2.2.2.1 (k := 4 * r + k) (by omega) (by omega) (by omega), t1, f7_lineIts_ok hR.1 hM.1 hw (by omega) (by omega) nf hR.2.2, bd_some, ii_ll (by omega) (by omega), ii_ll lb.1 lb.2, e, ll_mul, ll_sub, nm_eq, iSu, nm_eq, Int.mul_comm (T (4 * r + k))]
      have e2 : a - sm (4 * r + k) (fun i => J i * T i) - J (4 * r + k) * T (4 * r + k) = a - (sm (4 * r + k) (fun i => J i * T i) + J (4 * r + k) * T (4 * r + k)) := by omega
      rw [e2]
      exact go
theorem h53 {m : Mem} (hR : RC m M g nf) (hM : WF M) {S T J : Nat → Int} (hS : SR m M nf S T J) (a : Int) : ∀ (d r n : Nat), r + d = rn M → d < n → f7_surplusNow_l53 m n (ll (a - sm (4 * r) (fun i => J i * T i))) (ii r) = some (ll (a - sm (4 * rn M) (fun i => J i * T i))) := by
  have hrb := rn_bd hM.1
  intro d
  induction d with
  | zero =>
    intro r n hr hdn
    obtain ⟨q, rfl⟩ : ∃ q, n = q + 1 := ⟨n - 1, by omega⟩
    rw [f7_surplusNow_l53, l1, rd1 hR.1 (k := 1) (by omega) (by omega), rn_c hM.1, if_neg (inlt (by omega) (by omega) (by omega)), show r = rn M by omega]
  | succ d ih =>
    intro r n hr hdn
    obtain ⟨q, rfl⟩ : ∃ q, n = q + 1 := ⟨n - 1, by omega⟩
    rw [f7_surplusNow_l53, l1, rd1 hR.1 (k := 1) (by omega) (by omega), rn_c hM.1, if_pos (ilt (by omega) (by omega) (by omega)), l0]
    have go := h66 hR hM (fun x1 x3 => f7_surplusNow_l53 m q x1 x3) hS (r := r) (by omega) a 4 0 FU (by omega) (by unfold FU; omega)
    exact go.trans (ih (r + 1) q (by omega) (by omega))
theorem h4 {m : Mem} (hR : RC m M g nf) (hM : WF M) {S T J : Nat → Int} (hS : SR m M nf S T J) : ∀ (d z n : Nat), z + d = zn M → d < n → f7_surplusNow_l4 m n (ll (sm z (fun y => wsm M y (S y)))) (ii z) = some (ll (sm (zn M) (fun y => wsm M y (S y)) - sm (4 * rn M) (fun i => J i * T i))) := by
  have hb := zn_bd hM.1
  have hrb := rn_bd hM.1
  intro d
  induction d with
  | zero =>
    intro z n hz hdn
    obtain ⟨q, rfl⟩ : ∃ q, n = q + 1 := ⟨n - 1, by omega⟩
    have go := h53 hR hM hS (sm z (fun y => wsm M y (S y))) (rn M) 0 FU (by omega) (by unfold FU; omega)
    rw [show 4 * 0 = 0 by omega, sm_0, Int.sub_zero] at go
    rw [f7_surplusNow_l4, l0, rd1 hR.1 (k := 0) (by omega) (by omega), zn_c hM.1, if_neg (inlt (by omega) (by omega) (by omega))]
    have e : z = zn M := by omega
    rw [e] at go ⊢
    exact go
  | succ d ih =>
    intro z n hz hdn
    obtain ⟨q, rfl⟩ : ∃ q, n = q + 1 := ⟨n - 1, by omega⟩
    obtain ⟨s1, s2, s3⟩ := hS.1 z (by omega)
    have wl := wan_le (wwz hM.1 (z := z) (by omega))
    rw [f7_surplusNow_l4, l0, rd1 hR.1 (k := 0) (by omega) (by omega), zn_c hM.1, if_pos (ilt (by omega) (by omega) (by omega)), l1]
    have go := h17 hR hM (fun x1 x3 => f7_surplusNow_l4 m q x1 x3) (z := z) (by omega) s1 s2 s3 (sm z (fun y => wsm M y (S y))) 2000 0 FU (by omega) (by unfold FU; omega) (Or.inl rfl)
    rw [sm_0, Int.add_zero] at go
    have nx := ih (z + 1) q (by omega) (by omega)
    rw [sm_s] at nx
    exact go.trans nx
theorem f7_surplusNow_ok {m : Mem} (hR : RC m M g nf) (hM : WF M) {S T J : Nat → Int} (hS : SR m M nf S T J) : f7_surplusNow m = some (ll (sm (zn M) (fun y => wsm M y (S y)) - sm (4 * rn M) (fun i => J i * T i))) := by
  have hb := zn_bd hM.1
  unfold f7_surplusNow
  rw [L0, l0]
  exact h4 hR hM hS (zn M) 0 FU (by omega) (by unfold FU; omega)
theorem SR_of {m : Mem} (hM : WF M) (hC : RCL m M (Dg M g nf)) : SR m M nf (Sz (Dg M g nf)) (Tz (Dg M g nf)) (dJ (Dg M g nf)) := by
  have hD := Dg_WD hM g nf
  refine ⟨fun z hz => ⟨(hC.1 z hz).2.2, (S_wan hM hz).2, (S_wan hM hz).1⟩, fun i hi => ⟨hC.2 i hi, T_bd hD hi (dz_lt hM.1 (by omega)), fun h => ?_⟩⟩
  have hU : dU (Dg M g nf) i ≠ 0 := fun e => h (by unfold Tz; rw [if_pos e])
  show _ = Jg M g nf i
  unfold Jg
  rw [if_neg (show ¬ Ug M g i = 0 from hU)]
theorem f7_takenOf_ok {m : Mem} (hM : WF M) (hC : RCL m M (Dg M g nf)) {r : Nat} (hr : r < rn M) : f7_takenOf m (ii r) = some (ii (tko (Dg M g nf) r)) := by
  have hrb := rn_bd hM.1
  unfold f7_takenOf
  rw [l4, l1, l2, l3, ii_mul, ii_add, ii_add, ii_add, rdq m lnR.2.2.2.2.2.2.2.2.2.1 (k := 4 * r) (by omega) (by omega) (by omega), rdq m lnR.2.2.2.2.2.2.2.2.2.1 (k := 4 * r + 1) (by omega) (by omega) (by omega), rdq m lnR.2.2.2.2.2.2.2.2.2.1 (k := 4 * r + 2) (by omega) (by omega) (by omega), rdq m lnR.2.2.2.2.2.2.2.2.2.1 (k := 4 * r + 3) (by omega) (by omega) (by omega), hC.2 _ (by omega), hC.2 _ (by omega), hC.2 _ (by omega), hC.2 _ (by omega), ii_add, ii_add, ii_add]
  rfl
theorem f7_paidTo_ok {m : Mem} (hR : RC m M g nf) (hM : WF M) (hC : RCL m M (Dg M g nf)) {r : Nat} (hr : r < rn M) : f7_paidTo m (ii r) = some (ll (pdt (Dg M g nf) r)) := by
  have hD := Dg_WD hM g nf
  have hb := zn_bd hM.1
  have hrb := rn_bd hM.1
  have o := (wwr hM.1 hr).1
  have zl : dz (Dg M g nf) r < zn M := dz_lt hM.1 hr
  have eo : M (79 + 13 * r) = (dz (Dg M g nf) r : Int) := by
    show M (79 + 13 * r) = ((M (79 + 13 * r)).toNat : Int)
    omega
  have p := PN_9 hD (z := dz (Dg M g nf) r) zl
  have t := tko_bd hD (r := r) hr zl
  unfold f7_paidTo pdt
  rw [l0, f7_ofResource_ok hR.1 (r := r) (by omega) (k := 0) (by omega) (j := 79 + 13 * r) (by omega) (by omega), bd_some, eo, rdq m lnR.2.2.2.2.2.2.1 (k := dz (Dg M g nf) r) (by omega) (by omega) (by omega), (hC.1 _ zl).1, f7_takenOf_ok hM hC hr, bd_some, ii_ll (by omega) (by omega), ii_ll (by omega) (by omega), ll_mul]
end
