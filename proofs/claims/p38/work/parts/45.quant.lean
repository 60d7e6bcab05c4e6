/-! what a clearing comes to -/
theorem ffl_un (t : Nat → Prop) [DecidablePred t] (r : Nat) : ∀ (d k : Nat), k ≤ r → r < k + d → t r → (∀ i, k ≤ i → i < r → ¬ t i) → ffl t d k = r := by
  intro d
  induction d with
  | zero => intro k h1 h2; omega
  | succ d ih =>
    intro k h1 h2 h3 h4
    unfold ffl
    by_cases e : k = r
    · rw [e, if_pos h3]
    · rw [if_neg (h4 k (Nat.le_refl _) (by omega))]
      exact ih (k + 1) (by omega) (by omega) h3 (fun i h5 h6 => h4 i (by omega) h6)
theorem wor_seg {M : WM} {z : Nat} (h : ZW M z) {k : Nat} (hk : k < npt M z) {u : Int} (h1 : Xk M z k < u) (h2 : u ≤ pu M z k) : wor M z u = seg M z k u := by
  have a := XV_bd h hk
  have e : fk M z u = k := ffl_un (fun i => u ≤ pu M z i) k (npt M z) 0 (by omega) (by omega) h2 (fun i _ hi => by
    have m := (h.mono (i := i) (j := k - 1) (by omega) (by omega)).1
    unfold Xk at h1
    rw [if_neg (by omega)] at h1
    omega)
  unfold wor
  rw [e, if_neg (by omega), if_neg (by omega)]
def wv (M : WM) (z : Nat) (k : Nat) : Int := wor M z ((k : Int) + 1)
def wsm (M : WM) (z : Nat) (s : Int) : Int := sm s.toNat (wv M z)
section
variable {mm : Mem} {M : WM}
theorem g77 {y : Nat} {z : Nat} (hw : ZW M z) (k20 : Nat → Int32 → Int32 → Int64 → Int32 → Int32 → Int32 → Option Int64) (x1 x2 : Int32) {k : Nat} (hk : k < npt M z) {s : Int} (hs1 : -2147483648 ≤ s) (hs2 : s < 2147483648) : ∀ (d n u : Nat), min s (pu M z k) - u ≤ d → d < n → Xk M z k ≤ u → (u ≤ min s (pu M z k) ∨ s ≤ Xk M z k ∧ u = Xk M z k) → ∀ acc : Int, f5_worthOfFirst_l77 k20 mm n y x1 x2 (ll acc) (ii (Xk M z k)) (ii (Vk M z k)) (ii k) (ii (pu M z k)) (ii (pp M z k)) (ii (min s (pu M z k))) (ii ((u : Int) + 1)) = k20 y x1 x2 (ll (acc + (sm (max (u : Int) (min s (pu M z k))).toNat (wv M z) - sm u (wv M z)))) (ii (pu M z k)) (ii (pp M z k)) (ii (k + 1 : Nat)) := by
  have b := XV_bd hw hk
  have hn := npt_le hw
  intro d
  induction d with
  | zero =>
    intro n u hd hdn h1 h2 acc
    obtain ⟨q, rfl⟩ : ∃ q, n = q + 1 := ⟨n - 1, by omega⟩
    rw [f5_worthOfFirst_l77, if_pos (ilt (by omega) (by omega) (by omega)), iSu, nm_eq, Int.max_eq_left (by omega), Int.toNat_natCast, Int.sub_self, Int.add_zero]
  | succ d ih =>
    intro n u hd hdn h1 h2 acc
    obtain ⟨q, rfl⟩ : ∃ q, n = q + 1 := ⟨n - 1, by omega⟩
    rw [f5_worthOfFirst_l77]
    by_cases c : min s (pu M z k) < (u : Int) + 1
    · rw [if_pos (ilt c (by omega) (by omega)), iSu, nm_eq, Int.max_eq_left (by omega), Int.toNat_natCast, Int.sub_self, Int.add_zero]
    · have f := fall_bd hw hk (u := (u : Int) + 1) (by omega) (by omega)
      have sb := seg_bd hw hk (u := (u : Int) + 1) (fun h0 => by unfold Xk at h1; rw [if_neg (by omega)] at h1; omega) (by omega)
      have sx := seg_XV hw (k := k) ((u : Int) + 1)
      have ws := wor_seg hw hk (u := (u : Int) + 1) (by omega) (by omega)
      have vb := hw.pt hk
      have sv : 0 ≤ seg M z k ((u : Int) + 1) ∧ seg M z k ((u : Int) + 1) ≤ 9999 := by
        refine ⟨by omega, ?_⟩
        by_cases e : k = 0
        · subst e; unfold seg; rw [if_pos rfl]; omega
        · have := sb.2 (by omega)
          have := hw.pt (k := k - 1) (by omega)
          omega
      rw [if_neg (inlt (by omega) (by omega) (by omega)), ii_sub, ii_sub, ii_sub, f5_fallen_ok f.1 f.2 (by omega) (by omega), bd_some, ii_sub, ← sx, ii_ll (by omega) (by omega), ll_add, nm_eq, l1, ii_add, nm_eq]
      have e1 : (u : Int) + 1 + 1 = ((u + 1 : Nat) : Int) + 1 := by omega
      rw [e1]
      have go := ih q (u + 1) (by omega) (by omega) (by omega) (Or.inl (by omega)) (acc + seg M z k ((u : Int) + 1))
      rw [go]
      congr 2
      have e2 : wv M z u = seg M z k ((u : Int) + 1) := ws
      rw [sm_s, e2, Int.max_eq_right (by omega), Int.max_eq_right (by omega)]
      omega
theorem g20 {y : Nat} {z : Nat} (h : ZK mm y M) (hw : ZW M z) (hz : z < 6) {s : Int} (hs1 : -2147483648 ≤ s) (hs2 : s < 2147483648) : ∀ (d k n : Nat), k + d = npt M z → d < n → f5_worthOfFirst_l20 mm n y (ii z) (ii s) (ll (sm (min s (Xk M z k)).toNat (wv M z))) (ii (Xk M z k)) (ii (Vk M z k)) (ii k) = some (ll (sm (min s (Xk M z (npt M z))).toNat (wv M z))) := by
  have hn := npt_le hw
  intro d
  induction d with
  | zero =>
    intro k n hk hdn
    obtain ⟨q, rfl⟩ : ∃ q, n = q + 1 := ⟨n - 1, by omega⟩
    rw [f5_worthOfFirst_l20, z_npt h hw hz, bd_some, if_neg (inlt (by omega) (by omega) (by omega)), show k = npt M z by omega]
  | succ d ih =>
    intro k n hk hdn
    obtain ⟨q, rfl⟩ : ∃ q, n = q + 1 := ⟨n - 1, by omega⟩
    have b := XV_bd hw (k := k) (by omega)
    rw [f5_worthOfFirst_l20, z_npt h hw hz, bd_some, if_pos (ilt (by omega) (by omega) (by omega)), l4, ii_mul, ii_add, z_pu h hz (k := k) (by omega) (by omega), bd_some, z_pp h hz (k := k) (by omega) (by omega), bd_some, mni_ii hs1 hs2 (by omega) (by omega), nm_eq, l1, ii_add, nm_eq]
    obtain ⟨u, hu⟩ := Int.eq_ofNat_of_zero_le b.1
    have go := g77 (mm := mm) (y := y) hw (fun x0 x1 x2 x3 x5 x6 x7 => f5_worthOfFirst_l20 mm q x0 x1 x2 x3 x5 x6 x7) (ii z) (ii s) (k := k) (by omega) hs1 hs2 2000 FU u (by omega) (by unfold FU; omega) (by omega) (by omega) (sm (min s (Xk M z k)).toNat (wv M z))
    rw [← hu] at go
    refine go.trans ?_
    have nx := ih (k + 1) q (by omega) (by omega)
    rw [Xk_s, Vk_s] at nx
    have e : sm (min s (Xk M z k)).toNat (wv M z) + (sm (max (Xk M z k) (min s (pu M z k))).toNat (wv M z) - sm u (wv M z)) = sm (min s (pu M z k)).toNat (wv M z) := by
      by_cases c : s ≤ Xk M z k
      · have e1 : (max (Xk M z k) (min s (pu M z k))).toNat = u := by omega
        have e2 : (min s (Xk M z k)).toNat = s.toNat := by omega
        have e3 : (min s (pu M z k)).toNat = s.toNat := by omega
        rw [e1, e2, e3]; omega
      · have e1 : (max (Xk M z k) (min s (pu M z k))).toNat = (min s (pu M z k)).toNat := by omega
        have e2 : (min s (Xk M z k)).toNat = u := by omega
        rw [e1, e2]; omega
    rw [e]
    exact nx
theorem worthOfFirst_ok {y : Nat} {z : Nat} (h : ZK mm y M) (hw : ZW M z) (hz : z < 6) {s : Int} (hs1 : -2147483648 ≤ s) (hs2 : s ≤ wan M z) : f5_worthOfFirst mm y (ii z) (ii s) = some (ll (wsm M z s)) := by
  have hn := npt_le hw
  have wl := wan_le hw
  unfold f5_worthOfFirst
  rw [l4, ii_mul, z_pp h hz (k := 0) (by omega) (by omega), bd_some, l0, L0]
  have q := g20 h hw hz (s := s) hs1 (by omega) (npt M z) 0 FU (by omega) (by unfold FU; omega)
  have e0 : sm (min s (Xk M z 0)).toNat (wv M z) = 0 := by
    have : (min s (Xk M z 0)).toNat = 0 := by
      have : Xk M z 0 = 0 := rfl
      omega
    rw [this, sm_0]
  rw [e0] at q
  refine q.trans ?_
  have e1 : Xk M z (npt M z) = wan M z := rfl
  rw [e1, Int.min_eq_left hs2]
  rfl
end
def sur (M : WM) (D : DT) : Int := sm (zn M) (fun z => wsm M z (Sz D z)) - sm (4 * rn M) (fun i => dJ D i * Tz D i)
theorem T_bd {D : DT} (h : WD D) {i : Nat} (hi : i < 4 * dm D) (hz : dz D (i / 4) < dn D) : 0 ≤ Tz D i ∧ Tz D i ≤ 500 := by
  have u := (h.uj hi).1
  have l := lq_bd h (z := dz D (i / 4)) hz (i := i) (by omega)
  rw [lq_T i rfl]
  by_cases c : dU D i = 0
  · rw [if_pos c]; omega
  · rw [if_neg c]
    by_cases c1 : dJ D i < Pz D (dz D (i / 4))
    · rw [if_pos c1]; omega
    · rw [if_neg c1]
      by_cases c2 : dJ D i = Pz D (dz D (i / 4))
      · rw [if_pos c2]; omega
      · rw [if_neg c2]; omega
theorem dz_lt {M : WM} (hM : WW M) {g : Int32} {nf : Bool} {r : Nat} (hr : r < rn M) : dz (Dg M g nf) r < dn (Dg M g nf) := by
  have o := (wwr hM hr).1
  have zc := zn_c hM
  show (M (79 + 13 * r)).toNat < zn M
  omega
section
variable {M : WM} {x : Nat}
theorem su48 {m : Mem} (hA : AK m x M) (hC : CLS m x M) (hM : WF M) : ∀ (d i n : Nat), i + d = 4 * rn M → d < n → ∀ a : Int, f0_surplusOfAll_l48 m n x (ll (a - sm i (fun j => dJ (Dc M) j * Tz (Dc M) j))) (ii i) = some (ll (a - sm (4 * rn M) (fun j => dJ (Dc M) j * Tz (Dc M) j))) := by
  have hD : WD (Dc M) := Dg_WD hM (ii 0) false
  have hrb := rn_bd hM.1
  have hln := ak_ln hA
  intro d
  induction d with
  | zero =>
    intro i n hi hdn a
    obtain ⟨q, rfl⟩ : ∃ q, n = q + 1 := ⟨n - 1, by omega⟩
    rw [f0_surplusOfAll_l48, hA.2.2.n, rn_c hM.1, l4, ii_mul, if_neg (inlt (by omega) (by omega) (by omega)), show i = 4 * rn M by omega]
  | succ d ih =>
    intro i n hi hdn a
    obtain ⟨q, rfl⟩ : ∃ q, n = q + 1 := ⟨n - 1, by omega⟩
    have hi4 : i < 4 * rn M := by omega
    obtain ⟨c1, v, vb, c2, c3⟩ := hC.1 i hi4
    have tb := T_bd hD (i := i) hi4 (dz_lt hM.1 (by omega))
    rw [f0_surplusOfAll_l48, hA.2.2.n, rn_c hM.1, l4, ii_mul, if_pos (ilt (by omega) (by omega) (by omega)), at_i m hln.2.2.2.2.2.1 (by omega) (by omega), bd_some, at_i m hln.2.2.2.1 (by omega) (by omega), bd_some, c2, hC.2.2 i hi4, ii_ll vb.1 vb.2, ii_ll (by omega) (by omega), ll_mul, ll_sub, nm_eq, iSu, nm_eq]
    have go := ih (i + 1) q (by omega) (by omega) a
    rw [sm_s] at go
    have e : v * Tz (Dc M) i = dJ (Dc M) i * Tz (Dc M) i := by
      by_cases c : dU (Dc M) i = 0
      · have : Tz (Dc M) i = 0 := by unfold Tz; rw [if_pos c]
        rw [this, Int.mul_zero, Int.mul_zero]
      · rw [c3 c]
    rw [e]
    have e2 : a - sm i (fun j => dJ (Dc M) j * Tz (Dc M) j) - dJ (Dc M) i * Tz (Dc M) i = a - (sm i (fun j => dJ (Dc M) j * Tz (Dc M) j) + dJ (Dc M) i * Tz (Dc M) i) := by omega
    rw [e2]
    exact go
theorem S_wan (hM : WF M) {g : Int32} {nf : Bool} {z : Nat} (hz : z < zn M) : Sz (Dg M g nf) z ≤ wan M z ∧ -200000 ≤ Sz (Dg M g nf) z := by
  have hD := Dg_WD hM g nf
  have a := S_bd hD (z := z) hz
  have b : dW (Dg M g nf) z (Pz (Dg M g nf) z) ≤ wan M z := (Wt_bd (wwz hM.1 hz) _).2.1
  omega
theorem su4 {m : Mem} (hA : AK m x M) (hC : CLS m x M) (hM : WF M) : ∀ (d z n : Nat), z + d = zn M → d < n → f0_surplusOfAll_l4 m n x (ll (sm z (fun y => wsm M y (Sz (Dc M) y)))) (ii z) = some (ll (sur M (Dc M))) := by
  have hb := zn_bd hM.1
  have hrb := rn_bd hM.1
  have hln := ak_ln hA
  intro d
  induction d with
  | zero =>
    intro z n hz hdn
    obtain ⟨q, rfl⟩ : ∃ q, n = q + 1 := ⟨n - 1, by omega⟩
    have go := su48 hA hC hM (4 * rn M) 0 FU (by omega) (by unfold FU; omega) (sm z (fun y => wsm M y (Sz (Dc M) y)))
    rw [sm_0, Int.sub_zero] at go
    rw [f0_surplusOfAll_l4, hA.2.1.n, zn_c hM.1, if_neg (inlt (by omega) (by omega) (by omega)), l0]
    have e : z = zn M := by omega
    rw [e] at go ⊢
    exact go
  | succ d ih =>
    intro z n hz hdn
    obtain ⟨q, rfl⟩ : ∃ q, n = q + 1 := ⟨n - 1, by omega⟩
    have sw : Sz (Dc M) z ≤ wan M z ∧ -200000 ≤ Sz (Dc M) z := S_wan hM (g := ii 0) (nf := false) (z := z) (by omega)
    rw [f0_surplusOfAll_l4, hA.2.1.n, zn_c hM.1, if_pos (ilt (by omega) (by omega) (by omega)), at_i m hln.2.2.1 (by omega) (by omega), bd_some, (hC.2.1 z (by omega)).2.2, worthOfFirst_ok hA.2.1 (wwz hM.1 (by omega)) (by omega) (by omega) sw.1, bd_some, ll_add, nm_eq, iSu, nm_eq]
    have go := ih (z + 1) q (by omega) (by omega)
    rw [sm_s] at go
    exact go
theorem surplusOfAll_ok {m : Mem} (hA : AK m x M) (hC : CLS m x M) (hM : WF M) : f0_surplusOfAll m x = some (ll (sur M (Dc M))) := by
  have hb := zn_bd hM.1
  unfold f0_surplusOfAll
  rw [L0, l0]
  exact su4 hA hC hM (zn M) 0 FU (by omega) (by unfold FU; omega)
def tko (D : DT) (r : Nat) : Int := Tz D (4 * r) + Tz D (4 * r + 1) + Tz D (4 * r + 2) + Tz D (4 * r + 3)
theorem tko_sm (D : DT) (r : Nat) : sm (4 * r + 4) (Tz D) - sm (4 * r) (Tz D) = tko D r := by
  rw [show 4 * r + 4 = 4 * r + 3 + 1 by omega, sm_s, show 4 * r + 3 = 4 * r + 2 + 1 by omega, sm_s, show 4 * r + 2 = 4 * r + 1 + 1 by omega, sm_s, sm_s]
  unfold tko
  rw [show 4 * r + 1 + 1 = 4 * r + 2 by omega, show 4 * r + 2 + 1 = 4 * r + 3 by omega]
  omega
theorem tko_bd {D : DT} (h : WD D) {r : Nat} (hr : r < dm D) (hz : dz D r < dn D) : 0 ≤ tko D r ∧ tko D r ≤ 2000 := by
  have e : ∀ k, k < 4 → 0 ≤ Tz D (4 * r + k) ∧ Tz D (4 * r + k) ≤ 500 := fun k hk => T_bd h (by omega) (by rw [show (4 * r + k) / 4 = r by omega]; exact hz)
  have a := e 0 (by omega)
  have b := e 1 (by omega)
  have c := e 2 (by omega)
  have d := e 3 (by omega)
  unfold tko
  simp only [Nat.add_zero] at a
  omega
theorem tk6 {m : Mem} (hA : AK m x M) (hC : CLS m x M) {r : Nat} (hr : r < rn M) (hrb : rn M ≤ 12) : ∀ (d k n : Nat), k + d = 4 → d < n → f0_takenOf_l6 m n x (ii r) (ii (sm (4 * r + k) (Tz (Dc M)) - sm (4 * r) (Tz (Dc M)))) (ii (4 * r + k : Nat)) = some (ii (tko (Dc M) r)) := by
  have hln := ak_ln hA
  intro d
  induction d with
  | zero =>
    intro k n hk hdn
    obtain ⟨q, rfl⟩ : ∃ q, n = q + 1 := ⟨n - 1, by omega⟩
    rw [f0_takenOf_l6, l4, ii_mul, ii_add, if_neg (inlt (by omega) (by omega) (by omega)), show k = 4 by omega, tko_sm]
  | succ d ih =>
    intro k n hk hdn
    obtain ⟨q, rfl⟩ : ∃ q, n = q + 1 := ⟨n - 1, by omega⟩
    rw [f0_takenOf_l6, l4, ii_mul, ii_add, if_pos (ilt (by omega) (by omega) (by omega)), at_i m hln.2.2.2.1 (by omega) (by omega), bd_some, hC.2.2 _ (by omega), ii_add, nm_eq, iSu, nm_eq]
    have go := ih (k + 1) q (by omega) (by omega)
    rw [← Nat.add_assoc, sm_s] at go
    have e : sm (4 * r + k) (Tz (Dc M)) - sm (4 * r) (Tz (Dc M)) + Tz (Dc M) (4 * r + k) = sm (4 * r + k) (Tz (Dc M)) + Tz (Dc M) (4 * r + k) - sm (4 * r) (Tz (Dc M)) := by omega
    rw [e]
    exact go
theorem takenOf_ok {m : Mem} (hA : AK m x M) (hC : CLS m x M) (hM : WF M) {r : Nat} (hr : r < rn M) : f0_takenOf m x (ii r) = some (ii (tko (Dc M) r)) := by
  unfold f0_takenOf
  have a := tk6 hA hC hr (rn_bd hM.1) 4 0 FU (by omega) (by unfold FU; omega)
  rw [l4, ii_mul, nm_eq, l0]
  have e : (r : Int) * 4 = ((4 * r + 0 : Nat) : Int) := by omega
  rw [e]
  rw [show 4 * r + 0 = 4 * r by omega, Int.sub_self] at a
  exact a
def bnd (M : WM) (D : DT) (z : Nat) : Int := if Nz D z = -(M (8 + 12 * z)) ∧ Pz D (dou D z) < Pz D z then 1 else if Nz D z = M (9 + 12 * z) ∧ Pz D z < Pz D (dou D z) then 2 else 0
theorem boundOf_ok {m : Mem} (hA : AK m x M) (hC : CLS m x M) (hM : WF M) {z : Nat} (h1 : 1 ≤ z) (hz : z < zn M) : f0_boundOf m x (ii z) = some (ii (bnd M (Dc M) z)) := by
  have hD : WD (Dc M) := Dg_WD hM (ii 0) false
  have hb := zn_bd hM.1
  have hln := ak_ln hA
  have hw := wwz hM.1 hz
  have o := hw.1 h1
  have i1 := hw.2.1
  have i2 := hw.2.2.1
  have eo : M (7 + 12 * z) = (dou (Dc M) z : Int) := by
    show M (7 + 12 * z) = ((M (7 + 12 * z)).toNat : Int)
    omega
  have a := hC.2.1 z hz
  have b := hC.2.1 (dou (Dc M) z) (by omega)
  have p1 := PN_9 hD (z := z) hz
  have p2 := PN_9 hD (z := dou (Dc M) z) (show dou (Dc M) z < zn M by omega)
  have nb := N_bd hD (z := z) hz
  unfold f0_boundOf f0_boundOf_j63 bnd
  rw [at_i m hln.2.1 (by omega) (by omega), bd_some, at_i m hln.1 (by omega) (by omega), bd_some, z_out hA.2.1 (by omega) (by omega), bd_some, eo, at_i m hln.1 (by omega) (by omega), bd_some, a.1, a.2.1, b.1, ii_sub, nm_eq, z_in hA.2.1 (by omega), bd_some, z_ot hA.2.1 (by omega), bd_some, ii_neg, l0, l1, l2]
  by_cases c : Pz (Dc M) (dou (Dc M) z) < Pz (Dc M) z
  · rw [if_pos (ilt (by omega) (by omega) (by omega)), if_neg (inlt (by omega) (by omega) (by omega))]
    by_cases d : Nz (Dc M) z = -(M (8 + 12 * z))
    · rw [if_pos (by rw [d]), if_pos ⟨d, c⟩]
    · rw [if_neg (ine d (by omega) (by omega) (by omega) (by omega)), if_neg (show ¬ (Nz (Dc M) z = -(M (8 + 12 * z)) ∧ Pz (Dc M) (dou (Dc M) z) < Pz (Dc M) z) from fun h => d h.1), if_neg (show ¬ (Nz (Dc M) z = M (9 + 12 * z) ∧ Pz (Dc M) z < Pz (Dc M) (dou (Dc M) z)) by omega)]
  · rw [if_neg (inlt (by omega) (by omega) (by omega)), if_neg (show ¬ (Nz (Dc M) z = -(M (8 + 12 * z)) ∧ Pz (Dc M) (dou (Dc M) z) < Pz (Dc M) z) from fun h => c h.2)]
    by_cases d : Pz (Dc M) z < Pz (Dc M) (dou (Dc M) z)
    · rw [if_pos (ilt (by omega) (by omega) (by omega))]
      by_cases e : Nz (Dc M) z = M (9 + 12 * z)
      · rw [if_pos (by rw [e]), if_pos ⟨e, d⟩]
      · rw [if_neg (ine e (by omega) (by omega) (by omega) (by omega)), if_neg (show ¬ (Nz (Dc M) z = M (9 + 12 * z) ∧ Pz (Dc M) z < Pz (Dc M) (dou (Dc M) z)) from fun h => e h.1)]
    · rw [if_neg (inlt (by omega) (by omega) (by omega)), if_neg (show ¬ (Nz (Dc M) z = M (9 + 12 * z) ∧ Pz (Dc M) z < Pz (Dc M) (dou (Dc M) z)) from fun h => d h.2)]
def rto (D : DT) (z : Nat) : Int := Nz D z * ((Pz D (dou D z) : Int) - Pz D z)
theorem rentOf_ok {m : Mem} (hA : AK m x M) (hC : CLS m x M) (hM : WF M) {z : Nat} (h1 : 1 ≤ z) (hz : z < zn M) : f0_rentOf m x (ii z) = some (ll (rto (Dc M) z)) := by
  have hD : WD (Dc M) := Dg_WD hM (ii 0) false
  have hb := zn_bd hM.1
  have hln := ak_ln hA
  have hw := wwz hM.1 hz
  have o := hw.1 h1
  have eo : M (7 + 12 * z) = (dou (Dc M) z : Int) := by
    show M (7 + 12 * z) = ((M (7 + 12 * z)).toNat : Int)
    omega
  have a := hC.2.1 z hz
  have b := hC.2.1 (dou (Dc M) z) (by omega)
  have p1 := PN_9 hD (z := z) hz
  have p2 := PN_9 hD (z := dou (Dc M) z) (show dou (Dc M) z < zn M by omega)
  have nb := N_bd hD (z := z) hz
  unfold f0_rentOf rto
  rw [z_out hA.2.1 (by omega) (by omega), bd_some, at_i m hln.2.1 (by omega) (by omega), bd_some, eo, at_i m hln.1 (by omega) (by omega), bd_some, at_i m hln.1 (by omega) (by omega), bd_some, a.1, a.2.1, b.1, ii_sub, ii_ll (by omega) (by omega), ii_ll (by omega) (by omega), ll_mul]
def pdt (D : DT) (r : Nat) : Int := (Pz D (dz D r) : Int) * tko D r
theorem paidTo_ok {m : Mem} (hA : AK m x M) (hC : CLS m x M) (hM : WF M) {r : Nat} (hr : r < rn M) : f0_paidTo m x (ii r) = some (ll (pdt (Dc M) r)) := by
  have hD : WD (Dc M) := Dg_WD hM (ii 0) false
  have hb := zn_bd hM.1
  have hrb := rn_bd hM.1
  have hln := ak_ln hA
  have o := (wwr hM.1 hr).1
  have zl := dz_lt hM.1 (g := ii 0) (nf := false) hr
  have zl : dz (Dc M) r < zn M := zl
  have eo : M (79 + 13 * r) = (dz (Dc M) r : Int) := by
    show M (79 + 13 * r) = ((M (79 + 13 * r)).toNat : Int)
    omega
  have p := PN_9 hD (z := dz (Dc M) r) zl
  have t := tko_bd hD (r := r) hr zl
  unfold f0_paidTo pdt
  rw [o_zn hA.2.2 (by omega), bd_some, eo, at_i m hln.1 (by omega) (by omega), bd_some, (hC.2.1 _ zl).1, takenOf_ok hA hC hM hr, bd_some, ii_ll (by omega) (by omega), ii_ll (by omega) (by omega), ll_mul]
def pow' (M : WM) (D : DT) (o : Int) (r : Nat) : Int := if M (82 + 13 * r) = o then pdt D r else 0
theorem po13 {m : Mem} (hA : AK m x M) (hC : CLS m x M) (hM : WF M) {o : Int} (h1 : -2147483648 ≤ o) (h2 : o < 2147483648) : ∀ (d r n : Nat), r + d = rn M → d < n → f0_paidToOwner_l13 m n x (ii o) (x + 1 + 8) (ll (sm r (pow' M (Dc M) o))) (ii r) = some (ll (sm (rn M) (pow' M (Dc M) o))) := by
  have hrb := rn_bd hM.1
  intro d
  induction d with
  | zero =>
    intro r n hr hdn
    obtain ⟨q, rfl⟩ : ∃ q, n = q + 1 := ⟨n - 1, by omega⟩
    rw [f0_paidToOwner_l13, hA.2.2.n, rn_c hM.1, if_neg (inlt (by omega) (by omega) (by omega)), show r = rn M by omega]
  | succ d ih =>
    intro r n hr hdn
    obtain ⟨q, rfl⟩ : ∃ q, n = q + 1 := ⟨n - 1, by omega⟩
    have ow := (wwr hM.1 (r := r) (by omega)).2.2.2.1
    have go := ih (r + 1) q (by omega) (by omega)
    rw [sm_s] at go
    rw [f0_paidToOwner_l13, hA.2.2.n, rn_c hM.1, if_pos (ilt (by omega) (by omega) (by omega)), o_ow hA.2.2 (by omega), bd_some]
    unfold f0_paidToOwner_j44
    by_cases c : M (82 + 13 * r) = o
    · rw [if_pos (by rw [c]), paidTo_ok hA hC hM (by omega), bd_some, ll_add, nm_eq, iSu, nm_eq]
      unfold pow' at go ⊢
      rw [if_pos c] at go
      exact go
    · rw [if_neg (ine c (by omega) (by omega) h1 h2), iSu, nm_eq]
      have e : pow' M (Dc M) o r = 0 := if_neg c
      rw [e, Int.add_zero] at go
      exact go
theorem paidToOwner_ok {m : Mem} (hA : AK m x M) (hC : CLS m x M) (hM : WF M) {o : Int} (h1 : -2147483648 ≤ o) (h2 : o < 2147483648) : f0_paidToOwner m x (ii o) = some (ll (sm (rn M) (pow' M (Dc M) o))) := by
  have hrb := rn_bd hM.1
  unfold f0_paidToOwner
  rw [L0, l0]
  exact po13 hA hC hM h1 h2 (rn M) 0 FU (by omega) (by unfold FU; omega)
end
