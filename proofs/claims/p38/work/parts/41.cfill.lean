/-! the class clears -/
theorem gb0 : ∀ r, r < 12 → gb (ii 0) r = false := by decide +kernel
def Dc (M : WM) : DT := Dg M (ii 0) false
def FrA (x : Nat) (mm m' : Mem) : Prop := ∀ c, c ≠ x → (c < x + 20 ∨ x + 28 < c) → m' c = mm c
def FrQ (q : Nat) (mm m' : Mem) : Prop := ∀ c, c ≠ q → m' c = mm c
theorem FrQ.rf (q : Nat) (mm : Mem) : FrQ q mm mm := fun _ _ => rfl
theorem FrQ.u {q : Nat} {mm m : Mem} (h : FrQ q mm m) (k : Nat) (v : Int32) : FrQ q mm (up2 m q k v) := fun c hc => by
  rw [← h c hc]; funext j; exact up2_c _ _ _ _ hc
theorem FrQ.tr {q : Nat} {a b c : Mem} (h : FrQ q a b) (h2 : FrQ q b c) : FrQ q a c := fun x hx => by rw [h2 x hx, h x hx]
def AK (mm : Mem) (x : Nat) (M : WM) : Prop := Ob x 0 ∧ ZK mm (x + 1 + 1) M ∧ OK mm (x + 1 + 8) M
def LK (m : Mem) (x : Nat) (D : DT) : Prop := ∀ i, i < 4 * dm D → m (x + 24) i = ii (dU D i) ∧ ∃ v, (-2147483648 ≤ v ∧ v < 2147483648) ∧ m (x + 25) i = ii v ∧ (dU D i ≠ 0 → v = dJ D i)
section
variable {M : WM} {x : Nat}
theorem AK.fr {mm m' : Mem} (h : AK mm x M) (hf : ∀ c, x < c → c < x + 20 → m' c = mm c) : AK m' x M := ⟨h.1, zk_fr h.2.1 (fun c hc => hf _ (by omega) (by omega)), ok_fr h.2.2 (fun c hc => hf _ (by omega) (by omega))⟩
theorem ak_ln {mm : Mem} (h : AK mm x M) : ln (x + 20) = 6 ∧ ln (x + 21) = 6 ∧ ln (x + 22) = 6 ∧ ln (x + 23) = 48 ∧ ln (x + 24) = 48 ∧ ln (x + 25) = 48 ∧ ln (x + 26) = 6 ∧ ln (x + 27) = 6 ∧ ln (x + 28) = 6 := ln0 x h.1.1 h.1.2
theorem AK.fq {mm m' : Mem} (h : AK mm x M) {q : Nat} (hq : x + 20 ≤ q) (hf : FrQ q mm m') : AK m' x M := h.fr (fun c h1 h2 => hf c (by omega))
theorem LK.fr {m m' : Mem} {D : DT} (h : LK m x D) (h4 : m' (x + 24) = m (x + 24)) (h5 : m' (x + 25) = m (x + 25)) : LK m' x D := fun i hi => by
  rw [h4, h5]; exact h i hi
def Fr45 (x : Nat) (mm m' : Mem) : Prop := ∀ c, c ≠ x + 24 → c ≠ x + 25 → m' c = mm c
def lnk (m : Mem) (x : Nat) (M : WM) (i : Nat) : Prop := m (x + 24) i = ii (lu M (i / 4) (i % 4)) ∧ m (x + 25) i = ii (li M (i / 4) (i % 4) (flr M (i / 4)))
theorem r20 (hM : WF M) (k10 : Nat → Nat → Int32 → Mem → Option Mem) {r : Nat} (hr : r < rn M) : ∀ (d k n : Nat) (m : Mem), k + d = 4 → d < n → AK m x M → (∀ i, i < 4 * r + k → lnk m x M i) → ∃ m', Fr45 x m m' ∧ (∀ i, i < 4 * (r + 1) → lnk m' x M i) ∧ f0_readLines_l20 k10 n x (x + 1 + 8) (ii r) (ii k) m = k10 x (x + 1 + 8) (ii (r + 1 : Nat)) m' := by
  have hr12 : r < 12 := by have := rn_bd hM.1; omega
  have hw := wwr hM.1 hr
  intro d
  induction d with
  | zero =>
    intro k n m hk hdn hA hl
    obtain ⟨q, rfl⟩ : ∃ q, n = q + 1 := ⟨n - 1, by omega⟩
    refine ⟨m, fun _ _ _ => rfl, fun i hi => hl i (by omega), ?_⟩
    rw [f0_readLines_l20, l4, if_neg (inlt (by omega) (by omega) (by omega)), iSu, nm_eq]
  | succ d ih =>
    intro k n m hk hdn hA hl
    obtain ⟨q, rfl⟩ : ∃ q, n = q + 1 := ⟨n - 1, by omega⟩
    have hln := ak_ln hA
    rw [f0_readLines_l20, l4, if_pos (ilt (by omega) (by omega) (by omega)), f2_unitsOf_ok hA.2.2 hw hr12 (by omega), bd_some, ii_mul, ii_add, put_e m (k := 4 * r + k) (by omega) hln.2.2.2.2.1 (by omega) (by omega), bd_some]
    have A1 : AK (up2 m (x + 24) (4 * r + k) (ii (lu M r k))) x M := hA.fq (q := x + 24) (by omega) ((FrQ.rf _ m).u _ _)
    rw [f2_itsOf_ok A1.2.2 hM.1 hw hr12 (by omega), bd_some, put_e _ (k := 4 * r + k) (by omega) hln.2.2.2.2.2.1 (by omega) (by omega), bd_some, iSu, nm_eq]
    generalize hm2 : up2 (up2 m (x + 24) (4 * r + k) (ii (lu M r k))) (x + 25) (4 * r + k) (ii (li M r k (flr M r))) = m2
    have F : Fr45 x m m2 := fun c h1 h2 => by
      rw [← hm2]; funext j; rw [up2_c _ _ _ _ h2, up2_c _ _ _ _ h1]
    obtain ⟨m', f1, f2, f3⟩ := ih (k + 1) q m2 (by omega) (by omega) (hA.fr (fun c h1 h2 => F c (by omega) (by omega))) (fun i hi => by
      by_cases e : i = 4 * r + k
      · have e1 : i / 4 = r := by omega
        have e2 : i % 4 = k := by omega
        unfold lnk
        rw [e1, e2, e, ← hm2]
        exact ⟨by rw [up2_c _ _ _ _ (by omega), up2_at], by rw [up2_at]⟩
      · have a := hl i (by omega)
        unfold lnk
        rw [← hm2]
        exact ⟨by rw [up2_c _ _ _ _ (by omega), up2_k _ _ _ _ e]; exact a.1, by rw [up2_k _ _ _ _ e, up2_c _ _ _ _ (by omega)]; exact a.2⟩)
    exact ⟨m', fun c h1 h2 => by rw [f1 c h1 h2, F c h1 h2], f2, f3⟩
theorem r10 (hM : WF M) : ∀ (d r n : Nat) (m : Mem), r + d = rn M → d < n → AK m x M → (∀ i, i < 4 * r → lnk m x M i) → ∃ m', Fr45 x m m' ∧ (∀ i, i < 4 * rn M → lnk m' x M i) ∧ f0_readLines_l10 n x (x + 1 + 8) (ii r) m = some m' := by
  have hrb := rn_bd hM.1
  intro d
  induction d with
  | zero =>
    intro r n m hr hdn hA hl
    obtain ⟨q, rfl⟩ : ∃ q, n = q + 1 := ⟨n - 1, by omega⟩
    refine ⟨m, fun _ _ _ => rfl, fun i hi => hl i (by omega), ?_⟩
    rw [f0_readLines_l10, hA.2.2.n, rn_c hM.1, if_neg (inlt (by omega) (by omega) (by omega))]
  | succ d ih =>
    intro r n m hr hdn hA hl
    obtain ⟨q, rfl⟩ : ∃ q, n = q + 1 := ⟨n - 1, by omega⟩
    rw [f0_readLines_l10, hA.2.2.n, rn_c hM.1, if_pos (ilt (by omega) (by omega) (by omega)), l0]
    obtain ⟨m1, f1, f2, f3⟩ := r20 (x := x) hM (fun x0 x1 x2 mm => f0_readLines_l10 q x0 x1 x2 mm) (r := r) (by omega) 4 0 FU m (by omega) (by unfold FU; omega) hA hl
    obtain ⟨m2, g1, g2, g3⟩ := ih (r + 1) q m1 (by omega) (by omega) (hA.fr (fun c h1 h2 => f1 c (by omega) (by omega))) f2
    exact ⟨m2, fun c h1 h2 => by rw [g1 c h1 h2, f1 c h1 h2], g2, f3.trans g3⟩
theorem readLines_ok {mm : Mem} (hA : AK mm x M) (hM : WF M) : ∃ m', Fr45 x mm m' ∧ LK m' x (Dc M) ∧ f0_readLines mm x = some m' := by
  have hrb := rn_bd hM.1
  obtain ⟨m', f1, f2, f3⟩ := r10 (x := x) hM (rn M) 0 FU mm (by omega) (by unfold FU; omega) hA (fun i hi => by omega)
  refine ⟨m', f1, fun i hi => ?_, ?_⟩
  · have hi : i < 4 * rn M := hi
    have a := f2 i hi
    have hr : i / 4 < rn M := by omega
    have eU : dU (Dc M) i = lu M (i / 4) (i % 4) := by
      show Ug M (ii 0) i = _
      unfold Ug
      rw [if_pos hi, gb0 _ (by omega)]
      rfl
    refine ⟨by rw [eU]; exact a.1, _, li_bd hM.1 (flr_bd hM.1 (wwr hM.1 hr)), a.2, fun h => ?_⟩
    show _ = Jg M (ii 0) false i
    unfold Jg
    rw [if_neg (show ¬ Ug M (ii 0) i = 0 from h)]
    rfl
  · unfold f0_readLines
    rw [l0]
    exact f3
def tpf (M : WM) : Nat → Int
  | 0 => 0
  | z + 1 => max (tpf M z) (fpr M z)
theorem fpr_bd {z : Nat} (h : ZW M z) : 0 ≤ fpr M z ∧ fpr M z ≤ 9999 := by
  unfold fpr
  by_cases e : npt M z = 0
  · rw [if_pos e]; omega
  · rw [if_neg e]
    have := h.pt (k := 0) (by omega)
    omega
theorem tpf_bd (hM : WW M) {k : Nat} (hk : k ≤ zn M) : 0 ≤ tpf M k ∧ tpf M k ≤ 9999 ∧ ∀ z, z < k → fpr M z ≤ tpf M k := by
  induction k with
  | zero => exact ⟨Int.le_refl _, by show (0 : Int) ≤ 9999; omega, fun z hz => by omega⟩
  | succ k ih =>
    obtain ⟨a, b, c⟩ := ih (by omega)
    have f := fpr_bd (wwz hM (z := k) (by omega))
    refine ⟨by rw [tpf]; omega, by rw [tpf]; omega, fun z hz => ?_⟩
    rw [tpf]
    by_cases e : z = k
    · subst e; omega
    · have := c z (by omega)
      omega
def tpn (M : WM) : Nat := (tpf M (zn M)).toNat
theorem tpn_c (hM : WW M) : tpf M (zn M) = (tpn M : Int) ∧ tpn M ≤ 9999 := by
  have := tpf_bd hM (Nat.le_refl (zn M))
  unfold tpn
  omega
theorem tpn_Tp (hM : WF M) (g : Int32) (nf : Bool) : Tp (Dg M g nf) (tpn M) := by
  have a := tpn_c hM.1
  refine ⟨a.2, fun z hz => ?_⟩
  have hz : z < zn M := hz
  have b := (tpf_bd hM.1 (Nat.le_refl (zn M))).2.2 z hz
  exact Wt_top (wwz hM.1 hz) (by omega)
theorem rt7 (hM : WF M) : ∀ (d z n : Nat) (m : Mem), z + d = zn M → d < n → AK m x M → m x 11 = ii (tpf M z) → ∃ m', (∀ c, c ≠ x → m' c = m c) ∧ m' x 11 = ii (tpn M) ∧ f0_readTop_l7 n x (ii z) m = some m' := by
  have hb := zn_bd hM.1
  intro d
  induction d with
  | zero =>
    intro z n m hz hdn hA ht
    obtain ⟨q, rfl⟩ : ∃ q, n = q + 1 := ⟨n - 1, by omega⟩
    have e : z = zn M := by omega
    refine ⟨m, fun _ _ => rfl, by rw [ht, e, (tpn_c hM.1).1], ?_⟩
    rw [f0_readTop_l7, hA.2.1.n, zn_c hM.1, if_neg (inlt (by omega) (by omega) (by omega))]
  | succ d ih =>
    intro z n m hz hdn hA ht
    obtain ⟨q, rfl⟩ : ∃ q, n = q + 1 := ⟨n - 1, by omega⟩
    have hw := wwz hM.1 (z := z) (by omega)
    have f := fpr_bd hw
    have t := tpf_bd hM.1 (k := z) (by omega)
    rw [f0_readTop_l7, hA.2.1.n, zn_c hM.1, if_pos (ilt (by omega) (by omega) (by omega)), f5_firstPrice_ok hA.2.1 hw (by omega), bd_some, ht, mxi_ii (by omega) (by omega) (by omega) (by omega), nm_eq, nm_eq, iSu, nm_eq]
    obtain ⟨m', f1, f2, f3⟩ := ih (z + 1) q (up2 m x 11 (ii (max (tpf M z) (fpr M z)))) (by omega) (by omega) (hA.fr (fun c h1 h2 => by funext j; exact up2_c _ _ _ _ (by omega))) (by rw [up2_at, tpf])
    exact ⟨m', fun c hc => by rw [f1 c hc]; funext j; exact up2_c _ _ _ _ hc, f2, f3⟩
theorem readTop_ok {mm : Mem} (hA : AK mm x M) (hM : WF M) : ∃ m', (∀ c, c ≠ x → m' c = mm c) ∧ m' x 11 = ii (tpn M) ∧ f0_readTop mm x = some m' := by
  have hb := zn_bd hM.1
  obtain ⟨m', f1, f2, f3⟩ := rt7 (x := x) hM (zn M) 0 FU (up2 mm x 11 (ii 0)) (by omega) (by unfold FU; omega) (hA.fr (fun c h1 h2 => by funext j; exact up2_c _ _ _ _ (by omega))) (by rw [up2_at]; rfl)
  refine ⟨m', fun c hc => by rw [f1 c hc]; funext j; exact up2_c _ _ _ _ hc, f2, ?_⟩
  unfold f0_readTop
  rw [l0, nm_eq]
  exact f3
/-! levels of all zones from one on -/
def bel (D : DT) (q : Int) (i : Nat) : Int := if dJ D i < q then dU D i else 0
def owl (D : DT) (z : Nat) (q : Int) (i : Nat) : Int := if dz D (i / 4) = z ∧ dJ D i < q then dU D i else 0
theorem ub7 {m : Mem} {D : DT} (hL : LK m x D) (hln : ln (x + 24) = 48 ∧ ln (x + 25) = 48) (hm : dm D ≤ 12) {r : Nat} (hr : r < dm D) {q : Int} (h1 : 0 ≤ q) (h2 : q ≤ 10000) : ∀ (d k n : Nat), k + d = 4 → d < n → ∀ s : Int, f0_unitsBelow_l7 m n x (ii r) (ii q) (ii (s + (sm (4 * r + k) (bel D q) - sm (4 * r) (bel D q)))) (ii (4 * r + k : Nat)) = some (ii (s + (sm (4 * r + 4) (bel D q) - sm (4 * r) (bel D q)))) := by
  intro d
  induction d with
  | zero =>
    intro k n hk hdn s
    obtain ⟨p, rfl⟩ : ∃ p, n = p + 1 := ⟨n - 1, by omega⟩
    rw [f0_unitsBelow_l7, l4, ii_mul, ii_add, if_neg (inlt (by omega) (by omega) (by omega)), show 4 * r + k = 4 * r + 4 by omega]
  | succ d ih =>
    intro k n hk hdn s
    obtain ⟨p, rfl⟩ : ∃ p, n = p + 1 := ⟨n - 1, by omega⟩
    obtain ⟨a, v, vb, b, c⟩ := hL (4 * r + k) (by omega)
    have go := ih (k + 1) p (by omega) (by omega) s
    rw [← Nat.add_assoc, sm_s] at go
    rw [f0_unitsBelow_l7, l4, ii_mul, ii_add, if_pos (ilt (by omega) (by omega) (by omega)), at_i m hln.2 (by omega) (by omega), b, bd_some]
    unfold f0_unitsBelow_j42
    by_cases e : v < q
    · rw [if_pos (ilt e (by omega) (by omega)), at_i m hln.1 (by omega) (by omega), a, bd_some, ii_add, nm_eq, iSu, nm_eq]
      have e2 : bel D q (4 * r + k) = dU D (4 * r + k) := by
        unfold bel
        by_cases z : dU D (4 * r + k) = 0
        · rw [z]; by_cases y : dJ D (4 * r + k) < q
          · rw [if_pos y]
          · rw [if_neg y]
        · rw [← c z, if_pos e]
      rw [e2] at go
      have e3 : s + (sm (4 * r + k) (bel D q) - sm (4 * r) (bel D q)) + dU D (4 * r + k) = s + (sm (4 * r + k) (bel D q) + dU D (4 * r + k) - sm (4 * r) (bel D q)) := by omega
      rw [e3]
      exact go
    · rw [if_neg (inlt (by omega) (by omega) (by omega)), iSu, nm_eq]
      have e2 : bel D q (4 * r + k) = 0 := by
        unfold bel
        by_cases z : dU D (4 * r + k) = 0
        · rw [z]; by_cases y : dJ D (4 * r + k) < q
          · rw [if_pos y]
          · rw [if_neg y]
        · rw [← c z, if_neg e]
      rw [e2, Int.add_zero] at go
      exact go
theorem unitsBelow_ok {m : Mem} {D : DT} (hL : LK m x D) (hln : ln (x + 24) = 48 ∧ ln (x + 25) = 48) (hm : dm D ≤ 12) {r : Nat} (hr : r < dm D) {q : Int} (h1 : 0 ≤ q) (h2 : q ≤ 10000) : f0_unitsBelow m x (ii r) (ii q) = some (ii (sm (4 * (r + 1)) (bel D q) - sm (4 * r) (bel D q))) := by
  unfold f0_unitsBelow
  rw [l4, ii_mul, nm_eq, l0]
  have a := ub7 hL hln hm hr h1 h2 4 0 FU (by omega) (by unfold FU; omega) 0
  have e : (r : Int) * 4 = ((4 * r + 0 : Nat) : Int) := by omega
  rw [e]
  rw [show 4 * r + 0 = 4 * r by omega] at a ⊢
  rw [show 4 * (r + 1) = 4 * r + 4 by omega]
  simp only [Int.sub_self, Int.zero_add] at a
  exact a
theorem owl_step (D : DT) (z : Nat) (q : Int) {r : Nat} : sm (4 * (r + 1)) (owl D z q) = sm (4 * r) (owl D z q) + (if dz D r = z then sm (4 * (r + 1)) (bel D q) - sm (4 * r) (bel D q) else 0) := by
  have e : ∀ k, k < 4 → owl D z q (4 * r + k) = if dz D r = z then bel D q (4 * r + k) else 0 := by
    intro k hk
    unfold owl bel
    rw [show (4 * r + k) / 4 = r by omega]
    by_cases c : dz D r = z
    · rw [if_pos c]
      by_cases y : dJ D (4 * r + k) < q
      · rw [if_pos ⟨c, y⟩, if_pos y]
      · rw [if_neg (fun x => y x.2), if_neg y]
    · rw [if_neg c, if_neg (fun x => c x.1)]
  have a0 := e 0 (by omega)
  have a1 := e 1 (by omega)
  have a2 := e 2 (by omega)
  have a3 := e 3 (by omega)
  rw [show 4 * (r + 1) = 4 * r + 3 + 1 by omega, sm_s, sm_s (4 * r + 3) (bel D q), show 4 * r + 3 = 4 * r + 2 + 1 by omega, sm_s, sm_s (4 * r + 2) (bel D q), show 4 * r + 2 = 4 * r + 1 + 1 by omega, sm_s, sm_s (4 * r + 1) (bel D q), sm_s, sm_s (4 * r) (bel D q)]
  simp only [Nat.add_zero] at a0
  rw [show 4 * r + 1 + 1 = 4 * r + 2 by omega, show 4 * r + 2 + 1 = 4 * r + 3 by omega, a0, a1, a2, a3]
  by_cases c : dz D r = z
  · simp only [if_pos c]; omega
  · simp only [if_neg c]; omega
def rowq (x q : Nat) : Prop := q = x + 26 ∨ q = x + 27 ∨ q = x + 28
theorem ak_lq {mm : Mem} (h : AK mm x M) {q : Nat} (hq : rowq x q) : ln q = 6 := by
  have := ak_ln h
  rcases hq with rfl | rfl | rfl
  · exact this.2.2.2.2.2.2.1
  · exact this.2.2.2.2.2.2.2.1
  · exact this.2.2.2.2.2.2.2.2
theorem fl21 (hM : WF M) {q : Nat} (hq : rowq x q) {f : Nat} {p : Int} (hp1 : 0 ≤ p) (hp2 : p ≤ 10000) (x1 x2 : Int32) (hx2 : x2 = ii p) : ∀ (d z n : Nat) (m : Mem), z + d = zn M → d < n → f ≤ z → AK m x M → (∀ y, f ≤ y → y < z → m q y = ii (-(Wt M y p))) → ∃ m', FrQ q m m' ∧ (∀ y, f ≤ y → y < zn M → m' q y = ii (-(Wt M y p))) ∧ f0_fillLevels_l21 n x x1 x2 q (x + 1 + 1) (x + 1 + 8) (ii z) m = f0_fillLevels_l55 FU x x1 x2 q (x + 1 + 1) (x + 1 + 8) (ii 0) m' := by
  subst hx2
  have hb := zn_bd hM.1
  intro d
  induction d with
  | zero =>
    intro z n m hz hdn hf hA hy
    obtain ⟨k, rfl⟩ : ∃ k, n = k + 1 := ⟨n - 1, by omega⟩
    refine ⟨m, FrQ.rf q m, fun y h1 h2 => hy y h1 (by omega), ?_⟩
    rw [f0_fillLevels_l21, hA.2.1.n, zn_c hM.1, if_neg (inlt (by omega) (by omega) (by omega)), l0]
  | succ d ih =>
    intro z n m hz hdn hf hA hy
    obtain ⟨k, rfl⟩ : ∃ k, n = k + 1 := ⟨n - 1, by omega⟩
    have hw := wwz hM.1 (z := z) (by omega)
    rw [f0_fillLevels_l21, hA.2.1.n, zn_c hM.1, if_pos (ilt (by omega) (by omega) (by omega)), f5_wantedFrom_ok hA.2.1 hw (by omega) hp1 hp2, bd_some, ii_neg, put_i m (ak_lq hA hq) (by omega) (by omega), bd_some, iSu, nm_eq]
    have F := (FrQ.rf q m).u z (ii (-(Wt M z p)))
    obtain ⟨m', f1, f2, f3⟩ := ih (z + 1) k _ (by omega) (by omega) (by omega) (hA.fq (q := q) (by unfold rowq at hq; omega) F) (fun y h1 h2 => by
      by_cases e : y = z
      · rw [e, up2_at]
      · rw [up2_k _ _ _ _ e]; exact hy y h1 (by omega))
    exact ⟨m', F.tr f1, f2, f3⟩
theorem fl55 (hM : WF M) {q : Nat} (hq : rowq x q) {f : Nat} (hf : f < zn M) {p : Int} (hp1 : 0 ≤ p) (hp2 : p ≤ 10000) : ∀ (d r n : Nat) (m : Mem), r + d = rn M → d < n → AK m x M → LK m x (Dc M) → (∀ y, f ≤ y → y < zn M → m q y = ii (-(Wt M y p) + sm (4 * r) (owl (Dc M) y p))) → ∃ m', FrQ q m m' ∧ (∀ y, f ≤ y → y < zn M → m' q y = ii (-(Wt M y p) + ow (Dc M) y p)) ∧ f0_fillLevels_l55 n x (ii f) (ii p) q (x + 1 + 1) (x + 1 + 8) (ii r) m = f0_fillLevels_l118 FU (ii f) q (x + 1 + 1) (ii ((zn M : Int) - 1)) m' := by
  have hb := zn_bd hM.1
  have hrb := rn_bd hM.1
  intro d
  induction d with
  | zero =>
    intro r n m hr hdn hA hL hy
    obtain ⟨k, rfl⟩ : ∃ k, n = k + 1 := ⟨n - 1, by omega⟩
    refine ⟨m, FrQ.rf q m, fun y h1 h2 => ?_, ?_⟩
    · rw [hy y h1 h2, show r = rn M by omega]
      rfl
    · rw [f0_fillLevels_l55, hA.2.2.n, rn_c hM.1, if_neg (inlt (by omega) (by omega) (by omega)), hA.2.1.n, zn_c hM.1, l1, ii_sub, nm_eq]
  | succ d ih =>
    intro r n m hr hdn hA hL hy
    obtain ⟨k, rfl⟩ : ∃ k, n = k + 1 := ⟨n - 1, by omega⟩
    have hw := wwr hM.1 (r := r) (by omega)
    have o := hw.1
    have zc := zn_c hM.1
    have hln := ak_ln hA
    have eo : M (79 + 13 * r) = (dz (Dc M) r : Int) := by
      show M (79 + 13 * r) = ((M (79 + 13 * r)).toNat : Int)
      omega
    rw [f0_fillLevels_l55, hA.2.2.n, rn_c hM.1, if_pos (ilt (by omega) (by omega) (by omega)), o_zn hA.2.2 (by omega), bd_some, eo]
    unfold f0_fillLevels_j103
    by_cases c : (dz (Dc M) r : Int) < f
    · rw [if_pos (ilt c (by omega) (by omega)), iSu, nm_eq]
      exact ih (r + 1) k m (by omega) (by omega) hA hL (fun y h1 h2 => by
        rw [owl_step, if_neg (by omega), Int.add_zero]; exact hy y h1 h2)
    · have hzq : dz (Dc M) r < zn M := by omega
      rw [if_neg (inlt (by omega) (by omega) (by omega)), at_i m (ak_lq hA hq) (by omega) (by omega), bd_some, unitsBelow_ok hL ⟨hln.2.2.2.2.1, hln.2.2.2.2.2.1⟩ hrb (show r < dm (Dc M) by show r < rn M; omega) hp1 hp2, bd_some, hy _ (by omega) hzq, ii_add, put_i m (ak_lq hA hq) (by omega) (by omega), bd_some, iSu, nm_eq]
      have F := (FrQ.rf q m).u (dz (Dc M) r) (ii (-(Wt M (dz (Dc M) r) p) + sm (4 * r) (owl (Dc M) (dz (Dc M) r) p) + (sm (4 * (r + 1)) (bel (Dc M) p) - sm (4 * r) (bel (Dc M) p))))
      have nq : q ≠ x + 24 ∧ q ≠ x + 25 := by unfold rowq at hq; omega
      obtain ⟨m', f1, f2, f3⟩ := ih (r + 1) k _ (by omega) (by omega) (hA.fq (q := q) (by unfold rowq at hq; omega) F) (hL.fr (F _ (fun e => nq.1 e.symm)) (F _ (fun e => nq.2 e.symm))) (fun y h1 h2 => by
        rw [owl_step]
        by_cases e : y = dz (Dc M) r
        · rw [e, up2_at, if_pos rfl]; congr 1; omega
        · rw [up2_k _ _ _ _ e, if_neg (fun h => e h.symm), Int.add_zero]; exact hy y h1 h2)
      exact ⟨m', F.tr f1, f2, f3⟩
theorem fl118 (hM : WF M) {q : Nat} (hq : rowq x q) {f : Nat} {p : Int} : ∀ (d z n : Nat) (m : Mem), z = f + d → d < n → z < zn M → AK m x M → (∀ y, f ≤ y → y < zn M → m q y = ii (ow (Dc M) y p - Wt M y p + (sm (zn M) (inn (Dc M) y p) - sm (z + 1) (inn (Dc M) y p)))) → ∃ m', FrQ q m m' ∧ (∀ y, f ≤ y → y < zn M → m' q y = ii (Lz (Dc M) y p)) ∧ f0_fillLevels_l118 n (ii f) q (x + 1 + 1) (ii z) m = some m' := by
  have hb := zn_bd hM.1
  have hD : WD (Dc M) := Dg_WD hM (ii 0) false
  intro d
  induction d with
  | zero =>
    intro z n m hz hdn hzn hA hy
    obtain ⟨k, rfl⟩ : ∃ k, n = k + 1 := ⟨n - 1, by omega⟩
    refine ⟨m, FrQ.rf q m, fun y h1 h2 => ?_, ?_⟩
    · rw [hy y h1 h2, Lz_eq hD (show y < dn (Dc M) from h2)]
      have e : sm (z + 1) (inn (Dc M) y p) = 0 := sm_zero (fun i hi => by unfold inn; rw [if_neg (by omega)])
      rw [e, Int.sub_zero]
      rfl
    · rw [f0_fillLevels_l118, if_neg (inlt (by omega) (by omega) (by omega))]
  | succ d ih =>
    intro z n m hz hdn hzn hA hy
    obtain ⟨k, rfl⟩ : ∃ k, n = k + 1 := ⟨n - 1, by omega⟩
    have hw := wwz hM.1 hzn
    have o := hw.1 (by omega)
    have eo : M (7 + 12 * z) = (dou (Dc M) z : Int) := by
      show M (7 + 12 * z) = ((M (7 + 12 * z)).toNat : Int)
      omega
    have hoz : dou (Dc M) z < z := by omega
    have ez : (z : Int) + -1 = ((z - 1 : Nat) : Int) := by omega
    have hyz : m q z = ii (Lz (Dc M) z p) := by
      rw [hy z (by omega) hzn, Lz_eq hD (show z < dn (Dc M) from hzn), smi_0, Int.sub_zero]
      rfl
    have b := Lz_bd hD (z := z) hzn p
    rw [f0_fillLevels_l118, if_pos (ilt (by omega) (by omega) (by omega)), z_out hA.2.1 (by omega) (by omega), bd_some, eo]
    unfold f0_fillLevels_j168
    by_cases c : (dou (Dc M) z : Int) < f
    · rw [if_pos (ilt c (by omega) (by omega)), l1, ii_neg, ii_add, nm_eq, ez]
      exact ih (z - 1) k m (by omega) (by omega) (by omega) hA (fun y h1 h2 => by
        rw [hy y h1 h2, show z - 1 + 1 = z by omega, sm_s]
        have e : inn (Dc M) y p z = 0 := by unfold inn; rw [if_neg (by omega)]
        rw [e, Int.add_zero])
    · have hon : dou (Dc M) z < zn M := by omega
      rw [if_neg (inlt (by omega) (by omega) (by omega)), at_i m (ak_lq hA hq) (by omega) (by omega), bd_some, at_i m (ak_lq hA hq) (by omega) (by omega), bd_some, hyz, f5_cut_ok hA.2.1 hw (by omega) (by omega) (by omega), bd_some, hy _ (by omega) hon, ii_add, put_i m (ak_lq hA hq) (by omega) (by omega), bd_some, l1, ii_neg, ii_add, nm_eq, ez]
      have ecu : max (-(M (8 + 12 * z))) (min (M (9 + 12 * z)) (Lz (Dc M) z p)) = cu (Dc M) z (Lz (Dc M) z p) := rfl
      rw [ecu]
      have F := (FrQ.rf q m).u (dou (Dc M) z) (ii (ow (Dc M) (dou (Dc M) z) p - Wt M (dou (Dc M) z) p + (sm (zn M) (inn (Dc M) (dou (Dc M) z) p) - sm (z + 1) (inn (Dc M) (dou (Dc M) z) p)) + cu (Dc M) z (Lz (Dc M) z p)))
      obtain ⟨m', f1, f2, f3⟩ := ih (z - 1) k _ (by omega) (by omega) (by omega) (hA.fq (q := q) (by unfold rowq at hq; omega) F) (fun y h1 h2 => by
        rw [show z - 1 + 1 = z by omega]
        by_cases e : y = dou (Dc M) z
        · have ei : inn (Dc M) (dou (Dc M) z) p z = cu (Dc M) z (Lz (Dc M) z p) := by unfold inn; exact if_pos ⟨hoz, rfl⟩
          rw [e, up2_at, sm_s, ei]
          congr 1
          omega
        · have ei : inn (Dc M) y p z = 0 := by unfold inn; rw [if_neg (fun h => e h.2.symm)]
          rw [up2_k _ _ _ _ e, hy y h1 h2, sm_s, ei, Int.add_zero])
      exact ⟨m', F.tr f1, f2, f3⟩
theorem fill_ok {mm : Mem} (hA : AK mm x M) (hL : LK mm x (Dc M)) (hM : WF M) {q : Nat} (hq : rowq x q) {f : Nat} (hf : f < zn M) {p : Int} (hp1 : 0 ≤ p) (hp2 : p ≤ 10000) : ∃ m', FrQ q mm m' ∧ (∀ y, f ≤ y → y < zn M → m' q y = ii (Lz (Dc M) y p)) ∧ f0_fillLevels mm x (ii f) (ii p) q = some m' := by
  have hb := zn_bd hM.1
  have hrb := rn_bd hM.1
  have nq : q ≠ x + 24 ∧ q ≠ x + 25 ∧ x + 20 ≤ q := by unfold rowq at hq; omega
  obtain ⟨m1, f1, f2, f3⟩ := fl21 (x := x) hM hq (f := f) hp1 hp2 (ii f) (ii p) rfl (zn M - f) f FU mm (by omega) (by unfold FU; omega) (Nat.le_refl _) hA (fun y h1 h2 => by omega)
  obtain ⟨m2, g1, g2, g3⟩ := fl55 (x := x) hM hq (f := f) hf hp1 hp2 (rn M) 0 FU m1 (by omega) (by unfold FU; omega) (hA.fq nq.2.2 f1) (hL.fr (f1 _ (fun e => nq.1 e.symm)) (f1 _ (fun e => nq.2.1 e.symm))) (fun y h1 h2 => by
    rw [f2 y h1 h2, show 4 * 0 = 0 by omega, sm_0, Int.add_zero])
  obtain ⟨m3, k1, k2, k3⟩ := fl118 (x := x) hM hq (f := f) (p := p) (zn M - 1 - f) (zn M - 1) FU m2 (by omega) (by unfold FU; omega) (by omega) ((hA.fq nq.2.2 f1).fq nq.2.2 g1) (fun y h1 h2 => by
    rw [g2 y h1 h2, show zn M - 1 + 1 = zn M by omega]
    congr 1
    omega)
  refine ⟨m3, (f1.tr g1).tr k1, k2, ?_⟩
  unfold f0_fillLevels
  have e : ((zn M : Int) - 1) = ((zn M - 1 : Nat) : Int) := by omega
  rw [e] at g3
  exact f3.trans (g3.trans k3)
end
