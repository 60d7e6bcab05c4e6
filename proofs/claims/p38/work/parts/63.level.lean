/-! levels, their cost, the least price -/
section
variable {A A1 A0 : AS} {dm m1 dm0 : DM} {J : Nat → Nat} {M : WM}
def ouz (M : WM) (c : Nat) : Nat := (M (7 + 12 * c)).toNat
def lvc (own : Nat → Int) (M : WM) : Nat → Nat → Int
  | 0, _ => 0
  | d + 1, z => own z + sm (zn M) (fun c => if z < c ∧ ouz M c = z then lvc own M d c else 0)
theorem lvc_s (own : Nat → Int) (M : WM) (d z : Nat) : lvc own M (d + 1) z = own z + sm (zn M) (fun c => if z < c ∧ ouz M c = z then lvc own M d c else 0) := rfl
theorem lvc_st (own : Nat → Int) (M : WM) : ∀ (d z : Nat), z < zn M → zn M ≤ z + d → lvc own M d z = lvc own M (d + 1) z := by
  intro d
  induction d with
  | zero => intro z h1 h2; omega
  | succ d ih =>
    intro z h1 h2
    rw [lvc_s, lvc_s]
    congr 1
    refine sm_congr (fun c hc => ?_)
    by_cases h : z < c ∧ ouz M c = z
    · rw [if_pos h, if_pos h]
      exact ih c hc (by omega)
    · rw [if_neg h, if_neg h]
theorem lvc_up (own : Nat → Int) (M : WM) {z : Nat} (hz : z < zn M) : ∀ (e d : Nat), zn M ≤ z + d → lvc own M d z = lvc own M (d + e) z := by
  intro e
  induction e with
  | zero => intro d _; rfl
  | succ e ih =>
    intro d h
    rw [ih d h]
    exact lvc_st own M (d + e) z hz (by omega)
theorem lvc_nn {own : Nat → Int} (h : ∀ z, z < zn M → 0 ≤ own z) : ∀ (d z : Nat), z < zn M → 0 ≤ lvc own M d z := by
  intro d
  induction d with
  | zero => intro z _; exact Int.le_refl _
  | succ d ih =>
    intro z hz
    rw [lvc_s]
    have := h z hz
    have := sm_nonneg (n := zn M) (f := fun c => if z < c ∧ ouz M c = z then lvc own M d c else 0) (fun c hc => by
      by_cases h : z < c ∧ ouz M c = z
      · rw [if_pos h]; exact ih c hc
      · rw [if_neg h]; exact Int.le_refl _)
    omega
theorem lvc_tail {own : Nat → Int} (hou : ∀ c, 1 ≤ c → c < zn M → ouz M c < c) : ∀ (d z : Nat), z + d = zn M → sm (zn M) (fun c => if z ≤ c ∧ (c = z ∨ ouz M c < z) then lvc own M (zn M) c else 0) = sm (zn M) (fun c => if z ≤ c then own c else 0) := by
  intro d
  induction d with
  | zero =>
    intro z hz
    rw [sm_zero (fun c hc => if_neg (by omega)), sm_zero (fun c hc => if_neg (by omega))]
  | succ d ih =>
    intro z hz
    have h1 := ih (z + 1) (by omega)
    have hz' : z < zn M := by omega
    have e1 : sm (zn M) (fun c => if z ≤ c ∧ (c = z ∨ ouz M c < z) then lvc own M (zn M) c else 0) = lvc own M (zn M) z + sm (zn M) (fun c => if z < c ∧ ouz M c < z then lvc own M (zn M) c else 0) := by
      have hs := sm_one hz' (fun c => if c = z then lvc own M (zn M) z else 0) (fun i _ h => if_neg h)
      simp only [if_true] at hs
      rw [← hs, ← sm_add]
      refine sm_congr (fun c hc => ?_)
      by_cases e : c = z
      · subst e
        rw [if_pos ⟨Nat.le_refl _, Or.inl rfl⟩, if_pos rfl, if_neg (by omega)]
        omega
      · rw [if_neg e]
        by_cases h : z < c ∧ ouz M c < z
        · rw [if_pos h, if_pos ⟨by omega, Or.inr h.2⟩]
          omega
        · rw [if_neg h, if_neg (by omega)]
          rfl
    have e2 : lvc own M (zn M) z = own z + sm (zn M) (fun c => if z < c ∧ ouz M c = z then lvc own M (zn M) c else 0) := by
      rw [lvc_up own M hz' 1 (zn M) (by omega), lvc_s]
    have e3 : sm (zn M) (fun c => if z < c ∧ ouz M c = z then lvc own M (zn M) c else 0) + sm (zn M) (fun c => if z < c ∧ ouz M c < z then lvc own M (zn M) c else 0) = sm (zn M) (fun c => if z + 1 ≤ c ∧ (c = z + 1 ∨ ouz M c < z + 1) then lvc own M (zn M) c else 0) := by
      rw [← sm_add]
      refine sm_congr (fun c hc => ?_)
      by_cases h0 : z < c
      · have := hou c (by omega) hc
        by_cases ha : ouz M c = z
        · rw [if_pos ⟨h0, ha⟩, if_neg (by omega), if_pos ⟨by omega, Or.inr (by omega)⟩]
          omega
        · rw [if_neg (fun q => ha q.2)]
          by_cases hb : ouz M c < z
          · rw [if_pos ⟨h0, hb⟩, if_pos ⟨by omega, Or.inr (by omega)⟩]
            omega
          · rw [if_neg (fun q => hb q.2), if_neg (by omega)]
            rfl
      · rw [if_neg (fun q => h0 q.1), if_neg (fun q => h0 q.1), if_neg (by omega)]
        rfl
    have e4 : sm (zn M) (fun c => if z ≤ c then own c else 0) = own z + sm (zn M) (fun c => if z + 1 ≤ c then own c else 0) := by
      have hs := sm_one hz' (fun c => if c = z then own z else 0) (fun i _ h => if_neg h)
      simp only [if_true] at hs
      rw [← hs, ← sm_add]
      refine sm_congr (fun c hc => ?_)
      by_cases e : c = z
      · subst e
        rw [if_pos (Nat.le_refl _), if_pos rfl, if_neg (by omega)]
        omega
      · rw [if_neg e]
        by_cases h : z ≤ c
        · rw [if_pos h, if_pos (by omega)]; omega
        · rw [if_neg h, if_neg (by omega)]; rfl
    omega
theorem lvc_le {own : Nat → Int} (h0 : ∀ z, z < zn M → 0 ≤ own z) (hou : ∀ c, 1 ≤ c → c < zn M → ouz M c < c) {d z : Nat} (hz : z < zn M) (hd : zn M ≤ z + d) : lvc own M d z ≤ sm (zn M) own := by
  have e0 : lvc own M d z = lvc own M (zn M) z := by
    have h1 := lvc_up own M hz (zn M) d hd
    have h2 := lvc_up own M hz d (zn M) (by omega)
    rw [h1, h2, Nat.add_comm]
  rw [e0]
  have h1 := lvc_tail (own := own) hou (zn M - z) z (by omega)
  have h2 : lvc own M (zn M) z ≤ sm (zn M) (fun c => if z ≤ c ∧ (c = z ∨ ouz M c < z) then lvc own M (zn M) c else 0) := by
    have hs := sm_one hz (fun c => if c = z then lvc own M (zn M) z else 0) (fun i _ h => if_neg h)
    simp only [if_true] at hs
    rw [← hs]
    refine sm_le (fun c hc => ?_)
    by_cases e : c = z
    · subst e
      rw [if_pos rfl, if_pos ⟨Nat.le_refl _, Or.inl rfl⟩]
      exact Int.le_refl _
    · rw [if_neg e]
      by_cases h : z ≤ c ∧ (c = z ∨ ouz M c < z)
      · rw [if_pos h]; exact lvc_nn h0 _ c hc
      · rw [if_neg h]; exact Int.le_refl _
  have h3 : sm (zn M) (fun c => if z ≤ c then own c else 0) ≤ sm (zn M) own := by
    refine sm_le (fun c hc => ?_)
    by_cases h : z ≤ c
    · rw [if_pos h]; exact Int.le_refl _
    · rw [if_neg h]; exact h0 c hc
  omega
theorem sm_swap (n m : Nat) (f : Nat → Nat → Int) : sm n (fun i => sm m (fun j => f i j)) = sm m (fun j => sm n (fun i => f i j)) := by
  induction n with
  | zero => rw [sm_0, sm_zero (fun j _ => sm_0 _)]
  | succ n ih =>
    rw [sm_s, ih, ← sm_add]
    rfl
def ocz (M : WM) (z : Nat) : Int := 1 + sm (rn M) (fun r => if M (79 + 13 * r) = z then 8 else 0)
def osz (M : WM) (z : Nat) : Int := wan M z + sm (rn M) (fun r => if M (79 + 13 * r) = z then 24 else 0)
/-- small: what the law draws -/
def Sml (M : WM) : Prop := zn M ≤ 5 ∧ rn M ≤ 6 ∧ ∀ z, z < zn M → wan M z ≤ 270
theorem sm_in (hW : WF M) (v : Int) : sm (zn M) (fun z => sm (rn M) (fun r => if M (79 + 13 * r) = z then v else 0)) = rn M * v := by
  rw [sm_swap, ← sm_const]
  refine sm_congr (fun r hr => ?_)
  have hw := wwr hW.1 hr
  have h1 := hw.1
  rw [zn_c hW.1] at h1
  have := sm_one (n := zn M) (k := (M (79 + 13 * r)).toNat) (by omega) (fun z => if M (79 + 13 * r) = z then v else 0) (fun i _ h => if_neg (by omega))
  rw [this, if_pos (by omega)]
theorem oc_sum (hW : WF M) (hs : Sml M) : sm (zn M) (ocz M) ≤ 53 := by
  have e : sm (zn M) (ocz M) = sm (zn M) (fun _ => 1) + sm (zn M) (fun z => sm (rn M) (fun r => if M (79 + 13 * r) = z then 8 else 0)) := sm_add _ _ _
  rw [e, sm_in hW, sm_const]
  have := hs.1
  have := hs.2.1
  omega
theorem os_sum (hW : WF M) (hs : Sml M) : sm (zn M) (osz M) ≤ 1494 := by
  have e : sm (zn M) (osz M) = sm (zn M) (wan M) + sm (zn M) (fun z => sm (rn M) (fun r => if M (79 + 13 * r) = z then 24 else 0)) := sm_add _ _ _
  rw [e, sm_in hW]
  have h1 := sm_le (n := zn M) (f := wan M) (g := fun _ => 270) hs.2.2
  rw [sm_const] at h1
  have := hs.1
  have := hs.2.1
  omega
theorem oc_nn (z : Nat) : 0 ≤ ocz M z := by
  unfold ocz
  have := sm_nonneg (n := rn M) (f := fun r => if M (79 + 13 * r) = z then (8 : Int) else 0) (fun r _ => by by_cases h : M (79 + 13 * r) = z <;> simp [h])
  omega
theorem os_nn (hW : WF M) {z : Nat} (hz : z < zn M) : 0 ≤ osz M z := by
  unfold osz
  have := sm_nonneg (n := rn M) (f := fun r => if M (79 + 13 * r) = z then (24 : Int) else 0) (fun r _ => by by_cases h : M (79 + 13 * r) = z <;> simp [h])
  have := wan_le (wwz hW.1 hz)
  omega
theorem ou_lt (hW : WF M) {c : Nat} (h1 : 1 ≤ c) (h2 : c < zn M) : (0 ≤ M (7 + 12 * c) ∧ M (7 + 12 * c) < c) ∧ ouz M c < c := by
  have h := (wwz hW.1 h2).1 h1
  refine ⟨h, ?_⟩
  unfold ouz
  omega
theorem lvc_c (hW : WF M) (hs : Sml M) {d z : Nat} (hz : z < zn M) (hd : zn M ≤ z + d) : lvc (ocz M) M d z ≤ 53 ∧ lvc (osz M) M d z ≤ 1494 :=
  ⟨Int.le_trans (lvc_le (fun z _ => oc_nn z) (fun c h1 h2 => (ou_lt hW h1 h2).2) hz hd) (oc_sum hW hs), Int.le_trans (lvc_le (fun z hz => os_nn hW hz) (fun c h1 h2 => (ou_lt hW h1 h2).2) hz hd) (os_sum hW hs)⟩
/-! level -/
/-- what a line puts in -/
def gow (M : WM) (z : Nat) (p : Int) (i : Nat) : Int := if dz (Dc M) (i / 4) = z ∧ dJ (Dc M) i < p then dU (Dc M) i else 0
theorem ow_gow (M : WM) (z : Nat) (p : Int) : ow (Dc M) z p = sm (4 * rn M) (gow M z p) := rfl
theorem gb_0 (r : Nat) : gb (ii 0) r = false := by
  unfold gb
  rw [show ii 0 = (0 : Int32) by decide, Int32.zero_shiftRight]
  decide
theorem gow_in (hW : WF M) {z r k : Nat} (hr : r < rn M) (hk : k < 4) (hz : M (79 + 13 * r) = z) (p : Int) : gow M z p (4 * r + k) = if lj M r k < p then lu M r k else 0 := by
  have hw := wwr hW.1 hr
  have hU : dU (Dc M) (4 * r + k) = lu M r k := by
    show Ug M (ii 0) (4 * r + k) = _
    rw [Ug_at hr hk, gb_0, if_neg (by decide)]
  have hJ : dJ (Dc M) (4 * r + k) = if lu M r k = 0 then 0 else li M r k (flr M r) := by
    show Jg M (ii 0) false (4 * r + k) = _
    rw [Jg_at hr hk, Ug_at hr hk, gb_0, if_neg (show ¬ false = true by decide), if_neg (show ¬ false = true by decide)]
  have hd : dz (Dc M) ((4 * r + k) / 4) = z := by
    rw [show (4 * r + k) / 4 = r by omega]
    show (M (79 + 13 * r)).toNat = z
    omega
  unfold gow
  rw [hd, hU, hJ]
  by_cases h0 : lu M r k = 0
  · rw [h0]
    simp
  · rw [if_neg h0]
    have : lj M r k = li M r k (flr M r) := by
      unfold lj
      by_cases c : k < stp M r
      · rw [if_pos c]
      · rw [if_neg c]
        rcases lu_there h0 with h3 | h3
        · unfold li
          rw [if_pos h3]
        · exact absurd h3 c
    rw [this]
    simp
theorem gow_out {z r k : Nat} (hW : WF M) (hr : r < rn M) (hk : k < 4) (hz : M (79 + 13 * r) ≠ z) (p : Int) : gow M z p (4 * r + k) = 0 := by
  have hw := (wwr hW.1 hr).1
  unfold gow
  rw [if_neg]
  rintro ⟨h, -⟩
  rw [show (4 * r + k) / 4 = r by omega] at h
  have h' : (M (79 + 13 * r)).toNat = z := h
  omega
theorem lj_bd (hW : WF M) {r : Nat} (hr : r < rn M) (k : Nat) : 0 ≤ lj M r k ∧ lj M r k ≤ 9999 := by
  have hw := wwr hW.1 hr
  have hfl : 0 ≤ flr M r ∧ flr M r ≤ 9999 := by
    have h3 := hw.2.2.1
    unfold flr
    exact hW.1.fl (by omega)
  unfold lj
  by_cases c : k < stp M r
  · rw [if_pos c]; exact li_bd2 hW.1 hw hfl (Or.inr c)
  · rw [if_neg c]; omega
theorem gow_bd (hW : WF M) (z : Nat) (p : Int) : ∀ i, i ≤ 4 * rn M → 0 ≤ sm i (gow M z p) ∧ sm i (gow M z p) ≤ 500 * i := by
  have hD : WD (Dc M) := Dg_WD hW (ii 0) false
  intro i
  induction i with
  | zero => intro _; rw [sm_0]; omega
  | succ i ih =>
    intro h
    have := ih (by omega)
    have hu := hD.uj (i := i) (by show i < 4 * rn M; omega)
    have h1 : 0 ≤ gow M z p i ∧ gow M z p i ≤ 500 := by
      unfold gow
      by_cases c : dz (Dc M) (i / 4) = z ∧ dJ (Dc M) i < p
      · rw [if_pos c]; exact hu.1
      · rw [if_neg c]; omega
    rw [sm_s]
    omega
abbrev LevF : Type := AS → DM → Nat → Int32 → Int32 → Int32 → Option (Int32 × AS × DM)
theorem lv37 (lev : LevF) (hW : WF M) {z : Nat} (hz : z < zn M) {p h : Int} (hp : -1 ≤ p ∧ p ≤ 9999) (hh : h = 0 ∨ h = 1) (hM : MkR A0 dm0 J M) {r : Nat} (hr : r < rn M) {a0 : Int} (ha0 : -100000 ≤ a0 ∧ a0 ≤ 100000) {c s : Int} (hzr : M (79 + 13 * r) = z) {k22 : Nat → Int32 → Int32 → Int32 → Int32 → Int32 → AS → DM → Option (Int32 × AS × DM)} {P : Int32 × AS × DM → Prop}
    (hk22 : ∀ (A' : AS) (dm' : DM), Ext A0 dm0 A' dm' → cst A0 A' (c + 8) (s + 24) → Go (k22 (J 0) (ii (z : Int)) (ii p) (ii h) (ii (a0 + sm (4 * (r + 1)) (gow M z (p + h)))) (ii ((r : Int) + 1)) A' dm') prI A' P) :
    ∀ (d k f : Nat) (A : AS) (dm : DM), k + d = 4 → d < f → Ext A0 dm0 A dm → cst A0 A (c + 2 * k) (s + 6 * k) → Go (bX8_level_l37 lev k22 f (J 0) (ii (z : Int)) (ii p) (ii h) (ii (a0 + sm (4 * r + k) (gow M z (p + h)))) (ii (r : Int)) (ii (k : Int)) A dm) prI A P := by
  have hrb := hW.1.rn
  have hrc := rn_c hW.1
  have hzb := hW.1.zn
  have hzc := zn_c hW.1
  intro d
  induction d with
  | zero =>
    intro k f A dm h1 h2 hx hc
    obtain ⟨f, rfl⟩ : ∃ g, f = g + 1 := ⟨f - 1, by omega⟩
    have e : k = 4 := by omega
    subst e
    rw [bX8_level_l37, l4, if_neg (by rw [ii_lt (by omega) (by omega) (by omega) (by omega)]; omega)]
    unfold bX8_level_j110
    rw [nm_eq, l1, ii_add]
    exact hk22 A dm hx (hc.mo (by omega) (by omega))
  | succ d ih =>
    intro k f A dm h1 h2 hx hc
    obtain ⟨f, rfl⟩ : ∃ g, f = g + 1 := ⟨f - 1, by omega⟩
    have hM1 := hM.ext hx
    have hk : k < 4 := by omega
    have hg := gow_in hW hr hk hzr (p + h)
    have hlb := lj_bd hW hr k
    have hlu := lu_nn hW hr k
    have hsb := gow_bd hW z (p + h) (4 * r + k) (by omega)
    rw [bX8_level_l37, l4, if_pos (by rw [ii_lt (by omega) (by omega) (by omega) (by omega)]; omega), gkd_i hM1.o, gtr_i hM1.f2, gkd_i hM1.rl.k, bAL_get_ok hM1.rl rfl hr, bd_some, l0, (hM1.r hr).rd2 (a := 0) (i := 0) rfl (by omega), show rrw M r 0 = M (79 + 13 * r) from rfl, if_pos (by rw [hzr]), gkd_i hM1.o]
    refine Go.call (line_ok hM1 hW hr hk) (fun x hx9 _ => ?_)
    obtain ⟨g1, g2, g3, -⟩ := hx9
    have hx2 := hx.tr g1
    have hc2 : cst A0 x.2.1 (c + 2 * (k + 1 : Nat)) (s + 6 * (k + 1 : Nat)) := (hc.tr g3).mo (by omega) (by omega)
    have hnext := ih (k + 1) f x.2.1 x.2.2 (by omega) (by omega) hx2 hc2
    rw [← Nat.add_assoc, sm_s, hg] at hnext
    rw [l1, g2.rd (a := 1) (i := 1) rfl (by omega), show lrw M r k 1 = lj M r k from rfl]
    have hput : (lj M r k < p + h) → Go (bX8_level_j93 lev k22 (fun x0 x1 x2 x3 x4 x5 x6 A9 dm9 => bX8_level_l37 lev k22 f x0 x1 x2 x3 x4 x5 x6 A9 dm9) (J 0) (ii (z : Int)) (ii p) (ii h) (ii (r : Int)) (ii (k : Int)) x.1 (ii (a0 + sm (4 * r + k) (gow M z (p + h)))) x.2.1 x.2.2) prI x.2.1 P := by
      intro hc9
      unfold bX8_level_j93 bX8_level_j101
      rw [l0, g2.rd (a := 0) (i := 0) rfl (by omega), nm_eq, nm_eq, l1, ii_add, ii_add, show lrw M r k 0 = lu M r k from rfl]
      rw [if_pos hc9, ← Int.add_assoc] at hnext
      exact hnext
    have hno : (¬ lj M r k < p + h) → Go (bX8_level_j100 lev k22 (fun x0 x1 x2 x3 x4 x5 x6 A9 dm9 => bX8_level_l37 lev k22 f x0 x1 x2 x3 x4 x5 x6 A9 dm9) (J 0) (ii (z : Int)) (ii p) (ii h) (ii (r : Int)) (ii (k : Int)) (ii (a0 + sm (4 * r + k) (gow M z (p + h)))) x.2.1 x.2.2) prI x.2.1 P := by
      intro hc9
      unfold bX8_level_j100 bX8_level_j101
      rw [nm_eq, nm_eq, l0, l1, ii_add, ii_add]
      rw [if_neg hc9, ← Int.add_assoc] at hnext
      exact hnext
    rw [iflt (by omega) (by omega) (by omega) (by omega)]
    by_cases c1 : lj M r k < p
    · rw [if_pos c1]
      exact hput (by omega)
    · rw [if_neg c1, ifeq (by omega) (by omega) (by omega) (by omega)]
      rcases hh with hh | hh
      · rw [if_pos hh]
        exact hno (by omega)
      · rw [if_neg (by omega), g2.rd (a := 1) (i := 1) rfl (by omega), show lrw M r k 1 = lj M r k from rfl, ifeq (by omega) (by omega) (by omega) (by omega)]
        by_cases c2 : lj M r k = p
        · rw [if_pos c2]
          exact hput (by omega)
        · rw [if_neg c2]
          exact hno (by omega)
theorem lv22 (lev : LevF) (hW : WF M) {z : Nat} (hz : z < zn M) {p h : Int} (hp : -1 ≤ p ∧ p ≤ 9999) (hh : h = 0 ∨ h = 1) (hM : MkR A0 dm0 J M) {a0 : Int} (ha0 : -100000 ≤ a0 ∧ a0 ≤ 100000) {c s : Int} {P : Int32 × AS × DM → Prop}
    (hk : ∀ (A' : AS) (dm' : DM), Ext A0 dm0 A' dm' → cst A0 A' (c + sm (rn M) (fun r => if M (79 + 13 * r) = z then 8 else 0)) (s + sm (rn M) (fun r => if M (79 + 13 * r) = z then 24 else 0)) → Go (bX8_level_l121 lev FU (J 0) (ii (z : Int)) (ii p) (ii h) (ii (a0 + ow (Dc M) z (p + h))) (ii ((z : Int) + 1)) A' dm') prI A' P) :
    ∀ (d r f : Nat) (A : AS) (dm : DM), r + d = rn M → d < f → Ext A0 dm0 A dm → cst A0 A (c + sm r (fun r => if M (79 + 13 * r) = z then 8 else 0)) (s + sm r (fun r => if M (79 + 13 * r) = z then 24 else 0)) → Go (bX8_level_l22 lev f (J 0) (ii (z : Int)) (ii p) (ii h) (ii (a0 + sm (4 * r) (gow M z (p + h)))) (ii (r : Int)) A dm) prI A P := by
  have hrb := hW.1.rn
  have hrc := rn_c hW.1
  have hzb := hW.1.zn
  have hzc := zn_c hW.1
  intro d
  induction d with
  | zero =>
    intro r f A dm h1 h2 hx hc
    obtain ⟨f, rfl⟩ : ∃ g, f = g + 1 := ⟨f - 1, by omega⟩
    have hM1 := hM.ext hx
    have e : r = rn M := by omega
    subst e
    rw [bX8_level_l22, gkd_i hM1.o, gtr_i hM1.f2, gkd_i hM1.rl.k, bAL_size_ok hM1.rl, bd_some, if_neg (by rw [ii_lt (by omega) (by omega) (by omega) (by omega)]; omega), nm_eq, l1, ii_add, ← ow_gow]
    exact hk A dm hx hc
  | succ d ih =>
    intro r f A dm h1 h2 hx hc
    obtain ⟨f, rfl⟩ : ∃ g, f = g + 1 := ⟨f - 1, by omega⟩
    have hM1 := hM.ext hx
    have hr : r < rn M := by omega
    have hzr := (wwr hW.1 hr).1
    rw [bX8_level_l22, gkd_i hM1.o, gtr_i hM1.f2, gkd_i hM1.rl.k, bAL_size_ok hM1.rl, bd_some, if_pos (by rw [ii_lt (by omega) (by omega) (by omega) (by omega)]; omega), l0]
    by_cases e : M (79 + 13 * r) = z
    · have := lv37 lev hW hz hp hh hM hr ha0 (c := c + sm r (fun r => if M (79 + 13 * r) = z then 8 else 0)) (s := s + sm r (fun r => if M (79 + 13 * r) = z then 24 else 0)) e (k22 := fun x0 x1 x2 x3 x4 x5 A9 dm9 => bX8_level_l22 lev f x0 x1 x2 x3 x4 x5 A9 dm9) (P := P) (fun A' dm' hx' hc' => ?_) 4 0 FU A dm (by omega) (by have : FU = 20000 := rfl; omega) hx (hc.mo (by omega) (by omega))
      · exact this
      · refine ih (r + 1) f A' dm' (by omega) (by omega) hx' ?_
        rw [sm_s, sm_s, if_pos e, if_pos e]
        exact hc'.mo (by omega) (by omega)
    · rw [show FU = 19999 + 1 from rfl, bX8_level_l37, l4, if_pos (by decide), gkd_i hM1.o, gtr_i hM1.f2, gkd_i hM1.rl.k, bAL_get_ok hM1.rl rfl hr, bd_some, l0, (hM1.r hr).rd2 (a := 0) (i := 0) rfl (by omega), show rrw M r 0 = M (79 + 13 * r) from rfl, if_neg (by rw [ii_eq (by omega) (by omega) (by omega) (by omega)]; exact e)]
      unfold bX8_level_j110
      rw [nm_eq, l1, ii_add]
      have := ih (r + 1) f A dm (by omega) (by omega) hx (by
        rw [sm_s, sm_s, if_neg e, if_neg e]
        exact hc.mo (by omega) (by omega))
      rw [show 4 * (r + 1) = 4 * r + 3 + 1 by omega, sm_s, sm_s, sm_s, sm_s, gow_out hW hr (k := 3) (by omega) e (p + h), gow_out hW hr (k := 2) (by omega) e (p + h), gow_out hW hr (k := 1) (by omega) e (p + h), show gow M z (p + h) (4 * r) = 0 from gow_out hW hr (k := 0) (by omega) e (p + h), Int.add_zero, Int.add_zero, Int.add_zero, Int.add_zero] at this
      exact this
theorem lv121 (lev : LevF) (hW : WF M) {z d0 : Nat} (hz : z < zn M) {p h : Int} (hp : -1 ≤ p ∧ p ≤ 9999) (hh : h = 0 ∨ h = 1) (hM : MkR A0 dm0 J M) {a0 : Int} (ha0 : -30000 ≤ a0 ∧ a0 ≤ 30000) {c s : Int}
    (hlev : ∀ (c : Nat) (A : AS) (dm : DM), MkR A dm J M → z < c → c < zn M → Go (lev A dm (J 0) (ii (c : Int)) (ii p) (ii h)) prI A (fun y => y.1 = ii (Lz (Dc M) c (p + h)) ∧ Ext A dm y.2.1 y.2.2 ∧ cst A y.2.1 (lvc (ocz M) M d0 c) (lvc (osz M) M d0 c))) :
    ∀ (d y f : Nat) (A : AS) (dm : DM), y + d = zn M → d < f → z < y → Ext A0 dm0 A dm → cst A0 A (c + sm y (fun c => if z < c ∧ ouz M c = z then lvc (ocz M) M d0 c else 0)) (s + sm y (fun c => if z < c ∧ ouz M c = z then lvc (osz M) M d0 c else 0)) → Go (bX8_level_l121 lev f (J 0) (ii (z : Int)) (ii p) (ii h) (ii (a0 + sm y (inn (Dc M) z (p + h)))) (ii (y : Int)) A dm) prI A (fun w => w.1 = ii (a0 + sm (zn M) (inn (Dc M) z (p + h))) ∧ Ext A0 dm0 w.2.1 w.2.2 ∧ cst A0 w.2.1 (c + sm (zn M) (fun c => if z < c ∧ ouz M c = z then lvc (ocz M) M d0 c else 0)) (s + sm (zn M) (fun c => if z < c ∧ ouz M c = z then lvc (osz M) M d0 c else 0))) := by
  have hzb := hW.1.zn
  have hzc := zn_c hW.1
  have hD : WD (Dc M) := Dg_WD hW (ii 0) false
  intro d
  induction d with
  | zero =>
    intro y f A dm h1 h2 h3 hx hc
    obtain ⟨f, rfl⟩ : ∃ g, f = g + 1 := ⟨f - 1, by omega⟩
    have hM1 := hM.ext hx
    have e : y = zn M := by omega
    subst e
    rw [bX8_level_l121, gkd_i hM1.o, gtr_i hM1.f0, gkd_i hM1.zl.k, bAL_size_ok hM1.zl, bd_some, if_neg (by rw [ii_lt (by omega) (by omega) (by omega) (by omega)]; omega)]
    exact Go.mk (le2.rf _) ⟨rfl, hx, hc⟩
  | succ d ih =>
    intro y f A dm h1 h2 h3 hx hc
    obtain ⟨f, rfl⟩ : ∃ g, f = g + 1 := ⟨f - 1, by omega⟩
    have hM1 := hM.ext hx
    have hy : y < zn M := by omega
    have hou := ou_lt hW (c := y) (by omega) hy
    have hdou : dou (Dc M) y = ouz M y := rfl
    rw [bX8_level_l121, gkd_i hM1.o, gtr_i hM1.f0, gkd_i hM1.zl.k, bAL_size_ok hM1.zl, bd_some, if_pos (by rw [ii_lt (by omega) (by omega) (by omega) (by omega)]; omega), gkd_i hM1.o, gtr_i hM1.f0, gkd_i hM1.zl.k, bAL_get_ok hM1.zl rfl hy, bd_some, l0, (hM1.z hy).rd2 (a := 0) (i := 0) rfl (by omega), show zrw M y 0 = M (7 + 12 * y) from rfl, ifeq (by omega) (by omega) (by omega) (by omega)]
    have hib := smi_bd hD z (p + h) (k := y) (by show y ≤ zn M; omega)
    by_cases e : M (7 + 12 * y) = z
    · have hou2 : ouz M y = z := by unfold ouz; omega
      rw [if_pos e, gkd_i hM1.o]
      refine Go.call (hlev y A dm hM1 h3 hy) (fun x hx9 _ => ?_)
      obtain ⟨g1, g2, g3⟩ := hx9
      have hx2 := hx.tr g2
      have hM2 := hM.ext hx2
      have hLb := Lz_bd hD (z := y) hy (p + h)
      rw [gkd_i hM2.o, g1, cut_ok hM2 hW hy (by omega) (by omega), bd_some]
      unfold bX8_level_j171
      rw [nm_eq, nm_eq, l1, ii_add, ii_add]
      have hin : inn (Dc M) z (p + h) y = cu (Dc M) y (Lz (Dc M) y (p + h)) := by
        unfold inn
        rw [hdou, if_pos ⟨h3, hou2⟩]
      have := ih (y + 1) f x.2.1 x.2.2 (by omega) (by omega) (by omega) hx2 (by
        rw [sm_s, sm_s, if_pos ⟨h3, hou2⟩, if_pos ⟨h3, hou2⟩]
        exact (hc.tr g3).mo (by omega) (by omega))
      rw [sm_s, hin, ← Int.add_assoc] at this
      exact this
    · have hou2 : ouz M y ≠ z := by unfold ouz; omega
      rw [if_neg e]
      unfold bX8_level_j171
      rw [nm_eq, nm_eq, l1, ii_add, ii_add]
      have hin : inn (Dc M) z (p + h) y = 0 := by
        unfold inn
        rw [hdou, if_neg (fun q => hou2 q.2)]
      have := ih (y + 1) f A dm (by omega) (by omega) (by omega) hx (by
        rw [sm_s, sm_s, if_neg (fun q => hou2 q.2), if_neg (fun q => hou2 q.2)]
        exact hc.mo (by omega) (by omega))
      rw [sm_s, hin, ← Int.add_assoc] at this
      exact this
theorem level_ok (hW : WF M) {p h : Int} (hp : -1 ≤ p ∧ p ≤ 9999) (hh : h = 0 ∨ h = 1) : ∀ (d z : Nat) (A : AS) (dm : DM), MkR A dm J M → z < zn M → zn M ≤ z + d → Go (bX8_level d A dm (J 0) (ii (z : Int)) (ii p) (ii h)) prI A (fun y => y.1 = ii (Lz (Dc M) z (p + h)) ∧ Ext A dm y.2.1 y.2.2 ∧ cst A y.2.1 (lvc (ocz M) M d z) (lvc (osz M) M d z)) := by
  have hrb := hW.1.rn
  have hrc := rn_c hW.1
  have hzb := hW.1.zn
  have hzc := zn_c hW.1
  have hD : WD (Dc M) := Dg_WD hW (ii 0) false
  intro d
  induction d with
  | zero => intro z A dm _ h1 h2; omega
  | succ d ih =>
    intro z A dm hM hz hd
    have hw := wwz hW.1 hz
    have hWt := Wt_bd hw (p + h)
    have go : Go (bX8_level_j13 (bX8_level d) (J 0) (ii (z : Int)) (ii p) (ii h) (ii (p + h)) (ii (z : Int)) (J 0) A dm) prI A (fun y => y.1 = ii (Lz (Dc M) z (p + h)) ∧ Ext A dm y.2.1 y.2.2 ∧ cst A y.2.1 (lvc (ocz M) M (d + 1) z) (lvc (osz M) M (d + 1) z)) := by
      unfold bX8_level_j13
      rw [gkd_i hM.o]
      refine Go.call (wants_ok hM hW hz (by omega) (by omega)) (fun x hx9 _ => ?_)
      obtain ⟨g1, g2, g3⟩ := hx9
      rw [nm_eq, g1, ii_neg, l0]
      have h22 := lv22 (bX8_level d) hW hz hp hh hM (a0 := -Wt M z (p + h)) (by omega) (c := 1) (s := wan M z) (P := fun y => y.1 = ii (Lz (Dc M) z (p + h)) ∧ Ext A dm y.2.1 y.2.2 ∧ cst A y.2.1 (lvc (ocz M) M (d + 1) z) (lvc (osz M) M (d + 1) z)) (fun A' dm' hx' hc' => ?_) (rn M) 0 FU x.2.1 x.2.2 (by omega) (by have : FU = 20000 := rfl; omega) g2 (g3.mo (by rw [sm_0]; omega) (by rw [sm_0]; omega))
      · rw [show (4 * 0 : Nat) = 0 from rfl, sm_0, Int.add_zero] at h22
        exact h22
      · have hob := ow_bd hD z (p + h)
        have hi0 : ∀ f : Nat → Int, (∀ c, c ≤ z → f c = 0) → sm (z + 1) f = 0 := fun f hf => sm_zero (fun c hc => hf c (by omega))
        have h121 := lv121 (bX8_level d) hW (d0 := d) hz hp hh hM (a0 := -Wt M z (p + h) + ow (Dc M) z (p + h)) (by omega) (c := ocz M z) (s := osz M z) (fun c A dm hM9 h8 h9 => ih c A dm hM9 h9 (by omega)) (zn M - (z + 1)) (z + 1) FU A' dm' (by omega) (by have : FU = 20000 := rfl; omega) (by omega) hx' (by
          rw [hi0 _ (fun c hc => if_neg (by omega)), hi0 _ (fun c hc => if_neg (by omega))]
          exact hc'.mo (by unfold ocz; omega) (by unfold osz; omega))
        rw [hi0 (inn (Dc M) z (p + h)) (fun c hc => by unfold inn; exact if_neg (by omega)), Int.add_zero] at h121
        refine Go.imp h121 (fun y hy => ⟨?_, hy.2.1, ?_⟩)
        · rw [hy.1, Lz_eq hD hz (p + h)]
          congr 1
          show -Wt M z (p + h) + ow (Dc M) z (p + h) + sm (zn M) (inn (Dc M) z (p + h)) = ow (Dc M) z (p + h) - Wt M z (p + h) + sm (zn M) (inn (Dc M) z (p + h))
          omega
        · rw [lvc_s, lvc_s]
          exact hy.2.2
    rw [bX8_level, l0, ifeq (by omega) (by omega) (by omega) (by omega)]
    rcases hh with hh | hh
    · rw [if_pos hh]
      have e : p + h = p := by omega
      rw [e] at go ⊢
      exact go
    · rw [if_neg (by omega), l1, ii_add]
      rw [hh] at go ⊢
      exact go
theorem level6 (hW : WF M) (hs : Sml M) {p h : Int} (hp : -1 ≤ p ∧ p ≤ 9999) (hh : h = 0 ∨ h = 1) {z : Nat} (hM : MkR A dm J M) (hz : z < zn M) : Go (bX8_level 6 A dm (J 0) (ii (z : Int)) (ii p) (ii h)) prI A (fun y => y.1 = ii (Lz (Dc M) z (p + h)) ∧ Ext A dm y.2.1 y.2.2 ∧ cst A y.2.1 53 1494) := by
  have h5 := hs.1
  have hl := lvc_c hW hs (d := 6) hz (by omega)
  exact Go.imp (level_ok hW hp hh 6 z A dm hM hz (by omega)) (fun y hy => ⟨hy.1, hy.2.1, hy.2.2.mo hl.1 hl.2⟩)
/-! the least price -/
theorem lpq7 (hW : WF M) (hs : Sml M) {z : Nat} (hz : z < zn M) {nt : Int} (hn : -200000 ≤ nt ∧ nt ≤ 200000) (hM : MkR A0 dm0 J M) : ∀ (j f : Nat) (a b c s : Int) (A : AS) (dm : DM), j < f → -1 ≤ a → a < b → b ≤ 9999 → b - a ≤ 2 ^ j → (a = -1 ∨ Lz (Dc M) z (a + 1) < nt) → (b = 9999 ∨ nt ≤ Lz (Dc M) z (b + 1)) → Ext A0 dm0 A dm → cst A0 A c s → Go (bX8_leastPrice_l7 f (J 0) (ii (z : Int)) (ii nt) (ii a) (ii b) A dm) prI A (fun y => y.1 = ii (lp (Dc M) z nt) ∧ Ext A0 dm0 y.2.1 y.2.2 ∧ cst A0 y.2.1 (c + 53 * j) (s + 1494 * j)) := by
  have hD : WD (Dc M) := Dg_WD hW (ii 0) false
  have hend : ∀ (a b : Int), -1 ≤ a → b = a + 1 → b ≤ 9999 → (a = -1 ∨ Lz (Dc M) z (a + 1) < nt) → (b = 9999 ∨ nt ≤ Lz (Dc M) z (b + 1)) → b = (lp (Dc M) z nt : Int) := by
    intro a b h1 h2 h3 h4 h5
    have hbef : ∀ q : Nat, (q : Int) < b → Lz (Dc M) z ((q : Int) + 1) < nt := by
      intro q hq
      rcases h4 with h4 | h4
      · omega
      · have := Lz_mn hD hz (p := (q : Int) + 1) (q := a + 1) (by omega)
        omega
    obtain ⟨n, rfl⟩ := Int.eq_ofNat_of_zero_le (show 0 ≤ b by omega)
    by_cases e : n = 9999
    · subst e
      have hle := lp_le (Dc M) z nt
      by_cases e2 : lp (Dc M) z nt = 9999
      · rw [e2]
      · exfalso
        have h6 := ffl_at (fun q => nt ≤ Lz (Dc M) z ((q : Int) + 1)) 9999 0 (by unfold lp at e2 hle; omega)
        have h7 := hbef (lp (Dc M) z nt) (by omega)
        unfold lp at h7
        omega
    · rw [lp_un (p := n) (by omega) (by rcases h5 with h5 | h5 <;> omega) (fun q hq => hbef q (by omega))]
  intro j
  induction j with
  | zero =>
    intro f a b c s A dm h1 h2 h3 h4 h5 h6 h7 hx hc
    obtain ⟨f, rfl⟩ : ∃ g, f = g + 1 := ⟨f - 1, by omega⟩
    have e : b = a + 1 := by
      have : (2 : Int) ^ 0 = 1 := rfl
      omega
    rw [bX8_leastPrice_l7, l1, ii_sub, if_neg (by rw [ii_lt (by omega) (by omega) (by omega) (by omega)]; omega), hend a b h2 e h4 h6 h7]
    exact Go.mk (le2.rf _) ⟨rfl, hx, hc.mo (by omega) (by omega)⟩
  | succ j ih =>
    intro f a b c s A dm h1 h2 h3 h4 h5 h6 h7 hx hc
    obtain ⟨f, rfl⟩ : ∃ g, f = g + 1 := ⟨f - 1, by omega⟩
    by_cases e : b = a + 1
    · rw [bX8_leastPrice_l7, l1, ii_sub, if_neg (by rw [ii_lt (by omega) (by omega) (by omega) (by omega)]; omega), hend a b h2 e h4 h6 h7]
      exact Go.mk (le2.rf _) ⟨rfl, hx, hc.mo (by omega) (by omega)⟩
    · have hM1 := hM.ext hx
      have hpow : (2 : Int) ^ (j + 1) = 2 * 2 ^ j := by rw [Int.pow_succ]; omega
      rw [bX8_leastPrice_l7, l1, ii_sub, if_pos (by rw [ii_lt (by omega) (by omega) (by omega) (by omega)]; omega), l2, dvz_ii (by omega) (by omega) (by omega), nm_eq, ii_add, ii_div (by omega) (by omega) (by omega) (by omega), gkd_i hM1.o]
      refine Go.call (level6 hW hs (p := (a + b) / 2) (h := 1) (by omega) (Or.inr rfl) hM1 hz) (fun x hx9 _ => ?_)
      obtain ⟨g1, g2, g3⟩ := hx9
      have hLb := Lz_bd hD (z := z) hz ((a + b) / 2 + 1)
      rw [g1, iflt (by omega) (by omega) (by omega) (by omega)]
      unfold bX8_leastPrice_j45
      by_cases c1 : Lz (Dc M) z ((a + b) / 2 + 1) < nt
      · rw [if_pos c1]
        exact Go.imp (ih f ((a + b) / 2) b _ _ x.2.1 x.2.2 (by omega) (by omega) (by omega) (by omega) (by omega) (Or.inr c1) h7 (hx.tr g2) (hc.tr g3)) (fun y hy => ⟨hy.1, hy.2.1, hy.2.2.mo (by omega) (by omega)⟩)
      · rw [if_neg c1]
        exact Go.imp (ih f a ((a + b) / 2) _ _ x.2.1 x.2.2 (by omega) (by omega) (by omega) (by omega) (by omega) h6 (Or.inr (by omega)) (hx.tr g2) (hc.tr g3)) (fun y hy => ⟨hy.1, hy.2.1, hy.2.2.mo (by omega) (by omega)⟩)
theorem least_ok (hW : WF M) (hs : Sml M) {z : Nat} (hz : z < zn M) {nt : Int} (hn : -200000 ≤ nt ∧ nt ≤ 200000) (hM : MkR A dm J M) : Go (bX8_leastPrice A dm (J 0) (ii (z : Int)) (ii nt)) prI A (fun y => y.1 = ii (lp (Dc M) z nt) ∧ Ext A dm y.2.1 y.2.2 ∧ cst A y.2.1 742 20916) := by
  unfold bX8_leastPrice
  rw [show (-1 : Int32) = ii (-1) by decide, l9999]
  exact Go.imp (lpq7 hW hs hz hn hM 14 FU (-1) 9999 0 0 A dm (by have : FU = 20000 := rfl; omega) (by omega) (by omega) (by omega) (by decide) (Or.inl rfl) (Or.inl rfl) (Ext.rf A dm) (cst.rf A)) (fun y hy => ⟨hy.1, hy.2.1, hy.2.2.mo (by decide) (by decide)⟩)
end
