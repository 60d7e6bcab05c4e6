/-! how a market is cleared, over the numbers alone -/
abbrev DT : Type := Nat × (Nat → Nat) × (Nat → Int) × (Nat → Int) × (Nat → Int → Int) × Nat × (Nat → Nat) × (Nat → Int) × (Nat → Int)
def dn (D : DT) : Nat := D.1
def dou (D : DT) : Nat → Nat := D.2.1
def din (D : DT) : Nat → Int := D.2.2.1
def dot (D : DT) : Nat → Int := D.2.2.2.1
def dW (D : DT) : Nat → Int → Int := D.2.2.2.2.1
def dm (D : DT) : Nat := D.2.2.2.2.2.1
def dz (D : DT) : Nat → Nat := D.2.2.2.2.2.2.1
def dU (D : DT) : Nat → Int := D.2.2.2.2.2.2.2.1
def dJ (D : DT) : Nat → Int := D.2.2.2.2.2.2.2.2
def WD (D : DT) : Prop := (1 ≤ dn D ∧ dn D ≤ 6) ∧ (∀ z, 1 ≤ z → z < dn D → dou D z < z) ∧ (∀ z, z < dn D → (0 ≤ din D z ∧ din D z ≤ 9999) ∧ (0 ≤ dot D z ∧ dot D z ≤ 9999)) ∧ (∀ z, z < dn D → ∀ p, 0 ≤ dW D z p ∧ dW D z p ≤ 2000) ∧ (∀ z, z < dn D → ∀ p q, p ≤ q → dW D z q ≤ dW D z p) ∧ (∀ z, z < dn D → dW D z 10000 = 0) ∧ dm D ≤ 12 ∧ (∀ i, i < 4 * dm D → (0 ≤ dU D i ∧ dU D i ≤ 500) ∧ (0 ≤ dJ D i ∧ dJ D i ≤ 9999))
section
variable {D : DT}
theorem WD.n (h : WD D) : 1 ≤ dn D ∧ dn D ≤ 6 := h.1
theorem WD.ou (h : WD D) {z : Nat} (h1 : 1 ≤ z) (h2 : z < dn D) : dou D z < z := h.2.1 z h1 h2
theorem WD.io (h : WD D) {z : Nat} (hz : z < dn D) : (0 ≤ din D z ∧ din D z ≤ 9999) ∧ (0 ≤ dot D z ∧ dot D z ≤ 9999) := h.2.2.1 z hz
theorem WD.wb (h : WD D) {z : Nat} (hz : z < dn D) (p : Int) : 0 ≤ dW D z p ∧ dW D z p ≤ 2000 := h.2.2.2.1 z hz p
theorem WD.wm (h : WD D) {z : Nat} (hz : z < dn D) {p q : Int} (hpq : p ≤ q) : dW D z q ≤ dW D z p := h.2.2.2.2.1 z hz p q hpq
theorem WD.wt (h : WD D) {z : Nat} (hz : z < dn D) : dW D z 10000 = 0 := h.2.2.2.2.2.1 z hz
theorem WD.m (h : WD D) : dm D ≤ 12 := h.2.2.2.2.2.2.1
theorem WD.uj (h : WD D) {i : Nat} (hi : i < 4 * dm D) : (0 ≤ dU D i ∧ dU D i ≤ 500) ∧ (0 ≤ dJ D i ∧ dJ D i ≤ 9999) := h.2.2.2.2.2.2.2 i hi
end
def ow (D : DT) (z : Nat) (p : Int) : Int := sm (4 * dm D) (fun i => if dz D (i / 4) = z ∧ dJ D i < p then dU D i else 0)
def cu (D : DT) (z : Nat) (a : Int) : Int := max (-(din D z)) (min (dot D z) a)
def lvf (D : DT) (p : Int) : Nat → Nat → Int
  | 0, _ => 0
  | d + 1, z => ow D z p - dW D z p + sm (dn D) (fun c => if z < c ∧ dou D c = z then cu D c (lvf D p d c) else 0)
def Lz (D : DT) (z : Nat) (p : Int) : Int := lvf D p 6 z
def inn (D : DT) (z : Nat) (p : Int) (c : Nat) : Int := if z < c ∧ dou D c = z then cu D c (Lz D c p) else 0
section
variable {D : DT}
theorem ow_mono (h : WD D) (z : Nat) {p q : Int} (hpq : p ≤ q) : ow D z p ≤ ow D z q := by
  unfold ow
  refine sm_le (fun i hi => ?_)
  have := (h.uj hi).1
  by_cases c : dz D (i / 4) = z ∧ dJ D i < p
  · rw [if_pos c, if_pos ⟨c.1, by omega⟩]; omega
  · rw [if_neg c]
    by_cases c2 : dz D (i / 4) = z ∧ dJ D i < q
    · rw [if_pos c2]; omega
    · rw [if_neg c2]; omega
theorem ow_bd (h : WD D) (z : Nat) (p : Int) : 0 ≤ ow D z p ∧ ow D z p ≤ 24000 := by
  unfold ow
  have hm := h.m
  constructor
  · refine sm_nonneg (fun i hi => ?_)
    have := (h.uj hi).1
    by_cases c : dz D (i / 4) = z ∧ dJ D i < p
    · rw [if_pos c]; omega
    · rw [if_neg c]; omega
  · have h1 : sm (4 * dm D) (fun i => if dz D (i / 4) = z ∧ dJ D i < p then dU D i else 0) ≤ sm (4 * dm D) (fun _ => 500) := sm_le (fun i hi => by
      have := (h.uj hi).1
      by_cases c : dz D (i / 4) = z ∧ dJ D i < p
      · rw [if_pos c]; omega
      · rw [if_neg c]; omega)
    rw [sm_const] at h1
    omega
theorem ow_0 (h : WD D) (z : Nat) {p : Int} (hp : p ≤ 0) : ow D z p = 0 := by
  unfold ow
  refine sm_zero (fun i hi => ?_)
  have := (h.uj hi).2
  rw [if_neg (by omega)]
theorem cu_mono (z : Nat) {a b : Int} (hab : a ≤ b) : cu D z a ≤ cu D z b := by unfold cu; omega
theorem cu_lip (z : Nat) {a b : Int} (hab : a ≤ b) : cu D z b ≤ cu D z a + (b - a) := by unfold cu; omega
theorem cu_bd (h : WD D) {z : Nat} (hz : z < dn D) (a : Int) : -9999 ≤ cu D z a ∧ cu D z a ≤ 9999 := by
  have := h.io hz
  unfold cu
  omega
theorem lvf_st (p : Int) : ∀ (d z : Nat), z < dn D → dn D ≤ z + d → lvf D p d z = lvf D p (d + 1) z := by
  intro d
  induction d with
  | zero => intro z h1 h2; omega
  | succ d ih =>
    intro z h1 hz
    rw [lvf, lvf]
    congr 1
    refine sm_congr (fun c hc => ?_)
    by_cases e : z < c ∧ dou D c = z
    · rw [if_pos e, if_pos e, ih c hc (by omega)]
    · rw [if_neg e, if_neg e]
theorem Lz_eq (h : WD D) {z : Nat} (hz : z < dn D) (p : Int) : Lz D z p = ow D z p - dW D z p + sm (dn D) (inn D z p) := by
  have hn := h.n
  unfold Lz
  rw [lvf_st p 6 z hz (by omega), lvf]
  congr 1
theorem Lz_mono (h : WD D) {p q : Int} (hpq : p ≤ q) : ∀ (d z : Nat), z < dn D → dn D ≤ z + d → Lz D z p ≤ Lz D z q := by
  intro d
  induction d with
  | zero => intro z h1 h2; omega
  | succ d ih =>
    intro z hz hd
    rw [Lz_eq h hz, Lz_eq h hz]
    have a := ow_mono h z hpq
    have b := h.wm hz hpq
    have c : sm (dn D) (inn D z p) ≤ sm (dn D) (inn D z q) := sm_le (fun c hc => by
      unfold inn
      by_cases e : z < c ∧ dou D c = z
      · rw [if_pos e, if_pos e]
        exact cu_mono c (ih c hc (by omega))
      · rw [if_neg e, if_neg e]; exact Int.le_refl _)
    omega
theorem Lz_mn (h : WD D) {z : Nat} (hz : z < dn D) {p q : Int} (hpq : p ≤ q) : Lz D z p ≤ Lz D z q := Lz_mono h hpq 6 z hz (by have := h.n; omega)
theorem inn_bd (h : WD D) (z : Nat) (p : Int) {c : Nat} (hc : c < dn D) : -9999 ≤ inn D z p c ∧ inn D z p c ≤ 9999 := by
  unfold inn
  by_cases e : z < c ∧ dou D c = z
  · rw [if_pos e]; exact cu_bd h hc _
  · rw [if_neg e]; omega
theorem smi_bd (h : WD D) (z : Nat) (p : Int) {k : Nat} (hk : k ≤ dn D) : -60000 ≤ sm k (inn D z p) ∧ sm k (inn D z p) ≤ 60000 := by
  have hn := h.n
  have a : sm k (inn D z p) ≤ sm k (fun _ => 9999) := sm_le (fun c hc => (inn_bd h z p (by omega)).2)
  have b : sm k (fun _ => (-9999 : Int)) ≤ sm k (inn D z p) := sm_le (fun c hc => (inn_bd h z p (by omega)).1)
  rw [sm_const] at a b
  omega
theorem Lz_bd (h : WD D) {z : Nat} (hz : z < dn D) (p : Int) : -100000 ≤ Lz D z p ∧ Lz D z p ≤ 100000 := by
  rw [Lz_eq h hz]
  have a := ow_bd h z p
  have b := h.wb hz p
  have c := smi_bd h z p (Nat.le_refl _)
  omega
theorem Lz_le0 (h : WD D) {p : Int} (hp : p ≤ 0) : ∀ (d z : Nat), z < dn D → dn D ≤ z + d → Lz D z p ≤ 0 := by
  intro d
  induction d with
  | zero => intro z h1 h2; omega
  | succ d ih =>
    intro z hz hd
    rw [Lz_eq h hz, ow_0 h z hp]
    have b := h.wb hz p
    have c : sm (dn D) (inn D z p) ≤ sm (dn D) (fun _ => 0) := sm_le (fun c hc => by
      unfold inn
      by_cases e : z < c ∧ dou D c = z
      · rw [if_pos e]
        have a1 := ih c hc (by omega)
        have a2 := h.io hc
        unfold cu
        omega
      · rw [if_neg e]; exact Int.le_refl _)
    rw [sm_const] at c
    omega
theorem Lz_z (h : WD D) {z : Nat} (hz : z < dn D) {p : Int} (hp : p ≤ 0) : Lz D z p ≤ 0 := Lz_le0 h hp 6 z hz (by have := h.n; omega)
theorem Lz_ge0 (h : WD D) {p : Int} (hp : ∀ z, z < dn D → dW D z p = 0) : ∀ (d z : Nat), z < dn D → dn D ≤ z + d → 0 ≤ Lz D z p := by
  intro d
  induction d with
  | zero => intro z h1 h2; omega
  | succ d ih =>
    intro z hz hd
    rw [Lz_eq h hz, hp z hz]
    have b := ow_bd h z p
    have c : sm (dn D) (fun _ => (0 : Int)) ≤ sm (dn D) (inn D z p) := sm_le (fun c hc => by
      unfold inn
      by_cases e : z < c ∧ dou D c = z
      · rw [if_pos e]
        have a1 := ih c hc (by omega)
        have a2 := h.io hc
        unfold cu
        omega
      · rw [if_neg e]; exact Int.le_refl _)
    rw [sm_const] at c
    omega
def Tp (D : DT) (t : Nat) : Prop := t ≤ 9999 ∧ ∀ z, z < dn D → dW D z ((t : Int) + 1) = 0
theorem Tp_9 (h : WD D) : Tp D 9999 := ⟨Nat.le_refl _, fun z hz => h.wt hz⟩
theorem Lz_t (h : WD D) {t : Nat} (ht : Tp D t) {z : Nat} (hz : z < dn D) : 0 ≤ Lz D z ((t : Int) + 1) := Lz_ge0 h ht.2 6 z hz (by have := h.n; omega)
end
def lp (D : DT) (z : Nat) (nt : Int) : Nat := ffl (fun q => nt ≤ Lz D z ((q : Int) + 1)) 9999 0
section
variable {D : DT}
theorem lp_le (D : DT) (z : Nat) (nt : Int) : lp D z nt ≤ 9999 := by
  have := ffl_le (fun q => nt ≤ Lz D z ((q : Int) + 1)) 9999 0
  unfold lp
  omega
theorem lp_before {z : Nat} {nt : Int} {q : Nat} (hq : q < lp D z nt) : Lz D z ((q : Int) + 1) < nt := by
  have := ffl_before (fun q => nt ≤ Lz D z ((q : Int) + 1)) 9999 0 q (by omega) hq
  simpa using this
theorem lp_at (h : WD D) {z : Nat} (hz : z < dn D) {nt : Int} {t : Nat} (ht : t ≤ 9999) (hn : nt ≤ Lz D z ((t : Int) + 1)) : nt ≤ Lz D z ((lp D z nt : Int) + 1) ∧ lp D z nt ≤ t := by
  have a := lp_le D z nt
  have b : lp D z nt ≤ t := by
    by_cases e : lp D z nt ≤ t
    · exact e
    · have := lp_before (D := D) (z := z) (nt := nt) (q := t) (by omega)
      omega
  refine ⟨?_, b⟩
  by_cases e : lp D z nt < 9999
  · exact ffl_at (fun q => nt ≤ Lz D z ((q : Int) + 1)) 9999 0 (by unfold lp at e; omega)
  · have e1 : lp D z nt = t := by omega
    rw [e1]; exact hn
theorem lp_un {z : Nat} {nt : Int} {p : Nat} (h1 : p ≤ 9999) (h2 : nt ≤ Lz D z ((p : Int) + 1)) (h3 : ∀ q : Nat, q < p → Lz D z ((q : Int) + 1) < nt) : lp D z nt = p := by
  have a := lp_le D z nt
  have b : ¬ p < lp D z nt := fun e => by
    have := lp_before (D := D) (z := z) (nt := nt) e
    omega
  have c : ¬ lp D z nt < p := fun e => by
    have h4 := h3 _ e
    have h5 : lp D z nt < 9999 := by omega
    have h6 := ffl_at (fun q => nt ≤ Lz D z ((q : Int) + 1)) 9999 0 (by unfold lp at h5; omega)
    unfold lp at h4
    omega
  omega
end
def room (D : DT) (z : Nat) (p : Int) : Int := cu D z (Lz D z (p + 1)) - cu D z (Lz D z p)
def la (D : DT) (y : Nat) (p a : Int) : Nat → Int
  | 0 => a
  | i + 1 => if dz D (i / 4) = y ∧ dU D i ≠ 0 ∧ dJ D i = p then la D y p a i - min (la D y p a i) (dU D i) else la D y p a i
def lb (D : DT) (y : Nat) (p a : Int) : Nat → Int
  | 0 => a
  | c + 1 => if y < c ∧ dou D c = y then lb D y p a c - min (lb D y p a c) (room D c p) else lb D y p a c
section
variable {D : DT}
theorem room_nn (h : WD D) {z : Nat} (hz : z < dn D) (p : Int) : 0 ≤ room D z p := by
  have := cu_mono (D := D) z (Lz_mn h hz (p := p) (q := p + 1) (by omega))
  unfold room
  omega
theorem la_bd (h : WD D) {y : Nat} {p a : Int} (ha : 0 ≤ a) {i : Nat} (hi : i ≤ 4 * dm D) : 0 ≤ la D y p a i ∧ la D y p a i ≤ a := by
  induction i with
  | zero => exact ⟨ha, Int.le_refl _⟩
  | succ i ih =>
    have := ih (by omega)
    have u := (h.uj (i := i) (by omega)).1
    rw [la]
    by_cases e : dz D (i / 4) = y ∧ dU D i ≠ 0 ∧ dJ D i = p
    · rw [if_pos e]; omega
    · rw [if_neg e]; omega
theorem lb_bd (h : WD D) {y : Nat} {p a : Int} (ha : 0 ≤ a) {c : Nat} (hc : c ≤ dn D) : 0 ≤ lb D y p a c ∧ lb D y p a c ≤ a := by
  induction c with
  | zero => exact ⟨ha, Int.le_refl _⟩
  | succ c ih =>
    have := ih (by omega)
    have u := room_nn h (z := c) (by omega) p
    rw [lb]
    by_cases e : y < c ∧ dou D c = y
    · rw [if_pos e]; omega
    · rw [if_neg e]; omega
end
def lft (D : DT) (y : Nat) (p n : Int) : Int := la D y p (n - Lz D y p) (4 * dm D)
def nof (D : DT) (y : Nat) (p n : Int) (z : Nat) : Int := cu D z (Lz D z p) + min (lb D y p (lft D y p n) z) (room D z p)
def pst (D : DT) (b : Nat × Int) (z : Nat) : Nat × Int := (if Lz D z b.1 ≤ nof D (dou D z) b.1 b.2 z ∧ nof D (dou D z) b.1 b.2 z ≤ Lz D z ((b.1 : Int) + 1) then b.1 else lp D z (nof D (dou D z) b.1 b.2 z), nof D (dou D z) b.1 b.2 z)
def pnf (D : DT) : Nat → Nat → Nat × Int
  | 0, _ => (0, 0)
  | d + 1, z => if z = 0 then (lp D 0 0, 0) else pst D (pnf D d (dou D z)) z
def Pz (D : DT) (z : Nat) : Nat := (pnf D 6 z).1
def Nz (D : DT) (z : Nat) : Int := (pnf D 6 z).2
def Sz (D : DT) (z : Nat) : Int := dW D z (Pz D z) - lb D z (Pz D z) (lft D z (Pz D z) (Nz D z)) (dn D)
def Tz (D : DT) (i : Nat) : Int := if dU D i = 0 then 0 else if dJ D i < Pz D (dz D (i / 4)) then dU D i else if dJ D i = Pz D (dz D (i / 4)) then min (la D (dz D (i / 4)) (Pz D (dz D (i / 4))) (Nz D (dz D (i / 4)) - Lz D (dz D (i / 4)) (Pz D (dz D (i / 4)))) i) (dU D i) else 0
section
variable {D : DT}
theorem pnf_0 (D : DT) (d : Nat) : pnf D (d + 1) 0 = (lp D 0 0, 0) := by rw [pnf, if_pos rfl]
theorem pnf_s (D : DT) (d : Nat) {z : Nat} (hz : z ≠ 0) : pnf D (d + 1) z = pst D (pnf D d (dou D z)) z := by rw [pnf, if_neg hz]
theorem pnf_st (h : WD D) : ∀ (d z : Nat), z < dn D → z ≤ d → pnf D (d + 1) z = pnf D (d + 2) z := by
  intro d
  induction d with
  | zero =>
    intro z h1 h2
    have : z = 0 := by omega
    subst this
    rw [pnf_0, pnf_0]
  | succ d ih =>
    intro z h1 h2
    by_cases e : z = 0
    · subst e; rw [pnf_0, pnf_0]
    · have := h.ou (z := z) (by omega) h1
      rw [pnf_s D _ e, pnf_s D _ e, ih (dou D z) (by omega) (by omega)]
theorem PN_0 (D : DT) : Pz D 0 = lp D 0 0 ∧ Nz D 0 = 0 := by
  unfold Pz Nz
  rw [pnf_0]
  exact ⟨rfl, rfl⟩
theorem PN_s (h : WD D) {z : Nat} (h1 : 1 ≤ z) (h2 : z < dn D) : Nz D z = nof D (dou D z) (Pz D (dou D z)) (Nz D (dou D z)) z ∧ Pz D z = if Lz D z (Pz D (dou D z)) ≤ Nz D z ∧ Nz D z ≤ Lz D z ((Pz D (dou D z) : Int) + 1) then Pz D (dou D z) else lp D z (Nz D z) := by
  have hn := h.n
  have ho := h.ou h1 h2
  have e : pnf D 6 z = pnf D 7 z := pnf_st h 5 z h2 (by omega)
  unfold Pz Nz
  rw [e, pnf_s D _ (by omega)]
  exact ⟨rfl, rfl⟩
theorem nof_bd (h : WD D) {y z : Nat} {p n : Int} (hz : z < dn D) (hn : Lz D y p ≤ n) : cu D z (Lz D z p) ≤ nof D y p n z ∧ nof D y p n z ≤ cu D z (Lz D z (p + 1)) := by
  have a := la_bd h (y := y) (p := p) (a := n - Lz D y p) (by omega) (Nat.le_refl (4 * dm D))
  have b := lb_bd h (y := y) (p := p) (a := lft D y p n) a.1 (c := z) (by omega)
  have c := room_nn h hz p
  unfold nof
  unfold room at *
  omega
theorem PN_ok (h : WD D) {t : Nat} (ht : Tp D t) : ∀ (z : Nat), z < dn D → Lz D z (Pz D z) ≤ Nz D z ∧ Nz D z ≤ Lz D z ((Pz D z : Int) + 1) ∧ Pz D z ≤ t := by
  intro z
  induction z using Nat.strongRecOn with
  | _ z ih =>
    intro hz
    have hn := h.n
    by_cases e : z = 0
    · subst e
      rw [(PN_0 D).1, (PN_0 D).2]
      have a := lp_at h (z := 0) (by omega) (nt := 0) ht.1 (Lz_t h ht hz)
      refine ⟨?_, a.1, a.2⟩
      by_cases e0 : lp D 0 0 = 0
      · rw [e0]; exact Lz_z h hz (by omega)
      · have := lp_before (D := D) (z := 0) (nt := 0) (q := lp D 0 0 - 1) (by omega)
        have e1 : (((lp D 0 0 - 1 : Nat) : Int) + 1) = (lp D 0 0 : Int) := by omega
        rw [e1] at this
        omega
    · have ho := h.ou (z := z) (by omega) hz
      obtain ⟨b1, b2, b3⟩ := ih (dou D z) ho (by omega)
      obtain ⟨eN, eP⟩ := PN_s h (z := z) (by omega) hz
      have nb := nof_bd h (y := dou D z) (z := z) (p := Pz D (dou D z)) (n := Nz D (dou D z)) hz b1
      rw [← eN] at nb
      by_cases c : Lz D z (Pz D (dou D z)) ≤ Nz D z ∧ Nz D z ≤ Lz D z ((Pz D (dou D z) : Int) + 1)
      · rw [if_pos c] at eP
        rw [eP]
        exact ⟨c.1, c.2, b3⟩
      · rw [if_neg c] at eP
        have io := h.io hz
        have m1 := Lz_mn h hz (p := Pz D (dou D z)) (q := (Pz D (dou D z) : Int) + 1) (by omega)
        have m2 := Lz_mn h hz (p := Pz D (dou D z)) (q := (t : Int) + 1) (by omega)
        have m3 := Lz_t h ht hz
        have m4 := Lz_z h hz (p := 0) (by omega)
        have m5 := Lz_mn h hz (p := 0) (q := (Pz D (dou D z) : Int) + 1) (by omega)
        have hx : Nz D z ≤ Lz D z ((t : Int) + 1) := by
          unfold cu at nb
          omega
        have a := lp_at h hz ht.1 hx
        rw [eP]
        refine ⟨?_, a.1, a.2⟩
        by_cases e0 : lp D z (Nz D z) = 0
        · rw [e0]
          show Lz D z 0 ≤ Nz D z
          unfold cu at nb
          omega
        · have := lp_before (D := D) (z := z) (nt := Nz D z) (q := lp D z (Nz D z) - 1) (by omega)
          have e1 : (((lp D z (Nz D z) - 1 : Nat) : Int) + 1) = (lp D z (Nz D z) : Int) := by omega
          rw [e1] at this
          omega
theorem PN_9 (h : WD D) {z : Nat} (hz : z < dn D) : Lz D z (Pz D z) ≤ Nz D z ∧ Nz D z ≤ Lz D z ((Pz D z : Int) + 1) ∧ Pz D z ≤ 9999 := PN_ok h (Tp_9 h) z hz
theorem N_bd (h : WD D) {z : Nat} (hz : z < dn D) : -100000 ≤ Nz D z ∧ Nz D z ≤ 100000 := by
  have a := PN_9 h hz
  have b := Lz_bd h hz (Pz D z)
  have c := Lz_bd h hz ((Pz D z : Int) + 1)
  omega
theorem S_bd (h : WD D) {z : Nat} (hz : z < dn D) : Sz D z ≤ dW D z (Pz D z) ∧ -200000 ≤ Sz D z := by
  have a := PN_9 h hz
  have n := N_bd h hz
  have l := Lz_bd h hz (Pz D z)
  have w := h.wb hz (Pz D z)
  have b := la_bd h (y := z) (p := Pz D z) (a := Nz D z - Lz D z (Pz D z)) (by omega) (Nat.le_refl (4 * dm D))
  have c := lb_bd h (y := z) (p := Pz D z) (a := lft D z (Pz D z) (Nz D z)) b.1 (Nat.le_refl (dn D))
  unfold Sz
  unfold lft at *
  omega
end
