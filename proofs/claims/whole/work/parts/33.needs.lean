/-! an IN that is wide enough stays so when it is wider -/
def dset (D : DT) (z : Nat) (v : Int) : DT := (D.1, D.2.1, (fun c => if c = z then v else D.2.2.1 c), D.2.2.2)
section
variable {D : DT} {z : Nat} {v : Int}
theorem dset_WD (h : WD D) (h1 : 0 ≤ v) (h2 : v ≤ 9999) : WD (dset D z v) := by
  refine ⟨h.1, h.2.1, fun c hc => ⟨?_, (h.io hc).2⟩, h.2.2.2.1, h.2.2.2.2.1, h.2.2.2.2.2.1, h.2.2.2.2.2.2.1, h.2.2.2.2.2.2.2⟩
  have a := (h.io hc).1
  show 0 ≤ (if c = z then v else din D c) ∧ (if c = z then v else din D c) ≤ 9999
  by_cases e : c = z
  · rw [if_pos e]; omega
  · rw [if_neg e]; exact a
theorem dset_in (c : Nat) : din (dset D z v) c = if c = z then v else din D c := rfl
theorem dset_cu {c : Nat} (hc : c ≠ z) (w : Int) (a : Int) : cu (dset D z v) c a = cu (dset D z w) c a := by
  unfold cu
  rw [dset_in, dset_in, if_neg hc, if_neg hc]
  rfl
theorem dset_la (w : Int) (y : Nat) (p a : Int) (i : Nat) : la (dset D z v) y p a i = la (dset D z w) y p a i := by
  induction i with
  | zero => rfl
  | succ i ih => rw [la, la, ih]; rfl
end
theorem sm_diff {n y : Nat} {f g : Nat → Int} (hy : y < n) (h : ∀ c, c < n → c ≠ y → f c = g c) : sm n f - sm n g = f y - g y := by
  have a : sm n (fun c => f c - g c) = f y - g y := sm_one hy (fun c => f c - g c) (fun c hc hne => by have := h c hc hne; omega)
  have b := sm_add n (fun c => f c - g c) g
  have c : sm n (fun i => f i - g i + g i) = sm n f := sm_congr (fun i _ => by omega)
  omega
theorem sm_eq_term {n : Nat} {f g : Nat → Int} (h : ∀ i, i < n → f i ≤ g i) (he : sm n g ≤ sm n f) : ∀ i, i < n → f i = g i := by
  induction n with
  | zero => intro i hi; omega
  | succ n ih =>
    rw [sm_s, sm_s] at he
    have a := sm_le (n := n) (f := f) (g := g) (fun i hi => h i (by omega))
    have b := h n (by omega)
    intro i hi
    by_cases e : i = n
    · subst e; omega
    · exact ih (fun j hj => h j (by omega)) (by omega) i (by omega)
/-- the zone, its outer, the outer's outer .. -/
def ito (D : DT) (z : Nat) : Nat → Nat
  | 0 => z
  | k + 1 => dou D (ito D z k)
def PA (D : DT) (z x : Nat) : Prop := ∃ k, x = ito D z (k + 1) ∧ ∀ j, j ≤ k → ito D z j ≠ 0
section
variable {D : DT} {z : Nat}
theorem ito_lt (h : WD D) (hz : z < dn D) {k : Nat} (hk : ∀ j, j ≤ k → ito D z j ≠ 0) : ito D z (k + 1) < ito D z k ∧ ito D z k ≤ z := by
  induction k with
  | zero =>
    have a : z ≠ 0 := hk 0 (Nat.le_refl _)
    exact ⟨h.ou (z := z) (by omega) hz, Nat.le_refl _⟩
  | succ k ih =>
    have b := ih (fun j hj => hk j (by omega))
    have a := hk (k + 1) (Nat.le_refl _)
    exact ⟨h.ou (by omega) (by omega), by omega⟩
theorem ito_anti (h : WD D) (hz : z < dn D) {k : Nat} (hk : ∀ j, j ≤ k → ito D z j ≠ 0) {i : Nat} (hi : i ≤ k) : ito D z (k + 1) < ito D z i := by
  induction k with
  | zero =>
    have : i = 0 := by omega
    subst this
    exact (ito_lt h hz hk).1
  | succ k ih =>
    have a := (ito_lt h hz hk).1
    by_cases e : i = k + 1
    · subst e; exact a
    · have := ih (fun j hj => hk j (by omega)) (by omega)
      omega
theorem PA_lt (h : WD D) (hz : z < dn D) {x : Nat} (hx : PA D z x) : x < z := by
  obtain ⟨k, rfl, hk⟩ := hx
  have := ito_lt h hz hk
  omega
theorem PA_up {x : Nat} (hx : PA D z x) (h0 : x ≠ 0) : PA D z (dou D x) := by
  obtain ⟨k, rfl, hk⟩ := hx
  refine ⟨k + 1, rfl, fun j hj => ?_⟩
  by_cases e : j = k + 1
  · subst e; exact h0
  · exact hk j (by omega)
theorem PA_1 (h0 : z ≠ 0) : PA D z (dou D z) := ⟨0, rfl, fun j hj => by
  have : j = 0 := by omega
  subst this
  exact h0⟩
/-- of two zones within one, on the way up from z, there is one -/
theorem PA_child (h : WD D) (hz : z < dn D) {a c : Nat} (ha : PA D z a ∨ a = z) (hc : PA D z c ∨ c = z) (ha0 : a ≠ 0) (hc0 : c ≠ 0) (he : dou D a = dou D c) : a = c := by
  have key : ∀ x, (PA D z x ∨ x = z) → x ≠ 0 → ∃ k, x = ito D z k ∧ ∀ j, j ≤ k → ito D z j ≠ 0 := by
    intro x hx hx0
    rcases hx with ⟨k, rfl, hk⟩ | rfl
    · refine ⟨k + 1, rfl, fun j hj => ?_⟩
      by_cases e : j = k + 1
      · subst e; exact hx0
      · exact hk j (by omega)
    · refine ⟨0, rfl, fun j hj => ?_⟩
      have : j = 0 := by omega
      subst this
      exact hx0
  obtain ⟨i, rfl, hi⟩ := key a ha ha0
  obtain ⟨j, rfl, hj⟩ := key c hc hc0
  have he : ito D z (i + 1) = ito D z (j + 1) := he
  by_cases e1 : i = j
  · rw [e1]
  · exfalso
    by_cases e2 : i < j
    · have := ito_anti h hz hj (i := i + 1) (by omega)
      omega
    · have := ito_anti h hz hi (i := j + 1) (by omega)
      omega
end
section
variable {D : DT} {z : Nat} {v : Int}
theorem ds_inn (hD : WD D) (hz : z < dn D) {p : Int} {x c : Nat} (hc0 : c ≠ z) (hL : Lz (dset D z v) c p = Lz (dset D z (v + 1)) c p) : inn (dset D z v) x p c = inn (dset D z (v + 1)) x p c := by
  unfold inn
  rw [hL, dset_cu hc0 (v + 1)]
  rfl
/-- levels out of the way from z up are the same -/
theorem ds_off (hD : WD D) (hz : z < dn D) (h1 : 0 ≤ v) (h2 : v + 1 ≤ 9999) (p : Int) : ∀ (d x : Nat), x < dn D → dn D ≤ x + d → ¬ PA D z x → Lz (dset D z v) x p = Lz (dset D z (v + 1)) x p := by
  have hA : WD (dset D z v) := dset_WD hD h1 (by omega)
  have hB : WD (dset D z (v + 1)) := dset_WD hD (by omega) h2
  intro d
  induction d with
  | zero => intro x h1 h2; omega
  | succ d ih =>
    intro x hx hd hn
    rw [Lz_eq hA hx, Lz_eq hB hx]
    have e : sm (dn (dset D z v)) (inn (dset D z v) x p) = sm (dn (dset D z (v + 1))) (inn (dset D z (v + 1)) x p) := by
      refine sm_congr (fun c hc => ?_)
      have hc : c < dn D := hc
      by_cases e : x < c ∧ dou D c = x
      · have c1 : c ≠ z := fun e1 => hn (by
          have := PA_1 (D := D) (z := z) (by omega)
          rw [← e1, e.2, e1] at this
          exact this)
        have c2 : ¬ PA D z c := fun e1 => hn (by
          have := PA_up e1 (by omega)
          rw [e.2] at this
          exact this)
        exact ds_inn hD hz c1 (ih c hc (by omega) c2)
      · unfold inn
        rw [if_neg (show ¬ (x < c ∧ dou (dset D z v) c = x) from e), if_neg (show ¬ (x < c ∧ dou (dset D z (v + 1)) c = x) from e)]
    rw [e]
    rfl
theorem ds_z (hD : WD D) (hz : z < dn D) (h1 : 0 ≤ v) (h2 : v + 1 ≤ 9999) (p : Int) : Lz (dset D z v) z p = Lz (dset D z (v + 1)) z p :=
  ds_off hD hz h1 h2 p 6 z hz (by have := hD.n; omega) (fun e => by have := PA_lt hD hz e; omega)
theorem ds_cuz (hz : z < dn D) (a : Int) : cu (dset D z (v + 1)) z a ≤ cu (dset D z v) z a ∧ cu (dset D z v) z a ≤ cu (dset D z (v + 1)) z a + 1 := by
  unfold cu
  rw [dset_in, dset_in, if_pos rfl, if_pos rfl]
  show max (-(v + 1)) (min (dot D z) a) ≤ max (-v) (min (dot D z) a) ∧ max (-v) (min (dot D z) a) ≤ max (-(v + 1)) (min (dot D z) a) + 1
  omega
/-- a zone within another, on the way up from z: the zones beside it add the same -/
theorem ds_side (hD : WD D) (hz : z < dn D) (h1 : 0 ≤ v) (h2 : v + 1 ≤ 9999) (p : Int) {a b : Nat} (ha : PA D z a ∨ a = z) (ha0 : a ≠ 0) (hb : dou D a = b) (c : Nat) (hc : c < dn D) (hca : c ≠ a) : inn (dset D z v) b p c = inn (dset D z (v + 1)) b p c ∧ (b < c ∧ dou D c = b → c ≠ z ∧ ∀ q, Lz (dset D z v) c q = Lz (dset D z (v + 1)) c q) := by
  by_cases e : b < c ∧ dou D c = b
  · have c1 : ¬ (PA D z c ∨ c = z) := fun e1 => hca (PA_child hD hz e1 ha (by omega) ha0 (by rw [e.2, hb]))
    have c2 : ∀ q, Lz (dset D z v) c q = Lz (dset D z (v + 1)) c q := fun q => ds_off hD hz h1 h2 q 6 c hc (by have := hD.n; omega) (fun e1 => c1 (Or.inl e1))
    exact ⟨ds_inn hD hz (fun e1 => c1 (Or.inr e1)) (c2 p), fun _ => ⟨fun e1 => c1 (Or.inr e1), c2⟩⟩
  · refine ⟨?_, fun e1 => absurd e1 e⟩
    unfold inn
    rw [if_neg (show ¬ (b < c ∧ dou (dset D z v) c = b) from e), if_neg (show ¬ (b < c ∧ dou (dset D z (v + 1)) c = b) from e)]
theorem ds_step (hD : WD D) (hz : z < dn D) (h1 : 0 ≤ v) (h2 : v + 1 ≤ 9999) (p : Int) {a b : Nat} (ha : PA D z a ∨ a = z) (han : a < dn D) (ha0 : a ≠ 0) (hb : dou D a = b) : Lz (dset D z v) b p - Lz (dset D z (v + 1)) b p = cu (dset D z v) a (Lz (dset D z v) a p) - cu (dset D z (v + 1)) a (Lz (dset D z (v + 1)) a p) := by
  have hA : WD (dset D z v) := dset_WD hD h1 (by omega)
  have hB : WD (dset D z (v + 1)) := dset_WD hD (by omega) h2
  have hba : b < a := by rw [← hb]; exact hD.ou (by omega) han
  have hbn : b < dn D := by omega
  rw [Lz_eq hA hbn, Lz_eq hB hbn]
  have e := sm_diff (n := dn D) (y := a) (f := inn (dset D z v) b p) (g := inn (dset D z (v + 1)) b p) han (fun c hc hca => (ds_side hD hz h1 h2 p ha ha0 hb c hc hca).1)
  have e1 : inn (dset D z v) b p a = cu (dset D z v) a (Lz (dset D z v) a p) := by unfold inn; exact if_pos ⟨hba, hb⟩
  have e2 : inn (dset D z (v + 1)) b p a = cu (dset D z (v + 1)) a (Lz (dset D z (v + 1)) a p) := by unfold inn; exact if_pos ⟨hba, hb⟩
  have f1 : ow (dset D z v) b p = ow (dset D z (v + 1)) b p := rfl
  have f2 : dW (dset D z v) b p = dW (dset D z (v + 1)) b p := rfl
  have f3 : sm (dn (dset D z v)) (inn (dset D z v) b p) = sm (dn D) (inn (dset D z v) b p) := rfl
  have f4 : sm (dn (dset D z (v + 1))) (inn (dset D z (v + 1)) b p) = sm (dn D) (inn (dset D z (v + 1)) b p) := rfl
  rw [f1, f2, f3, f4]
  omega
/-- on the way up levels are the same or one less -/
theorem ds_up (hD : WD D) (hz : z < dn D) (h1 : 0 ≤ v) (h2 : v + 1 ≤ 9999) (p : Int) : ∀ (k : Nat), (∀ j, j ≤ k → ito D z j ≠ 0) → Lz (dset D z (v + 1)) (ito D z (k + 1)) p ≤ Lz (dset D z v) (ito D z (k + 1)) p ∧ Lz (dset D z v) (ito D z (k + 1)) p ≤ Lz (dset D z (v + 1)) (ito D z (k + 1)) p + 1 := by
  intro k
  induction k with
  | zero =>
    intro hk
    have h0 : z ≠ 0 := hk 0 (Nat.le_refl _)
    have e := ds_step hD hz h1 h2 p (a := z) (b := ito D z 1) (Or.inr rfl) hz h0 rfl
    rw [ds_z hD hz h1 h2 p] at e
    have := ds_cuz (D := D) (z := z) (v := v) hz (Lz (dset D z (v + 1)) z p)
    show Lz (dset D z (v + 1)) (ito D z 1) p ≤ Lz (dset D z v) (ito D z 1) p ∧ Lz (dset D z v) (ito D z 1) p ≤ Lz (dset D z (v + 1)) (ito D z 1) p + 1
    omega
  | succ k ih =>
    intro hk
    have i := ih (fun j hj => hk j (by omega))
    have a0 := hk (k + 1) (Nat.le_refl _)
    have pa : PA D z (ito D z (k + 1)) := ⟨k, rfl, fun j hj => hk j (by omega)⟩
    have lt := PA_lt hD hz pa
    have e := ds_step hD hz h1 h2 p (a := ito D z (k + 1)) (b := ito D z (k + 1 + 1)) (Or.inl pa) (by omega) a0 rfl
    rw [dset_cu (D := D) (z := z) (v := v) (c := ito D z (k + 1)) (by omega) (v + 1)] at e
    have m := cu_mono (D := dset D z (v + 1)) (ito D z (k + 1)) i.1
    have l := cu_lip (D := dset D z (v + 1)) (ito D z (k + 1)) i.1
    omega
theorem ds_pa (hD : WD D) (hz : z < dn D) (h1 : 0 ≤ v) (h2 : v + 1 ≤ 9999) (p : Int) {x : Nat} (hx : PA D z x) : Lz (dset D z (v + 1)) x p ≤ Lz (dset D z v) x p ∧ Lz (dset D z v) x p ≤ Lz (dset D z (v + 1)) x p + 1 := by
  obtain ⟨k, rfl, hk⟩ := hx
  exact ds_up hD hz h1 h2 p k hk
end
section
variable {D : DT}
theorem la_lip (y : Nat) (p : Int) {a b : Int} (hab : a ≤ b) (i : Nat) : la D y p a i ≤ la D y p b i ∧ la D y p b i ≤ la D y p a i + (b - a) := by
  induction i with
  | zero => exact ⟨hab, by show b ≤ a + (b - a); omega⟩
  | succ i ih =>
    rw [la, la]
    by_cases e : dz D (i / 4) = y ∧ dU D i ≠ 0 ∧ dJ D i = p
    · rw [if_pos e, if_pos e]; omega
    · rw [if_neg e, if_neg e]; exact ih
theorem lb_lip (y : Nat) (p : Int) {a b : Int} (hab : a ≤ b) (i : Nat) : lb D y p a i ≤ lb D y p b i ∧ lb D y p b i ≤ lb D y p a i + (b - a) := by
  induction i with
  | zero => exact ⟨hab, by show b ≤ a + (b - a); omega⟩
  | succ i ih =>
    rw [lb, lb]
    by_cases e : y < i ∧ dou D i = y
    · rw [if_pos e, if_pos e]; omega
    · rw [if_neg e, if_neg e]; exact ih
/-- own lines take no more than what comes in at the price -/
theorem la_ge (h : WD D) (y : Nat) (p a : Int) {i : Nat} (hi : i ≤ 4 * dm D) : a - sm i (fun j => (if dz D (j / 4) = y ∧ dJ D j < p + 1 then dU D j else 0) - (if dz D (j / 4) = y ∧ dJ D j < p then dU D j else 0)) ≤ la D y p a i := by
  induction i with
  | zero => rw [sm_0, la]; omega
  | succ i ih =>
    have ih := ih (by omega)
    have u := (h.uj (i := i) (by omega)).1
    rw [sm_s, la]
    by_cases c1 : dz D (i / 4) = y
    · by_cases c2 : dJ D i = p
      · rw [if_pos ⟨c1, by omega⟩, if_neg (show ¬ (dz D (i / 4) = y ∧ dJ D i < p) by omega)]
        by_cases c3 : dU D i = 0
        · rw [if_neg (by simp [c3])]; omega
        · rw [if_pos ⟨c1, c3, c2⟩]; omega
      · rw [if_neg (show ¬ (dz D (i / 4) = y ∧ dU D i ≠ 0 ∧ dJ D i = p) from fun e => c2 e.2.2)]
        by_cases c3 : dJ D i < p
        · rw [if_pos ⟨c1, by omega⟩, if_pos ⟨c1, c3⟩]; omega
        · rw [if_neg (show ¬ (dz D (i / 4) = y ∧ dJ D i < p + 1) by omega), if_neg (show ¬ (dz D (i / 4) = y ∧ dJ D i < p) by omega)]; omega
    · rw [if_neg (show ¬ (dz D (i / 4) = y ∧ dJ D i < p + 1) from fun e => c1 e.1), if_neg (show ¬ (dz D (i / 4) = y ∧ dJ D i < p) from fun e => c1 e.1), if_neg (show ¬ (dz D (i / 4) = y ∧ dU D i ≠ 0 ∧ dJ D i = p) from fun e => c1 e.1)]; omega
theorem lb_ge (h : WD D) (y : Nat) (p a : Int) {c : Nat} (hc : c ≤ dn D) : a - sm c (fun j => inn D y (p + 1) j - inn D y p j) ≤ lb D y p a c := by
  induction c with
  | zero => rw [sm_0, lb]; omega
  | succ c ih =>
    have ih := ih (by omega)
    rw [sm_s, lb]
    unfold inn at ih ⊢
    by_cases e : y < c ∧ dou D c = y
    · rw [if_pos e, if_pos e, if_pos e]; unfold room; omega
    · rw [if_neg e, if_neg e, if_neg e]; omega
theorem sm_sub (n : Nat) (f g : Nat → Int) : sm n (fun i => f i - g i) = sm n f - sm n g := by
  induction n with
  | zero => rfl
  | succ n ih => rw [sm_s, sm_s, sm_s, ih]; omega
theorem inn_mono (h : WD D) (y : Nat) {p q : Int} (hpq : p ≤ q) {c : Nat} (hc : c < dn D) : inn D y p c ≤ inn D y q c := by
  unfold inn
  by_cases e : y < c ∧ dou D c = y
  · rw [if_pos e, if_pos e]; exact cu_mono c (Lz_mn h hc hpq)
  · rw [if_neg e, if_neg e]; exact Int.le_refl _
theorem sm_part {n a : Nat} {f : Nat → Int} (ha : a < n) (h : ∀ i, i < n → 0 ≤ f i) : sm a f + f a ≤ sm n f := by
  obtain ⟨m, rfl⟩ : ∃ m, n = (a + 1) + m := ⟨n - (a + 1), by omega⟩
  rw [sm_split, sm_s]
  have := sm_nonneg (n := m) (f := fun i => f (a + 1 + i)) (fun i hi => h _ (by omega))
  omega
/-- with as much to part as the zone's HIGH has above its LOW, a zone within it gets up to its HIGH -/
theorem nof_hi (h : WD D) {y a : Nat} (hy : y < dn D) (ha : a < dn D) (hya : y < a ∧ dou D a = y) {p n : Int} (hn : Lz D y (p + 1) ≤ n) : nof D y p n a = cu D a (Lz D a (p + 1)) := by
  have e1 := Lz_eq h hy (p + 1)
  have e0 := Lz_eq h hy p
  have w := h.wm hy (p := p) (q := p + 1) (by omega)
  have q1 := la_ge h y p (n - Lz D y p) (Nat.le_refl (4 * dm D))
  rw [sm_sub] at q1
  have q2 := lb_ge h y p (lft D y p n) (c := a) (by omega)
  have q3 := sm_part (n := dn D) (a := a) (f := fun j => inn D y (p + 1) j - inn D y p j) ha (fun i hi => by have := inn_mono h y (p := p) (q := p + 1) (by omega) hi; omega)
  rw [sm_sub (dn D)] at q3
  have q4 : inn D y (p + 1) a - inn D y p a = room D a p := by unfold inn room; rw [if_pos hya, if_pos hya]
  have q5 : (fun j => inn D y (p + 1) j - inn D y p j) a = room D a p := q4
  have r : room D a p ≤ lb D y p (lft D y p n) a := by
    unfold ow at e0 e1
    unfold lft at *
    omega
  unfold nof
  rw [Int.min_eq_right r]
  unfold room
  omega
theorem nof_lo (h : WD D) {y a : Nat} {p n : Int} (ha : a < dn D) (hn : n = Lz D y p) : nof D y p n a = cu D a (Lz D a p) := by
  have b := la_bd h (y := y) (p := p) (a := n - Lz D y p) (by omega) (Nat.le_refl (4 * dm D))
  have c := lb_bd h (y := y) (p := p) (a := lft D y p n) b.1 (c := a) (by omega)
  have r := room_nn h ha p
  unfold nof
  unfold lft at *
  omega
end
section
variable {D : DT} {z : Nat} {v : Int}
theorem ds_lb (hD : WD D) (hz : z < dn D) (h1 : 0 ≤ v) (h2 : v + 1 ≤ 9999) (p x : Int) {a b : Nat} (ha : PA D z a ∨ a = z) (ha0 : a ≠ 0) (hb : dou D a = b) (han : a < dn D) : ∀ c, c ≤ a → lb (dset D z v) b p x c = lb (dset D z (v + 1)) b p x c := by
  intro c
  induction c with
  | zero => intro _; rfl
  | succ c ih =>
    intro hc
    rw [lb, lb, ih (by omega)]
    by_cases e : b < c ∧ dou D c = b
    · obtain ⟨s1, s2⟩ := (ds_side hD hz h1 h2 p ha ha0 hb c (by omega) (by omega)).2 e
      have r : room (dset D z v) c p = room (dset D z (v + 1)) c p := by
        unfold room
        rw [s2, s2, dset_cu (v := v) s1 (v + 1), dset_cu (v := v) s1 (v + 1)]
      rw [if_pos (show b < c ∧ dou (dset D z v) c = b from e), if_pos (show b < c ∧ dou (dset D z (v + 1)) c = b from e), r]
    · rw [if_neg (show ¬ (b < c ∧ dou (dset D z v) c = b) from e), if_neg (show ¬ (b < c ∧ dou (dset D z (v + 1)) c = b) from e)]
def Ph (A B : DT) (x : Nat) : Prop := (Pz A x ≤ Pz B x ∧ (Pz A x = Pz B x → Nz A x ≤ Nz B x + 1)) ∨ (Pz B x < Pz A x ∧ Nz A x = Nz B x ∧ ∀ p : Int, (Pz B x : Int) + 1 ≤ p → p ≤ Pz A x → Lz A x p = Nz A x ∧ Lz B x p = Nz A x)
theorem ds_ph (hD : WD D) (hz : z < dn D) (h1 : 0 ≤ v) (h2 : v + 1 ≤ 9999) : ∀ (a : Nat), a < dn D → PA D z a → Ph (dset D z v) (dset D z (v + 1)) a := by
  have hA : WD (dset D z v) := dset_WD hD h1 (by omega)
  have hB : WD (dset D z (v + 1)) := dset_WD hD (by omega) h2
  have hn := hD.n
  intro a
  induction a using Nat.strongRecOn with
  | _ a ih =>
    intro han ha
    have pos := fun p => ds_pa hD hz h1 h2 p ha
    have okA := PN_9 hA (z := a) han
    have okB := PN_9 hB (z := a) han
    have fin : Nz (dset D z v) a ≤ Nz (dset D z (v + 1)) a → Ph (dset D z v) (dset D z (v + 1)) a := by
      intro hle
      by_cases e : Pz (dset D z v) a ≤ Pz (dset D z (v + 1)) a
      · exact Or.inl ⟨e, fun _ => by omega⟩
      · have fl : ∀ p : Int, (Pz (dset D z (v + 1)) a : Int) + 1 ≤ p → p ≤ Pz (dset D z v) a → Lz (dset D z v) a p = Nz (dset D z v) a ∧ Lz (dset D z (v + 1)) a p = Nz (dset D z v) a ∧ Nz (dset D z v) a = Nz (dset D z (v + 1)) a := by
          intro p hp1 hp2
          have m1 := Lz_mn hB han hp1
          have m2 := Lz_mn hA han hp2
          have m3 := pos p
          omega
        refine Or.inr ⟨by omega, (fl _ (Int.le_refl _) (by omega)).2.2, fun p hp1 hp2 => ⟨(fl p hp1 hp2).1, (fl p hp1 hp2).2.1⟩⟩
    by_cases e0 : a = 0
    · apply fin
      rw [e0, (PN_0 _).2, (PN_0 _).2]
      exact Int.le_refl _
    · have hou : dou D a < a := hD.ou (by omega) han
      have alt := PA_lt hD hz ha
      obtain ⟨eNA, ePA⟩ := PN_s hA (z := a) (by omega) han
      obtain ⟨eNB, ePB⟩ := PN_s hB (z := a) (by omega) han
      have eNA : Nz (dset D z v) a = nof (dset D z v) (dou D a) (Pz (dset D z v) (dou D a)) (Nz (dset D z v) (dou D a)) a := eNA
      have eNB : Nz (dset D z (v + 1)) a = nof (dset D z (v + 1)) (dou D a) (Pz (dset D z (v + 1)) (dou D a)) (Nz (dset D z (v + 1)) (dou D a)) a := eNB
      have hpb := PA_up ha e0
      have bok1 := PN_9 hA (z := dou D a) (show dou D a < dn D by omega)
      have bok2 := PN_9 hB (z := dou D a) (show dou D a < dn D by omega)
      have nbA := nof_bd hA (y := dou D a) (z := a) (p := Pz (dset D z v) (dou D a)) (n := Nz (dset D z v) (dou D a)) han bok1.1
      have nbB := nof_bd hB (y := dou D a) (z := a) (p := Pz (dset D z (v + 1)) (dou D a)) (n := Nz (dset D z (v + 1)) (dou D a)) han bok2.1
      rw [← eNA] at nbA
      rw [← eNB] at nbB
      have cue : ∀ x, cu (dset D z v) a x = cu (dset D z (v + 1)) a x := fun x => dset_cu (by omega) (v + 1) x
      rcases ih (dou D a) hou (by omega) hpb with ⟨b1, b2⟩ | ⟨b1, b2, b3⟩
      · have hN : Nz (dset D z v) a ≤ Nz (dset D z (v + 1)) a + 1 := by
          by_cases e : Pz (dset D z v) (dou D a) = Pz (dset D z (v + 1)) (dou D a)
          · have b2 := b2 e
            rw [e] at eNA nbA bok1
            rw [eNA, eNB]
            generalize Pz (dset D z (v + 1)) (dou D a) = Q at *
            have st := ds_step hD hz h1 h2 (Q : Int) (a := a) (b := dou D a) (Or.inl ha) han e0 rfl
            have pb := ds_pa hD hz h1 h2 (Q : Int) hpb
            have p1 := pos (Q : Int)
            have p2 := pos ((Q : Int) + 1)
            have c1 := cu_mono (D := dset D z (v + 1)) a p1.1
            have c1' := cu_lip (D := dset D z (v + 1)) a p1.1
            have c2 := cu_mono (D := dset D z (v + 1)) a p2.1
            have c2' := cu_lip (D := dset D z (v + 1)) a p2.1
            unfold nof room lft
            rw [ds_lb hD hz h1 h2 Q _ (Or.inl ha) e0 rfl han a (Nat.le_refl _), dset_la (v + 1)]
            rw [cue, cue]
            rw [cue] at st
            show cu (dset D z (v + 1)) a (Lz (dset D z v) a Q) + min (lb (dset D z (v + 1)) (dou D a) Q (la (dset D z (v + 1)) (dou D a) Q (Nz (dset D z v) (dou D a) - Lz (dset D z v) (dou D a) Q) (4 * dm (dset D z (v + 1)))) a) (cu (dset D z (v + 1)) a (Lz (dset D z v) a ((Q : Int) + 1)) - cu (dset D z (v + 1)) a (Lz (dset D z v) a Q)) ≤ _
            generalize hx : Nz (dset D z v) (dou D a) - Lz (dset D z v) (dou D a) Q = x
            generalize hy : Nz (dset D z (v + 1)) (dou D a) - Lz (dset D z (v + 1)) (dou D a) Q = y
            have mono : ∀ s t : Int, s ≤ t → lb (dset D z (v + 1)) (dou D a) Q (la (dset D z (v + 1)) (dou D a) Q s (4 * dm (dset D z (v + 1)))) a ≤ lb (dset D z (v + 1)) (dou D a) Q (la (dset D z (v + 1)) (dou D a) Q t (4 * dm (dset D z (v + 1)))) a ∧ lb (dset D z (v + 1)) (dou D a) Q (la (dset D z (v + 1)) (dou D a) Q t (4 * dm (dset D z (v + 1)))) a ≤ lb (dset D z (v + 1)) (dou D a) Q (la (dset D z (v + 1)) (dou D a) Q s (4 * dm (dset D z (v + 1)))) a + (t - s) := by
              intro s t hst
              have q1 := la_lip (D := dset D z (v + 1)) (dou D a) (Q : Int) hst (4 * dm (dset D z (v + 1)))
              have q2 := lb_lip (D := dset D z (v + 1)) (dou D a) (Q : Int) q1.1 a
              omega
            by_cases c : x ≤ y
            · have q := mono x y c
              omega
            · have q := mono y x (by omega)
              omega
          · have m1 := Lz_mn hB han (p := (Pz (dset D z v) (dou D a) : Int) + 1) (q := Pz (dset D z (v + 1)) (dou D a)) (by omega)
            have m2 := cu_mono (D := dset D z (v + 1)) a m1
            have m3 := pos ((Pz (dset D z v) (dou D a) : Int) + 1)
            have m4 := cu_lip (D := dset D z (v + 1)) a m3.1
            rw [cue, cue] at nbA
            omega
        by_cases c : Nz (dset D z v) a ≤ Nz (dset D z (v + 1)) a
        · exact fin c
        · have io := hA.io (z := a) han
          have io2 : din (dset D z (v + 1)) a = din (dset D z v) a := by rw [dset_in, dset_in, if_neg (by omega), if_neg (by omega)]
          have io3 : dot (dset D z (v + 1)) a = dot (dset D z v) a := rfl
          have k1 : Pz (dset D z v) a ≤ Pz (dset D z v) (dou D a) := by
            have : Nz (dset D z v) a ≤ Lz (dset D z v) a ((Pz (dset D z v) (dou D a) : Int) + 1) := by
              unfold cu at nbA nbB
              omega
            by_cases e : Lz (dset D z v) a (Pz (dset D z v) (dou D a)) ≤ Nz (dset D z v) a ∧ Nz (dset D z v) a ≤ Lz (dset D z v) a ((Pz (dset D z v) (dou D a) : Int) + 1)
            · rw [ePA]
              show (if Lz (dset D z v) a (Pz (dset D z v) (dou D a)) ≤ Nz (dset D z v) a ∧ Nz (dset D z v) a ≤ Lz (dset D z v) a ((Pz (dset D z v) (dou D a) : Int) + 1) then Pz (dset D z v) (dou D a) else _) ≤ _
              rw [if_pos e]
              exact Nat.le_refl _
            · rw [ePA]
              show (if Lz (dset D z v) a (Pz (dset D z v) (dou D a)) ≤ Nz (dset D z v) a ∧ Nz (dset D z v) a ≤ Lz (dset D z v) a ((Pz (dset D z v) (dou D a) : Int) + 1) then Pz (dset D z v) (dou D a) else _) ≤ _
              rw [if_neg e]
              exact (lp_at hA han bok1.2.2 this).2
          have k2 : Pz (dset D z (v + 1)) (dou D a) ≤ Pz (dset D z (v + 1)) a := by
            have lo : Lz (dset D z (v + 1)) a (Pz (dset D z (v + 1)) (dou D a)) ≤ Nz (dset D z (v + 1)) a := by
              unfold cu at nbA nbB
              omega
            by_cases e : Nz (dset D z (v + 1)) a ≤ Lz (dset D z (v + 1)) a ((Pz (dset D z (v + 1)) (dou D a) : Int) + 1)
            · rw [ePB]
              show _ ≤ (if Lz (dset D z (v + 1)) a (Pz (dset D z (v + 1)) (dou D a)) ≤ Nz (dset D z (v + 1)) a ∧ Nz (dset D z (v + 1)) a ≤ Lz (dset D z (v + 1)) a ((Pz (dset D z (v + 1)) (dou D a) : Int) + 1) then Pz (dset D z (v + 1)) (dou D a) else _)
              rw [if_pos ⟨lo, e⟩]
              exact Nat.le_refl _
            · by_cases q : Pz (dset D z (v + 1)) (dou D a) ≤ Pz (dset D z (v + 1)) a
              · exact q
              · exfalso
                have := Lz_mn hB han (p := (Pz (dset D z (v + 1)) a : Int) + 1) (q := (Pz (dset D z (v + 1)) (dou D a) : Int) + 1) (by omega)
                omega
          refine Or.inl ⟨by omega, fun _ => hN⟩
      · apply fin
        have hx := b3 ((Pz (dset D z (v + 1)) (dou D a) : Int) + 1) (Int.le_refl _) (by omega)
        have hy := b3 (Pz (dset D z v) (dou D a) : Int) (by omega) (Int.le_refl _)
        rw [nof_lo hA han hy.1.symm] at eNA
        rw [nof_hi hB (show dou D a < dn D by omega) han ⟨hou, rfl⟩ (by omega)] at eNB
        have st := ds_step hD hz h1 h2 ((Pz (dset D z (v + 1)) (dou D a) : Int) + 1) (a := a) (b := dou D a) (Or.inl ha) han e0 rfl
        have te : inn (dset D z v) (dou D a) ((Pz (dset D z (v + 1)) (dou D a) : Int) + 1) a = inn (dset D z v) (dou D a) (Pz (dset D z v) (dou D a)) a := by
          have f1 := Lz_eq hA (show dou D a < dn D by omega) ((Pz (dset D z (v + 1)) (dou D a) : Int) + 1)
          have f2 := Lz_eq hA (show dou D a < dn D by omega) (Pz (dset D z v) (dou D a))
          have f3 := ow_mono hA (dou D a) (p := (Pz (dset D z (v + 1)) (dou D a) : Int) + 1) (q := Pz (dset D z v) (dou D a)) (by omega)
          have f4 := hA.wm (z := dou D a) (show dou D a < dn D by omega) (p := (Pz (dset D z (v + 1)) (dou D a) : Int) + 1) (q := Pz (dset D z v) (dou D a)) (by omega)
          exact sm_eq_term (n := dn (dset D z v)) (f := inn (dset D z v) (dou D a) ((Pz (dset D z (v + 1)) (dou D a) : Int) + 1)) (g := inn (dset D z v) (dou D a) (Pz (dset D z v) (dou D a))) (fun i hi => inn_mono hA (dou D a) (by omega) hi) (by omega) a han
        unfold inn at te
        rw [if_pos (show dou D a < a ∧ dou (dset D z v) a = dou D a from ⟨hou, rfl⟩), if_pos (show dou D a < a ∧ dou (dset D z v) a = dou D a from ⟨hou, rfl⟩)] at te
        omega
theorem nar_iff (h : WD D) (h1 : 1 ≤ z) (h2 : z < dn D) : Pz D (dou D z) < Pz D z ↔ Lz D z ((Pz D (dou D z) : Int) + 1) < -(din D z) := by
  have ho := h.ou h1 h2
  obtain ⟨eN, eP⟩ := PN_s h h1 h2
  have bok1 := PN_9 h (z := dou D z) (by omega)
  have ok := PN_9 h (z := z) h2
  have nb := nof_bd h (y := dou D z) (z := z) (p := Pz D (dou D z)) (n := Nz D (dou D z)) h2 bok1.1
  rw [← eN] at nb
  have io := h.io h2
  have m := Lz_mn h h2 (p := Pz D (dou D z)) (q := (Pz D (dou D z) : Int) + 1) (by omega)
  constructor
  · intro hlt
    by_cases c : Lz D z (Pz D (dou D z)) ≤ Nz D z ∧ Nz D z ≤ Lz D z ((Pz D (dou D z) : Int) + 1)
    · rw [if_pos c] at eP; omega
    · rw [if_neg c] at eP
      by_cases c2 : Nz D z ≤ Lz D z ((Pz D (dou D z) : Int) + 1)
      · have := (lp_at h h2 bok1.2.2 c2).2
        omega
      · unfold cu at nb
        omega
  · intro hlt
    have : Nz D z = -(din D z) := by
      unfold cu at nb
      omega
    by_cases q : Pz D (dou D z) < Pz D z
    · exact q
    · exfalso
      have := Lz_mn h h2 (p := (Pz D z : Int) + 1) (q := (Pz D (dou D z) : Int) + 1) (by omega)
      omega
/-- narrow at an IN, so narrow at one less -/
theorem nar_dn (hD : WD D) (h1 : 1 ≤ z) (hz : z < dn D) (hv : 0 ≤ v) (hv2 : v + 1 ≤ 9999) (hn : Pz (dset D z (v + 1)) (dou D z) < Pz (dset D z (v + 1)) z) : Pz (dset D z v) (dou D z) < Pz (dset D z v) z := by
  have hA : WD (dset D z v) := dset_WD hD hv (by omega)
  have hB : WD (dset D z (v + 1)) := dset_WD hD (by omega) hv2
  have ho := hD.ou h1 hz
  have a := (nar_iff hB (z := z) h1 hz).mp hn
  refine (nar_iff hA (z := z) h1 hz).mpr ?_
  show Lz (dset D z v) z ((Pz (dset D z v) (dou D z) : Int) + 1) < -(din (dset D z v) z)
  have a : Lz (dset D z (v + 1)) z ((Pz (dset D z (v + 1)) (dou D z) : Int) + 1) < -(din (dset D z (v + 1)) z) := a
  rw [dset_in, if_pos rfl] at a ⊢
  rcases ds_ph hD hz hv hv2 (dou D z) (by omega) (PA_1 (by omega)) with ⟨b1, b2⟩ | ⟨b1, b2, b3⟩
  · rw [ds_z hD hz hv hv2]
    have := Lz_mn hB (z := z) hz (p := (Pz (dset D z v) (dou D z) : Int) + 1) (q := (Pz (dset D z (v + 1)) (dou D z) : Int) + 1) (by omega)
    omega
  · exfalso
    have c := b3 ((Pz (dset D z (v + 1)) (dou D z) : Int) + 1) (Int.le_refl _) (by omega)
    have st := ds_step hD hz hv hv2 ((Pz (dset D z (v + 1)) (dou D z) : Int) + 1) (a := z) (b := dou D z) (Or.inr rfl) hz (by omega) rfl
    rw [ds_z hD hz hv hv2] at st
    have io := hB.io (z := z) hz
    unfold cu at st
    rw [dset_in, dset_in, if_pos rfl, if_pos rfl] at st
    have e1 : dot (dset D z v) z = dot D z := rfl
    have e2 : dot (dset D z (v + 1)) z = dot D z := rfl
    rw [e1, e2] at st
    rw [e2] at io
    omega
theorem nar_le (hD : WD D) (h1 : 1 ≤ z) (hz : z < dn D) (k : Nat) : ∀ v : Int, 0 ≤ v → v + k ≤ 9999 → Pz (dset D z (v + k)) (dou D z) < Pz (dset D z (v + k)) z → Pz (dset D z v) (dou D z) < Pz (dset D z v) z := by
  induction k with
  | zero => intro v _ _ h; simpa using h
  | succ k ih =>
    intro v h2 h3 h
    refine ih v h2 (by omega) ?_
    refine nar_dn hD h1 hz (v := v + k) (by omega) (by omega) ?_
    have e : v + ((k + 1 : Nat) : Int) = v + k + 1 := by omega
    rw [e] at h
    exact h
end
