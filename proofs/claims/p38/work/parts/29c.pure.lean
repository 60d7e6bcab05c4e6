def gti {β : Type} (v : Value) (k : Int32 → Option β) : Option β := match v with
  | .int x => k x
  | _ => none
theorem gti_e {β : Type} {v : Value} {k : Int32 → Option β} {y : β} (h : gti v k = some y) : ∃ x, v = .int x ∧ k x = some y := by
  cases v with
  | int x => exact ⟨x, rfl, h⟩
  | _ => cases h
def gtr {β : Type} (v : Value) (k : Nat → Option β) : Option β := match v with
  | .ref x => k x
  | _ => none
theorem gtr_e {β : Type} {v : Value} {k : Nat → Option β} {y : β} (h : gtr v k = some y) : ∃ x, v = .ref x ∧ k x = some y := by
  cases v with
  | ref x => exact ⟨x, rfl, h⟩
  | _ => cases h
def okb (A : AS) (c k : Nat) : Bool := decide (1 ≤ c) && (decide (c ≤ A.1) && decide ((A.2.2.1 c).1 = k))
theorem okb_iff {A : AS} {c k : Nat} : okb A c k = true ↔ okd A c k := by
  unfold okb okd
  simp only [Bool.and_eq_true, decide_eq_true_eq]
  exact ⟨fun h => ⟨⟨h.1, h.2.1⟩, h.2.2⟩, fun h => ⟨h.1.1, h.1.2, h.2⟩⟩
def gkd {β : Type} (A : AS) (c k : Nat) (t : Option β) : Option β := if okb A c k = true then t else none
theorem gkd_e {β : Type} {A : AS} {c k : Nat} {t : Option β} {y : β} (h : gkd A c k t = some y) : okd A c k ∧ t = some y := by
  unfold gkd at h
  by_cases hc : okb A c k = true
  · rw [if_pos hc] at h; exact ⟨okb_iff.mp hc, h⟩
  · rw [if_neg hc] at h; cases h
def gix {β : Type} (A : AS) (c : Nat) (i : Int32) (t : Option β) : Option β := if inb i (A.2.2.1 c).2 = true then t else none
theorem gix_e {β : Type} {A : AS} {c : Nat} {i : Int32} {t : Option β} {y : β} (h : gix A c i t = some y) : inb i (A.2.2.1 c).2 = true ∧ t = some y := by
  unfold gix at h
  by_cases hc : inb i (A.2.2.1 c).2 = true
  · rw [if_pos hc] at h; exact ⟨hc, h⟩
  · rw [if_neg hc] at h; cases h
def gal {β : Type} (A : AS) (c : Nat) (t : Option β) : Option β := if okb A c 20 = true ∨ okb A c 21 = true ∨ c = 0 then t else none
theorem gal_e {β : Type} {A : AS} {c : Nat} {t : Option β} {y : β} (h : gal A c t = some y) : (okd A c 20 ∨ okd A c 21 ∨ c = 0) ∧ t = some y := by
  unfold gal at h
  by_cases hc : okb A c 20 = true ∨ okb A c 21 = true ∨ c = 0
  · rw [if_pos hc] at h
    rw [okb_iff, okb_iff] at hc
    exact ⟨hc, h⟩
  · rw [if_neg hc] at h; cases h
def gst {β : Type} (A : AS) (c : Nat) (t : Option β) : Option β := if okb A c 20 = true ∨ okb A c 9 = true then t else none
theorem gst_e {β : Type} {A : AS} {c : Nat} {t : Option β} {y : β} (h : gst A c t = some y) : (okd A c 20 ∨ okd A c 9) ∧ t = some y := by
  unfold gst at h
  by_cases hc : okb A c 20 = true ∨ okb A c 9 = true
  · rw [if_pos hc] at h
    rw [okb_iff, okb_iff] at hc
    exact ⟨hc, h⟩
  · rw [if_neg hc] at h; cases h
def gob {β : Type} (A : AS) (c : Nat) (t : Option β) : Option β := if c = A.2.2.2 then t else none
theorem gob_e {β : Type} {A : AS} {c : Nat} {t : Option β} {y : β} (h : gob A c t = some y) : c = A.2.2.2 ∧ t = some y := by
  unfold gob at h
  by_cases hc : c = A.2.2.2
  · rw [if_pos hc] at h; exact ⟨hc, h⟩
  · rw [if_neg hc] at h; cases h
def gnn {β : Type} (v : Int32) (t : Option β) : Option β := if ¬ v < 0 ∧ v.toNatClampNeg ≤ 10000 then t else none
theorem gnn_e {β : Type} {v : Int32} {t : Option β} {y : β} (h : gnn v t = some y) : (¬ v < 0 ∧ v.toNatClampNeg ≤ 10000) ∧ t = some y := by
  unfold gnn at h
  by_cases hc : ¬ v < 0 ∧ v.toNatClampNeg ≤ 10000
  · rw [if_pos hc] at h; exact ⟨hc, h⟩
  · rw [if_neg hc] at h; cases h
def alc {β : Type} (pr : β → AS) (A : AS) (dm : DM) (k len sl : Nat) (f : Nat → Value) (t : Nat → AS → DM → Option β) : Option β := match t (A.1 + 1) (nw A k len sl) (nwm A dm f) with
  | some x => if A.1 + 1 ≤ (pr x).1 ∧ A.2.1 + sl ≤ (pr x).2.1 then some x else none
  | none => none
theorem alc_e {β : Type} {pr : β → AS} {A : AS} {dm : DM} {k len sl : Nat} {f : Nat → Value} {t : Nat → AS → DM → Option β} {x : β} (h : alc pr A dm k len sl f t = some x) : ∃ q A1 m1, q = A.1 + 1 ∧ A1 = nw A k len sl ∧ m1 = nwm A dm f ∧ (A.1 + 1 ≤ (pr x).1 ∧ A.2.1 + sl ≤ (pr x).2.1) ∧ t q A1 m1 = some x := by
  unfold alc at h
  cases ht : t (A.1 + 1) (nw A k len sl) (nwm A dm f) with
  | none => rw [ht] at h; cases h
  | some z =>
    rw [ht] at h
    dsimp only at h
    by_cases hc : A.1 + 1 ≤ (pr z).1 ∧ A.2.1 + sl ≤ (pr z).2.1
    · rw [if_pos hc] at h
      cases h
      exact ⟨_, _, _, rfl, rfl, rfl, hc, ht⟩
    · rw [if_neg hc] at h; cases h
def alg {β : Type} (pr : β → AS) (A : AS) (dm : DM) (n : Nat) (t : Nat → AS → DM → Option β) : Option β := match t (A.1 + 1) (grd A dm n n).1 (grd A dm n n).2 with
  | some x => if A.1 + (1 + n) ≤ (pr x).1 ∧ A.2.1 + (n + n * 4) ≤ (pr x).2.1 then some x else none
  | none => none
theorem alg_e {β : Type} {pr : β → AS} {A : AS} {dm : DM} {n : Nat} {t : Nat → AS → DM → Option β} {x : β} (h : alg pr A dm n t = some x) : ∃ q A1 m1, q = A.1 + 1 ∧ A1 = (grd A dm n n).1 ∧ m1 = (grd A dm n n).2 ∧ (A.1 + (1 + n) ≤ (pr x).1 ∧ A.2.1 + (n + n * 4) ≤ (pr x).2.1) ∧ t q A1 m1 = some x := by
  unfold alg at h
  cases ht : t (A.1 + 1) (grd A dm n n).1 (grd A dm n n).2 with
  | none => rw [ht] at h; cases h
  | some z =>
    rw [ht] at h
    dsimp only at h
    by_cases hc : A.1 + (1 + n) ≤ (pr z).1 ∧ A.2.1 + (n + n * 4) ≤ (pr z).2.1
    · rw [if_pos hc] at h
      cases h
      exact ⟨_, _, _, rfl, rfl, rfl, hc, ht⟩
    · rw [if_neg hc] at h; cases h
def bdg {α β : Type} (pr : β → AS) (A : AS) (a : Option α) (pa : α → AS) (k : α → Option β) : Option β := match a with
  | some x => match k x with
    | some y => if (A.1 ≤ (pa x).1 ∧ A.2.1 ≤ (pa x).2.1) ∧ (pa x).1 ≤ (pr y).1 ∧ (pa x).2.1 ≤ (pr y).2.1 then some y else none
    | none => none
  | none => none
theorem bdg_e {α β : Type} {pr : β → AS} {A : AS} {a : Option α} {pa : α → AS} {k : α → Option β} {y : β} (h : bdg pr A a pa k = some y) : ∃ x, a = some x ∧ ((A.1 ≤ (pa x).1 ∧ A.2.1 ≤ (pa x).2.1) ∧ (pa x).1 ≤ (pr y).1 ∧ (pa x).2.1 ≤ (pr y).2.1) ∧ k x = some y := by
  unfold bdg at h
  cases a with
  | none => cases h
  | some x =>
    dsimp only at h
    cases hk : k x with
    | none => rw [hk] at h; cases h
    | some z =>
      rw [hk] at h
      dsimp only at h
      by_cases hc : (A.1 ≤ (pa x).1 ∧ A.2.1 ≤ (pa x).2.1) ∧ (pa x).1 ≤ (pr z).1 ∧ (pa x).2.1 ≤ (pr z).2.1
      · rw [if_pos hc] at h
        cases h
        exact ⟨x, rfl, hc, hk⟩
      · rw [if_neg hc] at h; cases h
def dfl7 : Nat → Value := fun _ => .int 0
def dfl8 : Nat → Value := fun k => if k = 5 then .int 0 else .null
def dfl9 : Nat → Value := fun k => if k = 1 then .null else .int 0
def dfl10 : Nat → Value := fun k => if k = 3 then .null else .int 0
theorem dfl7_ok : ∀ j, j < 1 → defaultValue (tyA 7 j) = dfl7 j := by decide +kernel
theorem dfl8_ok : ∀ j, j < 10 → defaultValue (tyA 8 j) = dfl8 j := by decide +kernel
theorem dfl9_ok : ∀ j, j < 3 → defaultValue (tyA 9 j) = dfl9 j := by decide +kernel
theorem dfl10_ok : ∀ j, j < 4 → defaultValue (tyA 10 j) = dfl10 j := by decide +kernel
theorem dfl7_cv (K : KF) (j : Nat) (_h : j < 1) : cvv (kc K) (dfl7 j) = dfl7 j := rfl
theorem dfl8_cv (K : KF) (j : Nat) (_h : j < 10) : cvv (kc K) (dfl8 j) = dfl8 j := by
  unfold dfl8
  by_cases h : j = 5
  · rw [if_pos h]; rfl
  · rw [if_neg h]; rfl
theorem dfl9_cv (K : KF) (j : Nat) (_h : j < 3) : cvv (kc K) (dfl9 j) = dfl9 j := by
  unfold dfl9
  by_cases h : j = 1
  · rw [if_pos h]; rfl
  · rw [if_neg h]; rfl
theorem dfl10_cv (K : KF) (j : Nat) (_h : j < 4) : cvv (kc K) (dfl10 j) = dfl10 j := by
  unfold dfl10
  by_cases h : j = 3
  · rw [if_pos h]; rfl
  · rw [if_neg h]; rfl
