/-! the numbers: Int32 as the image of Int -/
def ii (z : Int) : Int32 := Int32.ofInt z
def ll (z : Int) : Int64 := Int64.ofInt z
theorem ii_add (a b : Int) : ii a + ii b = ii (a + b) := (Int32.ofInt_add a b).symm
theorem ii_sub (a b : Int) : ii a - ii b = ii (a - b) := (Int32.ofInt_sub a b).symm
theorem ii_mul (a b : Int) : ii a * ii b = ii (a * b) := (Int32.ofInt_mul a b).symm
theorem ii_neg (a : Int) : -ii a = ii (-a) := Int32.neg_ofInt
theorem ll_add (a b : Int) : ll a + ll b = ll (a + b) := (Int64.ofInt_add a b).symm
theorem ll_sub (a b : Int) : ll a - ll b = ll (a - b) := (Int64.ofInt_sub a b).symm
theorem ll_mul (a b : Int) : ll a * ll b = ll (a * b) := (Int64.ofInt_mul a b).symm
theorem ii_toInt {a : Int} (h1 : -2147483648 ≤ a) (h2 : a < 2147483648) : (ii a).toInt = a := Int32.toInt_ofInt_of_le h1 h2
theorem ii_lt {a b : Int} (h1 : -2147483648 ≤ a) (h2 : a < 2147483648) (h3 : -2147483648 ≤ b) (h4 : b < 2147483648) : (ii a < ii b) = (a < b) := by
  rw [Int32.lt_iff_toInt_lt, ii_toInt h1 h2, ii_toInt h3 h4]
theorem ii_eq {a b : Int} (h1 : -2147483648 ≤ a) (h2 : a < 2147483648) (h3 : -2147483648 ≤ b) (h4 : b < 2147483648) : (ii a = ii b) = (a = b) := by
  rw [← Int32.toInt_inj, ii_toInt h1 h2, ii_toInt h3 h4]
theorem ii_ll {a : Int} (h1 : -2147483648 ≤ a) (h2 : a < 2147483648) : (ii a).toInt64 = ll a := Int32.toInt64_ofInt (by rw [Int32.toInt_minValue]; omega) (by rw [Int32.toInt_maxValue]; omega)
theorem ii_of (x : Int32) : ii x.toInt = x := Int32.ofInt_toInt x
theorem ii_tn {a : Int} (h1 : -2147483648 ≤ a) (h2 : a < 2147483648) : (ii a).toNatClampNeg = a.toNat := Int32.toNatClampNeg_ofInt_of_le h1 h2
theorem ii_tk (a : Int) (k : Nat) (h : a = k) (hk : k < 2147483648) : (ii a).toNatClampNeg = k := by
  rw [ii_tn (by omega) (by omega)]; omega
theorem ii_nI (n : Nat) : nI n = ii n := Int32.ofInt_eq_ofNat.symm
theorem ii_div {a b : Int} (h1 : 0 ≤ a) (h2 : a < 2147483648) (h3 : 0 < b) (h4 : b < 2147483648) : ii a / ii b = ii (a / b) := by
  apply Int32.toInt_inj.mp
  have hq : 0 ≤ a / b := Int.ediv_nonneg h1 (by omega)
  have hq2 : a / b ≤ a := Int.ediv_le_self b h1
  have hb : ii b ≠ -1 := by
    intro h
    have h5 := congrArg Int32.toInt h
    rw [ii_toInt (by omega) h4] at h5
    have h6 : (-1 : Int32).toInt = -1 := by decide
    omega
  rw [Int32.toInt_div_of_ne_right _ _ hb, ii_toInt (by omega) h2, ii_toInt (by omega) h4, ii_toInt (by omega) (by omega), Int.tdiv_eq_ediv_of_nonneg h1]
theorem ii_inb {a : Int} {n : Nat} (h1 : 0 ≤ a) (h2 : a < n) (h3 : n < 2147483648) : inb (ii a) n = true := by
  unfold inb
  have e0 : (0 : Int32) = ii 0 := by decide
  have h4 : ¬ ii a < ii 0 := by rw [ii_lt (by omega) (by omega) (by omega) (by omega)]; omega
  rw [e0, ii_tn (by omega) (by omega), decide_eq_false h4, decide_eq_false (by omega)]
  rfl
theorem bd_some {α β : Type} (a : α) (k : α → Option β) : bd (some a) k = k a := rfl
theorem nm_eq {α β : Type} (a : α) (k : α → Option β) : nm a k = k a := rfl
theorem rdc_ii {β : Type} {q : Nat} {a : Int} {K : Option β} (h1 : 0 ≤ a) (h2 : a < ln q) (h3 : ln q < 2147483648) : rdc q (ii a) K = K := by
  unfold rdc
  rw [if_pos (ii_inb h1 h2 h3)]
theorem dvz_ii {β : Type} {a : Int} {K : Option β} (h1 : -2147483648 ≤ a) (h2 : a < 2147483648) (h3 : a ≠ 0) : dvz (ii a) K = K := by
  unfold dvz
  have e0 : (0 : Int32) = ii 0 := by decide
  rw [if_neg]
  rw [e0, ii_eq h1 h2 (by omega) (by omega)]
  exact h3
theorem bok_0 {β : Type} (K : Option β) : bok (ii 0) K = K := by
  unfold bok
  rw [if_pos (Or.inl (by decide))]
theorem bok_1 {β : Type} (K : Option β) : bok (ii 1) K = K := by
  unfold bok
  rw [if_pos (Or.inr (by decide))]
theorem mni_ii {a b : Int} (h1 : -2147483648 ≤ a) (h2 : a < 2147483648) (h3 : -2147483648 ≤ b) (h4 : b < 2147483648) : mni (ii a) (ii b) = ii (min a b) := by
  unfold mni
  by_cases h : b < a
  · rw [if_pos (by rw [ii_lt h3 h4 h1 h2]; exact h)]; congr 1; omega
  · rw [if_neg (by rw [ii_lt h3 h4 h1 h2]; exact h)]; congr 1; omega
theorem mxi_ii {a b : Int} (h1 : -2147483648 ≤ a) (h2 : a < 2147483648) (h3 : -2147483648 ≤ b) (h4 : b < 2147483648) : mxi (ii a) (ii b) = ii (max a b) := by
  unfold mxi
  by_cases h : a < b
  · rw [if_pos (by rw [ii_lt h1 h2 h3 h4]; exact h)]; congr 1; omega
  · rw [if_neg (by rw [ii_lt h1 h2 h3 h4]; exact h)]; congr 1; omega
theorem ite_ii (c : Prop) [Decidable c] (a b : Int) : (if c then some (ii a) else some (ii b)) = some (ii (if c then a else b)) := by
  by_cases h : c
  · rw [if_pos h, if_pos h]
  · rw [if_neg h, if_neg h]
theorem l0 : (0 : Int32) = ii 0 := by decide
theorem l1 : (1 : Int32) = ii 1 := by decide
theorem l2 : (2 : Int32) = ii 2 := by decide
theorem l3 : (3 : Int32) = ii 3 := by decide
theorem l4 : (4 : Int32) = ii 4 := by decide
theorem l5 : (5 : Int32) = ii 5 := by decide
theorem l6 : (6 : Int32) = ii 6 := by decide
theorem l7 : (7 : Int32) = ii 7 := by decide
theorem l8 : (8 : Int32) = ii 8 := by decide
theorem l9 : (9 : Int32) = ii 9 := by decide
theorem l10 : (10 : Int32) = ii 10 := by decide
theorem l11 : (11 : Int32) = ii 11 := by decide
theorem l12 : (12 : Int32) = ii 12 := by decide
theorem l13 : (13 : Int32) = ii 13 := by decide
theorem l20 : (20 : Int32) = ii 20 := by decide
theorem l24 : (24 : Int32) = ii 24 := by decide
theorem l25 : (25 : Int32) = ii 25 := by decide
theorem l32 : (32 : Int32) = ii 32 := by decide
theorem l48 : (48 : Int32) = ii 48 := by decide
theorem l57 : (57 : Int32) = ii 57 := by decide
theorem l59 : (59 : Int32) = ii 59 := by decide
theorem l79 : (79 : Int32) = ii 79 := by decide
theorem l97 : (97 : Int32) = ii 97 := by decide
theorem l100 : (100 : Int32) = ii 100 := by decide
theorem l105 : (105 : Int32) = ii 105 := by decide
theorem l122 : (122 : Int32) = ii 122 := by decide
theorem l235 : (235 : Int32) = ii 235 := by decide
theorem l255 : (255 : Int32) = ii 255 := by decide
theorem l500 : (500 : Int32) = ii 500 := by decide
theorem l2000 : (2000 : Int32) = ii 2000 := by decide
theorem l2500 : (2500 : Int32) = ii 2500 := by decide
theorem l8192 : (8192 : Int32) = ii 8192 := by decide
theorem l9999 : (9999 : Int32) = ii 9999 := by decide
theorem l10000 : (10000 : Int32) = ii 10000 := by decide
theorem lm1 : (-1 : Int32) = ii (-1) := by decide
theorem lm8 : (-8 : Int32) = ii (-8) := by decide
theorem lm1000000 : (-1000000 : Int32) = ii (-1000000) := by decide
theorem L0 : (0 : Int64) = ll 0 := by decide
theorem up2_at (mm : Mem) (q k : Nat) (v : Int32) : up2 mm q k v q k = v := by simp [up2]
theorem up2_c (mm : Mem) {q c : Nat} (k j : Nat) (v : Int32) (h : c ≠ q) : up2 mm q k v c j = mm c j := by simp [up2, h]
theorem up2_k (mm : Mem) (q c : Nat) {k j : Nat} (v : Int32) (h : j ≠ k) : up2 mm q k v c j = mm c j := by simp [up2, h]
def sm : Nat → (Nat → Int) → Int
  | 0, _ => 0
  | n + 1, f => sm n f + f n
theorem sm_0 (f : Nat → Int) : sm 0 f = 0 := rfl
theorem sm_s (n : Nat) (f : Nat → Int) : sm (n + 1) f = sm n f + f n := rfl
theorem sm_congr {n : Nat} {f g : Nat → Int} (h : ∀ i, i < n → f i = g i) : sm n f = sm n g := by
  induction n with
  | zero => rfl
  | succ n ih => rw [sm_s, sm_s, ih (fun i hi => h i (by omega)), h n (by omega)]
theorem sm_le {n : Nat} {f g : Nat → Int} (h : ∀ i, i < n → f i ≤ g i) : sm n f ≤ sm n g := by
  induction n with
  | zero => exact Int.le_refl _
  | succ n ih =>
    rw [sm_s, sm_s]
    have := ih (fun i hi => h i (by omega))
    have := h n (by omega)
    omega
theorem sm_const (n : Nat) (c : Int) : sm n (fun _ => c) = n * c := by
  induction n with
  | zero => rw [sm_0]; simp
  | succ n ih => rw [sm_s, ih, Int.natCast_add, Int.add_mul]; simp
theorem sm_zero {n : Nat} {f : Nat → Int} (h : ∀ i, i < n → f i = 0) : sm n f = 0 := by
  rw [sm_congr h, sm_const]; simp
theorem sm_nonneg {n : Nat} {f : Nat → Int} (h : ∀ i, i < n → 0 ≤ f i) : 0 ≤ sm n f := by
  have := sm_le (n := n) (f := fun _ => 0) (g := f) h
  rw [sm_const] at this
  simpa using this
theorem sm_add (n : Nat) (f g : Nat → Int) : sm n (fun i => f i + g i) = sm n f + sm n g := by
  induction n with
  | zero => rfl
  | succ n ih => rw [sm_s, sm_s, sm_s, ih]; omega
theorem sm_split (n m : Nat) (f : Nat → Int) : sm (n + m) f = sm n f + sm m (fun i => f (n + i)) := by
  induction m with
  | zero => simp [sm_0]
  | succ m ih => rw [← Nat.add_assoc, sm_s, sm_s, ih]; omega
theorem sm_one {n k : Nat} (hk : k < n) (f : Nat → Int) (h : ∀ i, i < n → i ≠ k → f i = 0) : sm n f = f k := by
  induction n with
  | zero => omega
  | succ n ih =>
    rw [sm_s]
    by_cases e : k = n
    · subst e
      rw [sm_zero (fun i hi => h i (by omega) (by omega))]
      omega
    · rw [ih (by omega) (fun i hi hne => h i (by omega) hne), h n (by omega) (fun e' => e e'.symm)]
      omega
