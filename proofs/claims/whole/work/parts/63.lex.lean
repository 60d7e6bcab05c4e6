/-! the tape's words and numbers -/
def rnn (P : Nat → Prop) [DecidablePred P] (L p : Nat) : Nat := ffl P (L - p) p
theorem rnn_le {P : Nat → Prop} [DecidablePred P] {L p : Nat} (h : p ≤ L) : p ≤ rnn P L p ∧ rnn P L p ≤ L := by
  have := ffl_le P (L - p) p
  unfold rnn
  omega
theorem rnn_at {P : Nat → Prop} [DecidablePred P] {L p : Nat} (h : rnn P L p < L) : P (rnn P L p) := by
  by_cases c : p ≤ L
  · exact ffl_at P (L - p) p (by unfold rnn at h; omega)
  · exfalso
    have := ffl_le P (L - p) p
    unfold rnn at h
    omega
theorem rnn_bf {P : Nat → Prop} [DecidablePred P] {L p : Nat} {i : Nat} (h1 : p ≤ i) (h2 : i < rnn P L p) : ¬ P i := ffl_before P (L - p) p i h1 h2
theorem rnn_e {P : Nat → Prop} [DecidablePred P] {L p : Nat} (h : L ≤ p) : rnn P L p = p := by
  unfold rnn
  rw [show L - p = 0 by omega]
  rfl
theorem rnn_s {P : Nat → Prop} [DecidablePred P] {L p : Nat} (h : P p) : rnn P L p = p := by
  unfold rnn
  cases L - p with
  | zero => rfl
  | succ d => unfold ffl; rw [if_pos h]
theorem rnn_g {P : Nat → Prop} [DecidablePred P] {L p : Nat} (h : p < L) (hp : ¬ P p) : rnn P L p = rnn P L (p + 1) := by
  unfold rnn
  obtain ⟨d, hd⟩ : ∃ d, L - p = d + 1 := ⟨L - p - 1, by omega⟩
  rw [hd, show L - (p + 1) = d by omega]
  show (if P p then p else ffl P d (p + 1)) = _
  rw [if_neg hp]
theorem rnn_r {P : Nat → Prop} [DecidablePred P] {L p : Nat} (h : p ≤ L) : rnn P L (rnn P L p) = rnn P L p := by
  by_cases c : rnn P L p < L
  · exact rnn_s (rnn_at c)
  · exact rnn_e (by omega)
abbrev isB (t : Nat → Int) (i : Nat) : Prop := ¬ (t i = 32 ∨ t i = 10)
abbrev isL (t : Nat → Int) (i : Nat) : Prop := ¬ (97 ≤ t i ∧ t i ≤ 122)
abbrev isD (t : Nat → Int) (i : Nat) : Prop := ¬ (48 ≤ t i ∧ t i ≤ 57)
def skp (t : Nat → Int) (L p : Nat) : Nat := rnn (isB t) L p
def lee (t : Nat → Int) (L p : Nat) : Nat := rnn (isL t) L p
def dee (t : Nat → Int) (L p : Nat) : Nat := rnn (isD t) L p
/-- a number read on, letters read on -/
def dvl (t : Nat → Int) : Int → Nat → Nat → Int
  | x, _, 0 => x
  | x, i, d + 1 => dvl t (x * 10 + t i - 48) (i + 1) d
def wvl (t : Nat → Int) : Int → Nat → Nat → Int
  | x, _, 0 => x
  | x, i, d + 1 => wvl t (x * 27 + t i - 96) (i + 1) d
theorem wvl_s (t : Nat → Int) (x : Int) (i d : Nat) : wvl t x i (d + 1) = wvl t x i d * 27 + t (i + d) - 96 := by
  induction d generalizing x i with
  | zero => rfl
  | succ d ih =>
    show wvl t (x * 27 + t i - 96) (i + 1) (d + 1) = wvl t (x * 27 + t i - 96) (i + 1) d * 27 + t (i + (d + 1)) - 96
    rw [ih, show i + 1 + d = i + (d + 1) by omega]
def tkd (t : Nat → Int) (L q : Nat) : Int := if q < L then (if 97 ≤ t q ∧ t q ≤ 122 then 0 else if 48 ≤ t q ∧ t q ≤ 57 then 1 else if t q = 59 then 2 else 4) else 3
def tnx (t : Nat → Int) (L q : Nat) : Nat := if q < L then (if 97 ≤ t q ∧ t q ≤ 122 then lee t L q else if 48 ≤ t q ∧ t q ≤ 57 then dee t L q else q + 1) else q
def tnu (t : Nat → Int) (L q : Nat) : Int := if q < L ∧ (48 ≤ t q ∧ t q ≤ 57) then dvl t 0 q (dee t L q - q) else 0
theorem lee_gt {t : Nat → Int} {L q : Nat} (h : q < L) (hq : 97 ≤ t q ∧ t q ≤ 122) : q < lee t L q := by
  unfold lee
  rw [rnn_g h (fun x => x hq)]
  have := rnn_le (P := isL t) (L := L) (p := q + 1) (by omega)
  omega
theorem dee_gt {t : Nat → Int} {L q : Nat} (h : q < L) (hq : 48 ≤ t q ∧ t q ≤ 57) : q < dee t L q := by
  unfold dee
  rw [rnn_g h (fun x => x hq)]
  have := rnn_le (P := isD t) (L := L) (p := q + 1) (by omega)
  omega
theorem tnx_le {t : Nat → Int} {L q : Nat} (h : q ≤ L) : q ≤ tnx t L q ∧ tnx t L q ≤ L ∧ (q < L → q < tnx t L q) := by
  unfold tnx
  by_cases c : q < L
  · rw [if_pos c]
    by_cases a : 97 ≤ t q ∧ t q ≤ 122
    · rw [if_pos a]
      have := lee_gt c a
      have b := rnn_le (P := isL t) (L := L) (p := q) h
      unfold lee at this ⊢
      omega
    · rw [if_neg a]
      by_cases e : 48 ≤ t q ∧ t q ≤ 57
      · rw [if_pos e]
        have := dee_gt c e
        have b := rnn_le (P := isD t) (L := L) (p := q) h
        unfold dee at this ⊢
        omega
      · rw [if_neg e]; omega
  · rw [if_neg c]; omega
/-- a tape, a token of the class -/
def TP (mm : Mem) (t : Nat → Int) (L : Nat) : Prop := mm 74 1 = ii L ∧ (∀ i, i < L → mm 75 i = ii (t i)) ∧ L ≤ 500 ∧ (∀ i, i < L → 0 ≤ t i ∧ t i ≤ 255)
def TK (mm : Mem) (t : Nat → Int) (L q : Nat) : Prop := q ≤ L ∧ mm 73 4 = ii q ∧ mm 73 3 = ii (tkd t L q) ∧ mm 73 6 = ii (tnx t L q) ∧ mm 73 5 = ii (tnu t L q)
def F73 (mm m' : Mem) : Prop := ∀ c, c ≠ 73 → m' c = mm c
theorem F73.tr {a b c : Mem} (h : F73 a b) (h2 : F73 b c) : F73 a c := fun q hq => by rw [h2 q hq, h q hq]
theorem F73.rf (a : Mem) : F73 a a := fun _ _ => rfl
theorem F73.u {a b : Mem} (h : F73 a b) (k : Nat) (v : Int32) : F73 a (up2 b 73 k v) := fun q hq => by rw [← h q hq]; funext j; exact up2_c _ _ _ _ hq
theorem up2_2 (m : Mem) (c k : Nat) (v w : Int32) : up2 (up2 m c k v) c k w = up2 m c k w := by
  funext a j
  unfold up2
  by_cases h : a = c ∧ j = k
  · rw [if_pos h, if_pos h]
  · rw [if_neg h, if_neg h, if_neg h]
theorem up2_s {m : Mem} {c k : Nat} {v : Int32} (h : m c k = v) : up2 m c k v = m := by
  funext a j
  unfold up2
  by_cases e : a = c ∧ j = k
  · rw [if_pos e, e.1, e.2, h]
  · rw [if_neg e]
theorem up2_x (m : Mem) (c k j : Nat) (v w : Int32) (h : k ≠ j) : up2 (up2 m c k v) c j w = up2 (up2 m c j w) c k v := by
  funext a b
  unfold up2
  by_cases e : a = c ∧ b = j
  · rw [if_pos e, if_neg (by omega), if_pos e]
  · rw [if_neg e, if_neg e]
section
variable {mm m' : Mem} {t : Nat → Int} {L : Nat}
theorem TP.fr (h : TP mm t L) (hf : F73 mm m') : TP m' t L := ⟨by rw [hf 74 (by omega)]; exact h.1, fun i hi => by rw [hf 75 (by omega)]; exact h.2.1 i hi, h.2.2⟩
theorem TP.u (h : TP mm t L) (k : Nat) (v : Int32) : TP (up2 mm 73 k v) t L := h.fr ((F73.rf mm).u k v)
theorem tp_at (h : TP mm t L) {p : Nat} (hp : p < L) : f6_at mm 75 (ii p) = some (ii (t p)) := by
  have hl := h.2.2.1
  rw [at_i mm lnR.2.2.2.2.2.2.2.2.2.2.2.2.2 (k := p) (by omega) (by omega), h.2.1 p hp]
theorem f4_isBlank_ok (m : Mem) {x : Int} (h : 0 ≤ x ∧ x ≤ 255) : f4_isBlank m (ii x) = some (ii (if x = 32 ∨ x = 10 then 1 else 0)) := by
  unfold f4_isBlank f4_isBlank_j12
  rw [l32, l10, l1, l0]
  by_cases a : x = 32
  · rw [if_pos (by rw [a]), if_pos (Or.inl a)]
  · rw [if_neg (ine a (by omega) (by omega) (by omega) (by omega))]
    by_cases b : x = 10
    · rw [if_pos (by rw [b]), if_pos (Or.inr b)]
    · rw [if_neg (ine b (by omega) (by omega) (by omega) (by omega)), if_neg (by omega)]
theorem f4_isLetter_ok (m : Mem) {x : Int} (h : 0 ≤ x ∧ x ≤ 255) : f4_isLetter m (ii x) = some (ii (if 97 ≤ x ∧ x ≤ 122 then 1 else 0)) := by
  unfold f4_isLetter
  rw [l97, l122, l1, l0]
  by_cases a : x < 97
  · rw [if_pos (ilt a (by omega) (by omega)), if_neg (by omega)]
  · rw [if_neg (inlt (by omega) (by omega) (by omega))]
    by_cases b : 122 < x
    · rw [if_pos (ilt b (by omega) (by omega)), if_neg (by omega)]
    · rw [if_neg (inlt (by omega) (by omega) (by omega)), if_pos (by omega)]
theorem f4_isDigit_ok (m : Mem) {x : Int} (h : 0 ≤ x ∧ x ≤ 255) : f4_isDigit m (ii x) = some (ii (if 48 ≤ x ∧ x ≤ 57 then 1 else 0)) := by
  unfold f4_isDigit
  rw [l48, l57, l1, l0]
  by_cases a : x < 48
  · rw [if_pos (ilt a (by omega) (by omega)), if_neg (by omega)]
  · rw [if_neg (inlt (by omega) (by omega) (by omega))]
    by_cases b : 57 < x
    · rw [if_pos (ilt b (by omega) (by omega)), if_neg (by omega)]
    · rw [if_neg (inlt (by omega) (by omega) (by omega)), if_pos (by omega)]
theorem ad0 (h : TP mm t L) : ∀ (d p n : Nat), p + d = L → d < n → f4_advance_l0 n (up2 mm 73 6 (ii p)) = f4_advance_j47 (up2 mm 73 6 (ii (skp t L p))) := by
  have hl := h.2.2.1
  intro d
  induction d with
  | zero =>
    intro p n hp hdn
    obtain ⟨q, rfl⟩ : ∃ q, n = q + 1 := ⟨n - 1, by omega⟩
    have h' := h.u 6 (ii p)
    rw [f4_advance_l0, up2_at, h'.1, if_neg (inlt (by omega) (by omega) (by omega))]
    unfold skp
    rw [rnn_e (by omega)]
  | succ d ih =>
    intro p n hp hdn
    obtain ⟨q, rfl⟩ : ∃ q, n = q + 1 := ⟨n - 1, by omega⟩
    have h' := h.u 6 (ii p)
    have b := h.2.2.2 p (by omega)
    rw [f4_advance_l0, up2_at, h'.1, if_pos (ilt (by omega) (by omega) (by omega)), tp_at h' (by omega), bd_some, f4_isBlank_ok _ b, bd_some, l0, l1]
    unfold skp
    by_cases c : t p = 32 ∨ t p = 10
    · rw [if_pos c, if_neg (by decide), ii_add, nm_eq, up2_2]
      have e := ih (p + 1) q (by omega) (by omega)
      rw [rnn_g (by omega) (fun x => x c)]
      exact e
    · rw [if_neg c, if_pos rfl, rnn_s c]
theorem ad107 (h : TP mm t L) : ∀ (d p n : Nat), p + d = L → d < n → f4_advance_l107 n (up2 mm 73 6 (ii p)) = some (up2 mm 73 6 (ii (lee t L p))) := by
  have hl := h.2.2.1
  intro d
  induction d with
  | zero =>
    intro p n hp hdn
    obtain ⟨q, rfl⟩ : ∃ q, n = q + 1 := ⟨n - 1, by omega⟩
    have h' := h.u 6 (ii p)
    rw [f4_advance_l107, up2_at, h'.1, if_neg (inlt (by omega) (by omega) (by omega))]
    unfold lee
    rw [rnn_e (by omega)]
  | succ d ih =>
    intro p n hp hdn
    obtain ⟨q, rfl⟩ : ∃ q, n = q + 1 := ⟨n - 1, by omega⟩
    have h' := h.u 6 (ii p)
    have b := h.2.2.2 p (by omega)
    rw [f4_advance_l107, up2_at, h'.1, if_pos (ilt (by omega) (by omega) (by omega)), tp_at h' (by omega), bd_some, f4_isLetter_ok _ b, bd_some, l0, l1]
    unfold lee
    by_cases c : 97 ≤ t p ∧ t p ≤ 122
    · rw [if_pos c, if_neg (by decide), ii_add, nm_eq, up2_2]
      have e := ih (p + 1) q (by omega) (by omega)
      rw [rnn_g (by omega) (fun x => x c)]
      exact e
    · rw [if_neg c, if_pos rfl, rnn_s c]
theorem ad166 (h : TP mm t L) : ∀ (d p n : Nat) (x : Int), p + d = L → d < n → f4_advance_l166 n (up2 (up2 mm 73 5 (ii x)) 73 6 (ii p)) = some (up2 (up2 mm 73 5 (ii (dvl t x p (dee t L p - p)))) 73 6 (ii (dee t L p))) := by
  have hl := h.2.2.1
  intro d
  induction d with
  | zero =>
    intro p n x hp hdn
    obtain ⟨q, rfl⟩ : ∃ q, n = q + 1 := ⟨n - 1, by omega⟩
    have h' := (h.u 5 (ii x)).u 6 (ii p)
    rw [f4_advance_l166, up2_at, h'.1, if_neg (inlt (by omega) (by omega) (by omega))]
    unfold dee
    rw [rnn_e (by omega), Nat.sub_self]
    rfl
  | succ d ih =>
    intro p n x hp hdn
    obtain ⟨q, rfl⟩ : ∃ q, n = q + 1 := ⟨n - 1, by omega⟩
    have h' := (h.u 5 (ii x)).u 6 (ii p)
    have b := h.2.2.2 p (by omega)
    rw [f4_advance_l166, up2_at, h'.1, if_pos (ilt (by omega) (by omega) (by omega)), tp_at h' (by omega), bd_some, f4_isDigit_ok _ b, bd_some, l0, l1, l10, l48]
    by_cases c : 48 ≤ t p ∧ t p ≤ 57
    · have e := ih (p + 1) q (x * 10 + t p - 48) (by omega) (by omega)
      have g : dee t L p = dee t L (p + 1) := by unfold dee; exact rnn_g (by omega) (fun x => x c)
      have g1 := rnn_le (P := isD t) (L := L) (p := p + 1) (by omega)
      have g1 : p + 1 ≤ dee t L (p + 1) := g1.1
      have r6 : up2 (up2 (up2 mm 73 5 (ii x)) 73 6 (ii p)) 73 5 (ii (x * 10 + t p - 48)) 73 6 = ii p := by rw [up2_k _ _ _ _ (by omega), up2_at]
      have r5 : up2 (up2 mm 73 5 (ii x)) 73 6 (ii p) 73 5 = ii x := by rw [up2_k _ _ _ _ (by omega), up2_at]
      have ew : up2 (up2 (up2 (up2 mm 73 5 (ii x)) 73 6 (ii p)) 73 5 (ii (x * 10 + t p - 48))) 73 6 (ii ((p : Int) + 1)) = up2 (up2 mm 73 5 (ii (x * 10 + t p - 48))) 73 6 (ii ((p : Int) + 1)) := by
        rw [up2_x (up2 mm 73 5 (ii x)) 73 6 5 (ii p) (ii (x * 10 + t p - 48)) (by omega), up2_2, up2_2]
      rw [if_pos c, if_neg (by decide), bd_some, r5, ii_mul, ii_add, ii_sub, nm_eq, r6, ii_add, nm_eq, ew, g, show dee t L (p + 1) - p = dee t L (p + 1) - (p + 1) + 1 by omega]
      exact e
    · rw [if_neg c, if_pos rfl]
      unfold dee
      rw [rnn_s c, Nat.sub_self]
      rfl
theorem ad47 (h : TP mm t L) {q : Nat} (hq : q ≤ L) (h6 : mm 73 6 = ii q) : ∃ m', f4_advance_j47 mm = some m' ∧ F73 mm m' ∧ (∀ k, k < 3 ∨ 6 < k → m' 73 k = mm 73 k) ∧ TK m' t L q := by
  have hl := h.2.2.1
  have e6 : up2 mm 73 6 (ii q) = mm := up2_s h6
  have h1 := (h.u 4 (ii q)).u 5 (ii 0)
  have g6 : (up2 (up2 mm 73 4 (ii q)) 73 5 (ii 0)) 73 6 = ii q := by rw [up2_k _ _ _ _ (by omega), up2_k _ _ _ _ (by omega), h6]
  unfold f4_advance_j47 f4_advance_j254
  rw [h6, nm_eq, l0, nm_eq, g6, h1.1]
  by_cases c : q < L
  · have b := h.2.2.2 q c
    rw [if_pos (ilt (by omega) (by omega) (by omega)), tp_at h1 c, bd_some, f4_isLetter_ok _ b, bd_some, f4_isDigit_ok _ b, bd_some, l59, l1, l2, l4]
    by_cases d : 97 ≤ t q ∧ t q ≤ 122
    · have h3 := h1.u 3 (ii 0)
      have e := ad107 h3 (L - q) q FU (by omega) (by unfold FU; omega)
      have s6 : up2 (up2 (up2 (up2 mm 73 4 (ii q)) 73 5 (ii 0)) 73 3 (ii 0)) 73 6 (ii q) = up2 (up2 (up2 mm 73 4 (ii q)) 73 5 (ii 0)) 73 3 (ii 0) := up2_s (by rw [up2_k _ _ _ _ (by omega), g6])
      rw [s6] at e
      refine ⟨_, by rw [if_pos d, if_neg (by decide), nm_eq, e], ((((F73.rf mm).u _ _).u _ _).u _ _).u _ _, fun k hk => by rw [up2_k _ _ _ _ (by omega), up2_k _ _ _ _ (by omega), up2_k _ _ _ _ (by omega), up2_k _ _ _ _ (by omega)], hq, ?_, ?_, ?_, ?_⟩
      · rw [up2_k _ _ _ _ (by omega), up2_k _ _ _ _ (by omega), up2_k _ _ _ _ (by omega), up2_at]
      · rw [up2_k _ _ _ _ (by omega), up2_at]; unfold tkd; rw [if_pos c, if_pos d]
      · rw [up2_at]; unfold tnx; rw [if_pos c, if_pos d]
      · rw [up2_k _ _ _ _ (by omega), up2_k _ _ _ _ (by omega), up2_at]; unfold tnu; rw [if_neg (by omega)]
    · rw [if_neg d, if_pos rfl]
      by_cases f : 48 ≤ t q ∧ t q ≤ 57
      · have h3 := (h.u 4 (ii q)).u 3 (ii 1)
        have e := ad166 h3 (L - q) q FU 0 (by omega) (by unfold FU; omega)
        have s6 : up2 (up2 (up2 (up2 mm 73 4 (ii q)) 73 3 (ii 1)) 73 5 (ii 0)) 73 6 (ii q) = up2 (up2 (up2 mm 73 4 (ii q)) 73 5 (ii 0)) 73 3 (ii 1) := by
          have z : (up2 (up2 (up2 mm 73 4 (ii q)) 73 5 (ii 0)) 73 3 (ii 1)) 73 6 = ii q := by rw [up2_k _ _ _ _ (by omega), g6]
          rw [up2_x (up2 mm 73 4 (ii q)) 73 3 5 (ii 1) (ii 0) (by omega)]
          exact up2_s z
        rw [s6] at e
        refine ⟨_, by rw [if_pos f, if_neg (by decide), nm_eq, e], ((((F73.rf mm).u _ _).u _ _).u _ _).u _ _, fun k hk => by rw [up2_k _ _ _ _ (by omega), up2_k _ _ _ _ (by omega), up2_k _ _ _ _ (by omega), up2_k _ _ _ _ (by omega)], hq, ?_, ?_, ?_, ?_⟩
        · rw [up2_k _ _ _ _ (by omega), up2_k _ _ _ _ (by omega), up2_k _ _ _ _ (by omega), up2_at]
        · rw [up2_k _ _ _ _ (by omega), up2_k _ _ _ _ (by omega), up2_at]; unfold tkd; rw [if_pos c, if_neg d, if_pos f]
        · rw [up2_at]; unfold tnx; rw [if_pos c, if_neg d, if_pos f]
        · rw [up2_k _ _ _ _ (by omega), up2_at]; unfold tnu; rw [if_pos ⟨c, f⟩]
      · have fin : ∀ x : Int, x = tkd t L q → ∃ m', (nm (up2 (up2 (up2 mm 73 4 (ii q)) 73 5 (ii 0)) 73 3 (ii x)) fun m6 => nm (up2 m6 73 6 (m6 73 6 + ii 1)) fun m7 => some m7) = some m' ∧ F73 mm m' ∧ (∀ k, k < 3 ∨ 6 < k → m' 73 k = mm 73 k) ∧ TK m' t L q := by
          intro x hx
          refine ⟨_, by rw [nm_eq, up2_k _ _ _ _ (by omega), g6, ii_add, nm_eq], ((((F73.rf mm).u _ _).u _ _).u _ _).u _ _, fun k hk => by rw [up2_k _ _ _ _ (by omega), up2_k _ _ _ _ (by omega), up2_k _ _ _ _ (by omega), up2_k _ _ _ _ (by omega)], hq, ?_, ?_, ?_, ?_⟩
          · rw [up2_k _ _ _ _ (by omega), up2_k _ _ _ _ (by omega), up2_k _ _ _ _ (by omega), up2_at]
          · rw [up2_k _ _ _ _ (by omega), up2_at, hx]
          · rw [up2_at]; unfold tnx; rw [if_pos c, if_neg d, if_neg f]; rfl
          · rw [up2_k _ _ _ _ (by omega), up2_k _ _ _ _ (by omega), up2_at]; unfold tnu; rw [if_neg (fun x => f x.2)]
        rw [if_neg f, if_pos rfl]
        by_cases g : t q = 59
        · rw [if_pos (by rw [g])]
          exact fin 2 (by unfold tkd; rw [if_pos c, if_neg d, if_neg f, if_pos g])
        · rw [if_neg (ine g (by omega) (by omega) (by omega) (by omega))]
          exact fin 4 (by unfold tkd; rw [if_pos c, if_neg d, if_neg f, if_neg g])
  · rw [if_neg (inlt (by omega) (by omega) (by omega)), l3]
    refine ⟨_, by rw [nm_eq], (((F73.rf mm).u _ _).u _ _).u _ _, fun k hk => by rw [up2_k _ _ _ _ (by omega), up2_k _ _ _ _ (by omega), up2_k _ _ _ _ (by omega)], hq, ?_, ?_, ?_, ?_⟩
    · rw [up2_k _ _ _ _ (by omega), up2_k _ _ _ _ (by omega), up2_at]
    · rw [up2_at]; unfold tkd; rw [if_neg c]
    · rw [up2_k _ _ _ _ (by omega), g6]; unfold tnx; rw [if_neg c]
    · rw [up2_k _ _ _ _ (by omega), up2_at]; unfold tnu; rw [if_neg (fun x => c x.1)]
theorem f4_advance_ok (h : TP mm t L) {p : Nat} (hp : p ≤ L) (h6 : mm 73 6 = ii p) : ∃ m', f4_advance mm = some m' ∧ F73 mm m' ∧ (∀ k, k < 3 ∨ 6 < k → m' 73 k = mm 73 k) ∧ TK m' t L (skp t L p) := by
  have e := ad0 h (L - p) p FU (by omega) (by have := h.2.2.1; unfold FU; omega)
  rw [up2_s h6] at e
  obtain ⟨m', f1, f2, f3, f4⟩ := ad47 (h.u 6 (ii (skp t L p))) (q := skp t L p) (rnn_le hp).2 (up2_at _ _ _ _)
  refine ⟨m', ?_, ((F73.rf mm).u _ _).tr f2, fun k hk => by rw [f3 k hk, up2_k _ _ _ _ (by omega)], f4⟩
  unfold f4_advance
  rw [e, f1]
end
