/-! the tape, as the reference reads it -/
def TR (mm : Mem) (t : Nat → Int) (L : Nat) : Prop := mm 0 15 = ii L ∧ (∀ i, i < L → mm 12 i = ii (t i)) ∧ L ≤ 500 ∧ (∀ i, i < L → 0 ≤ t i ∧ t i ≤ 255)
def FL (mm m' : Mem) : Prop := (∀ c, c ≠ 0 → c ≠ 13 → m' c = mm c) ∧ ∀ j, (j < 17 ∨ 20 < j) → m' 0 j = mm 0 j
def chr' (t : Nat → Int) (L q : Nat) : Int := if q < L then t q else -1
abbrev isn (t : Nat → Int) (L q : Nat) : Prop := q < L ∧ 48 ≤ t q ∧ t q ≤ 57
abbrev isw (t : Nat → Int) (L q : Nat) : Prop := q < L ∧ 97 ≤ t q ∧ t q ≤ 122
abbrev nok (t : Nat → Int) (L q : Nat) (lo hi : Int) : Prop := isn t L q ∧ dee t L q - q ≤ 4 ∧ lo ≤ tnu t L q ∧ tnu t L q ≤ hi
def nft (t : Nat → Int) (L q : Nat) : Int := if isn t L q ∧ dee t L q - q ≤ 4 then 2 + 8 * (q : Int) else 1 + 8 * (q : Int)
theorem dvl_4 {t : Nat → Int} {i : Nat} : ∀ d, d ≤ 4 → (∀ k, k < d → 48 ≤ t (i + k) ∧ t (i + k) ≤ 57) → 0 ≤ dvl t 0 i d ∧ dvl t 0 i d ≤ 9999 := by
  intro d hd h
  match d, hd, h with
  | 0, _, _ => exact ⟨Int.le_refl _, by show (0 : Int) ≤ 9999; omega⟩
  | 1, _, h =>
    have a := h 0 (by omega)
    show 0 ≤ 0 * 10 + t i - 48 ∧ 0 * 10 + t i - 48 ≤ 9999
    rw [Nat.add_zero] at a
    omega
  | 2, _, h =>
    have a := h 0 (by omega)
    have b := h 1 (by omega)
    show 0 ≤ (0 * 10 + t i - 48) * 10 + t (i + 1) - 48 ∧ (0 * 10 + t i - 48) * 10 + t (i + 1) - 48 ≤ 9999
    rw [Nat.add_zero] at a
    omega
  | 3, _, h =>
    have a := h 0 (by omega)
    have b := h 1 (by omega)
    have c := h 2 (by omega)
    show 0 ≤ ((0 * 10 + t i - 48) * 10 + t (i + 1) - 48) * 10 + t (i + 1 + 1) - 48 ∧ ((0 * 10 + t i - 48) * 10 + t (i + 1) - 48) * 10 + t (i + 1 + 1) - 48 ≤ 9999
    rw [Nat.add_zero] at a
    rw [show i + 1 + 1 = i + 2 by omega]
    omega
  | 4, _, h =>
    have a := h 0 (by omega)
    have b := h 1 (by omega)
    have c := h 2 (by omega)
    have e := h 3 (by omega)
    show 0 ≤ (((0 * 10 + t i - 48) * 10 + t (i + 1) - 48) * 10 + t (i + 1 + 1) - 48) * 10 + t (i + 1 + 1 + 1) - 48 ∧ (((0 * 10 + t i - 48) * 10 + t (i + 1) - 48) * 10 + t (i + 1 + 1) - 48) * 10 + t (i + 1 + 1 + 1) - 48 ≤ 9999
    rw [Nat.add_zero] at a
    rw [show i + 1 + 1 + 1 = i + 3 by omega, show i + 1 + 1 = i + 2 by omega]
    omega
theorem dee_c {t : Nat → Int} {L q : Nat} : ∀ l, l < dee t L q - q → 48 ≤ t (q + l) ∧ t (q + l) ≤ 57 := by
  intro l hl
  have a := rnn_bf (P := isD t) (L := L) (p := q) (i := q + l) (by omega) (by unfold dee at hl; omega)
  exact Classical.byContradiction (fun x => a x)
theorem tnu_b {t : Nat → Int} {L q : Nat} (h : isn t L q) (h4 : dee t L q - q ≤ 4) : tnu t L q = dvl t 0 q (dee t L q - q) ∧ 0 ≤ tnu t L q ∧ tnu t L q ≤ 9999 := by
  have e : tnu t L q = dvl t 0 q (dee t L q - q) := by unfold tnu; rw [if_pos h]
  have b := dvl_4 (t := t) (i := q) (dee t L q - q) h4 dee_c
  rw [e]
  exact ⟨rfl, b⟩
theorem FL.rf (a : Mem) : FL a a := ⟨fun _ _ _ => rfl, fun _ _ => rfl⟩
theorem FL.tr {a b c : Mem} (h : FL a b) (h2 : FL b c) : FL a c := ⟨fun q h3 h4 => by rw [h2.1 q h3 h4, h.1 q h3 h4], fun j hj => by rw [h2.2 j hj, h.2 j hj]⟩
theorem FL.u {a b : Mem} (h : FL a b) {k : Nat} (hk : 17 ≤ k ∧ k ≤ 20) (v : Int32) : FL a (up2 b 0 k v) := ⟨fun q h3 h4 => by rw [← h.1 q h3 h4]; funext j; exact up2_c _ _ _ _ h3, fun j hj => by rw [← h.2 j hj]; exact up2_k _ _ _ _ (by omega)⟩
theorem FL.u13 {a b : Mem} (h : FL a b) (k : Nat) (v : Int32) : FL a (up2 b 13 k v) := ⟨fun q h3 h4 => by rw [← h.1 q h3 h4]; funext j; exact up2_c _ _ _ _ h4, fun j hj => by rw [← h.2 j hj]; exact up2_c _ _ _ _ (by omega)⟩
section
variable {mm m' : Mem} {t : Nat → Int} {L : Nat}
theorem TR.fl (h : TR mm t L) (hf : FL mm m') : TR m' t L := ⟨by rw [hf.2 15 (by omega)]; exact h.1, fun i hi => by rw [hf.1 12 (by omega) (by omega)]; exact h.2.1 i hi, h.2.2⟩
theorem TR.u (h : TR mm t L) {k : Nat} (hk : 17 ≤ k ∧ k ≤ 20) (v : Int32) : TR (up2 mm 0 k v) t L := h.fl ((FL.rf mm).u hk v)
theorem rdt (h : TR mm t L) {p : Nat} (hp : p < L) {β : Type} (K : Int32 → Option β) : rdc 12 (ii p) (nm (mm 12 (ii p).toNatClampNeg) K) = K (ii (t p)) := by
  have hl := h.2.2.1
  rw [rdq mm lnR.2.2.2.2.2.2.2.2.2.2.2.1 (k := p) (by omega) (by omega) rfl, h.2.1 p hp]
theorem hr0 (h : TR mm t L) : ∀ (d p n : Nat), p + d = L → d < n → f7_here_l0 n (up2 mm 0 17 (ii p)) = f7_here_j52 (up2 mm 0 17 (ii (skp t L p))) := by
  have hl := h.2.2.1
  intro d
  induction d with
  | zero =>
    intro p n hp hdn
    obtain ⟨q, rfl⟩ : ∃ q, n = q + 1 := ⟨n - 1, by omega⟩
    have h' := h.u (k := 17) (by omega) (ii p)
    rw [f7_here_l0, up2_at, h'.1, if_neg (inlt (by omega) (by omega) (by omega))]
    unfold skp
    rw [rnn_e (by omega)]
  | succ d ih =>
    intro p n hp hdn
    obtain ⟨q, rfl⟩ : ∃ q, n = q + 1 := ⟨n - 1, by omega⟩
    have h' := h.u (k := 17) (by omega) (ii p)
    have b := h.2.2.2 p (by omega)
    rw [f7_here_l0, up2_at, h'.1, if_pos (ilt (by omega) (by omega) (by omega)), rdt h' (by omega), rdt h' (by omega), l32, l10]
    unfold f7_here_j39
    rw [up2_at, l1, ii_add, up2_2, nm_eq]
    have e := ih (p + 1) q (by omega) (by omega)
    unfold skp at e ⊢
    by_cases c : t p = 32
    · rw [if_pos (by rw [c]), rnn_g (P := isB t) (by omega) (fun x => x (Or.inl c))]
      exact e
    · rw [if_neg (ine c (by omega) (by omega) (by omega) (by omega))]
      by_cases c2 : t p = 10
      · rw [if_pos (by rw [c2]), rnn_g (P := isB t) (by omega) (fun x => x (Or.inr c2))]
        exact e
      · rw [if_neg (ine c2 (by omega) (by omega) (by omega) (by omega)), rnn_s (P := isB t) (by omega)]
theorem f7_here_ok (h : TR mm t L) {p q : Nat} (hp : p ≤ L) (h17 : mm 0 17 = ii p) (hq : skp t L p = q) : f7_here mm = some (ii (chr' t L q), up2 mm 0 17 (ii q)) := by
  have hl := h.2.2.1
  have e := hr0 h (L - p) p FU (by omega) (by unfold FU; omega)
  rw [up2_s h17, hq] at e
  have h' := h.u (k := 17) (by omega) (ii q)
  unfold f7_here
  rw [e]
  unfold f7_here_j52 chr'
  have ql : q ≤ L := by rw [← hq]; exact (rnn_le hp).2
  rw [up2_at, h'.1]
  by_cases c : q < L
  · rw [if_pos (ilt (by omega) (by omega) (by omega)), rdt h' c, if_pos c]
  · rw [if_neg (inlt (by omega) (by omega) (by omega)), if_neg c, lm1]
theorem chr_b (h : TR mm t L) (q : Nat) : -1 ≤ chr' t L q ∧ chr' t L q ≤ 255 := by
  unfold chr'
  by_cases c : q < L
  · have := h.2.2.2 q c
    rw [if_pos c]; omega
  · rw [if_neg c]; omega
theorem f7_isDigit_ok (h : TR mm t L) {p q : Nat} (hp : p ≤ L) (h17 : mm 0 17 = ii p) (hq : skp t L p = q) : f7_isDigit mm = some (ii (if isn t L q then 1 else 0), up2 mm 0 17 (ii q)) := by
  have b := chr_b h q
  unfold f7_isDigit
  rw [f7_here_ok h hp h17 hq, bd_some, l48, l57]
  show bd (f7_in (up2 mm 0 17 (ii q)) (ii (chr' t L q)) (ii 48) (ii 57)) _ = _
  rw [f7_in_ok (by omega) (by omega) (by omega) (by omega) (by omega) (by omega), bd_some, bok_c]
  unfold chr' isn
  by_cases c : q < L
  · rw [if_pos c]
    by_cases d : 48 ≤ t q ∧ t q ≤ 57
    · rw [if_pos d, if_pos ⟨c, d⟩]
    · rw [if_neg d, if_neg (fun x => d x.2)]
  · rw [if_neg c, if_neg (by omega), if_neg (fun x => c x.1)]
theorem f7_isWord_ok (h : TR mm t L) {p q : Nat} (hp : p ≤ L) (h17 : mm 0 17 = ii p) (hq : skp t L p = q) : f7_isWord mm = some (ii (if isw t L q then 1 else 0), up2 mm 0 17 (ii q)) := by
  have b := chr_b h q
  unfold f7_isWord
  rw [f7_here_ok h hp h17 hq, bd_some, l97, l122]
  show bd (f7_in (up2 mm 0 17 (ii q)) (ii (chr' t L q)) (ii 97) (ii 122)) _ = _
  rw [f7_in_ok (by omega) (by omega) (by omega) (by omega) (by omega) (by omega), bd_some, bok_c]
  unfold chr' isw
  by_cases c : q < L
  · rw [if_pos c]
    by_cases d : 97 ≤ t q ∧ t q ≤ 122
    · rw [if_pos d, if_pos ⟨c, d⟩]
    · rw [if_neg d, if_neg (fun x => d x.2)]
  · rw [if_neg c, if_neg (by omega), if_neg (fun x => c x.1)]
theorem fails_ok (m : Mem) (a b : Int) : f7_fails m (ii a) (ii b) = some (ii 0, up2 m 0 18 (ii (a + 8 * b))) := by
  unfold f7_fails
  rw [l8, ii_mul, ii_add, nm_eq, l0]
theorem nm30 (h : TR mm t L) {q : Nat} (h20 : mm 0 20 = ii q) (x1 x2 x3 : Int32) : ∀ (d i n : Nat) (x : Int), i + d = L → d < n → q ≤ i → ∃ y, (dee t L i - q ≤ 4 → y = dvl t x i (dee t L i - i)) ∧ f7_number_l30 n x1 x2 x3 (up2 (up2 mm 0 19 (ii x)) 0 17 (ii i)) = f7_number_j117 x1 x2 x3 (up2 (up2 mm 0 19 (ii y)) 0 17 (ii (dee t L i))) := by
  have hl := h.2.2.1
  intro d
  induction d with
  | zero =>
    intro i n x hi hdn hqi
    obtain ⟨k, rfl⟩ : ∃ k, n = k + 1 := ⟨n - 1, by omega⟩
    have h' := (h.u (k := 19) (by omega) (ii x)).u (k := 17) (by omega) (ii i)
    have g : dee t L i = i := by unfold dee; exact rnn_e (by omega)
    refine ⟨x, fun _ => by rw [g, Nat.sub_self]; rfl, ?_⟩
    rw [f7_number_l30, up2_at, h'.1, if_neg (inlt (by omega) (by omega) (by omega)), g]
  | succ d ih =>
    intro i n x hi hdn hqi
    obtain ⟨k, rfl⟩ : ∃ k, n = k + 1 := ⟨n - 1, by omega⟩
    have h' := (h.u (k := 19) (by omega) (ii x)).u (k := 17) (by omega) (ii i)
    have b := h.2.2.2 i (by omega)
    have r20 : up2 (up2 mm 0 19 (ii x)) 0 17 (ii i) 0 20 = ii q := by rw [up2_k _ _ _ _ (by omega), up2_k _ _ _ _ (by omega), h20]
    have r19 : up2 (up2 mm 0 19 (ii x)) 0 17 (ii i) 0 19 = ii x := by rw [up2_k _ _ _ _ (by omega), up2_at]
    rw [f7_number_l30, up2_at, h'.1, if_pos (ilt (by omega) (by omega) (by omega)), rdt h' (by omega), rdt h' (by omega), l48, l57, f7_in_ok (by omega) (by omega) (by omega) (by omega) (by omega) (by omega), bd_some, l0, r20, r19, l4, l10, ii_sub, ii_mul, ii_add, ii_sub]
    by_cases c : 48 ≤ t i ∧ t i ≤ 57
    · have g : dee t L i = dee t L (i + 1) := by unfold dee; exact rnn_g (by omega) (fun x => x c)
      have g1 : i + 1 ≤ dee t L (i + 1) := (rnn_le (P := isD t) (L := L) (p := i + 1) (by omega)).1
      have st : ∀ w : Int, f7_number_j101 (fun x1 x2 x3 mm => f7_number_l30 k x1 x2 x3 mm) x1 x2 x3 (ii w) (up2 (up2 mm 0 19 (ii x)) 0 17 (ii i)) = f7_number_l30 k x1 x2 x3 (up2 (up2 mm 0 19 (ii w)) 0 17 (ii (i + 1 : Nat))) := by
        intro w
        have r17 : up2 (up2 (up2 mm 0 19 (ii x)) 0 17 (ii i)) 0 19 (ii w) 0 17 = ii i := by rw [up2_k _ _ _ _ (by omega), up2_at]
        have ew : up2 (up2 (up2 (up2 mm 0 19 (ii x)) 0 17 (ii i)) 0 19 (ii w)) 0 17 (ii ((i : Int) + 1)) = up2 (up2 mm 0 19 (ii w)) 0 17 (ii ((i : Int) + 1)) := by
          rw [up2_x (up2 mm 0 19 (ii x)) 0 17 19 (ii i) (ii w) (by omega), up2_2, up2_2]
        unfold f7_number_j101
        rw [nm_eq, r17, l1, ii_add, nm_eq, ew]
        rfl
      rw [if_pos c, if_neg (by decide)]
      by_cases e : i - q < 4
      · rw [if_pos (ilt (by omega) (by omega) (by omega)), st]
        obtain ⟨y, y1, y2⟩ := ih (i + 1) k (10 * x + t i - 48) (by omega) (by omega) (by omega)
        refine ⟨y, fun hy => ?_, ?_⟩
        · rw [g] at hy ⊢
          rw [y1 hy, show dee t L (i + 1) - i = dee t L (i + 1) - (i + 1) + 1 by omega]
          show _ = dvl t (x * 10 + t i - 48) (i + 1) _
          rw [Int.mul_comm]
        · rw [g]; exact y2
      · rw [if_neg (inlt (by omega) (by omega) (by omega)), st]
        obtain ⟨y, y1, y2⟩ := ih (i + 1) k x (by omega) (by omega) (by omega)
        refine ⟨y, fun hy => by rw [g] at hy; omega, ?_⟩
        rw [g]; exact y2
    · have g : dee t L i = i := by unfold dee; exact rnn_s c
      refine ⟨x, fun _ => by rw [g, Nat.sub_self]; rfl, ?_⟩
      rw [if_neg c, if_pos rfl, g]
theorem f7_number_ok (h : TR mm t L) {p q : Nat} (hp : p ≤ L) (h17 : mm 0 17 = ii p) (hq : skp t L p = q) {k : Nat} (hk : k < 6) {lo hi : Int} (h1 : 0 ≤ lo ∧ lo ≤ 9999) (h2 : -1 ≤ hi ∧ hi ≤ 9999) : ∃ m', f7_number mm (ii k) (ii lo) (ii hi) = some (ii (if nok t L q lo hi then 1 else 0), m') ∧ FL mm m' ∧ (∀ j, j ≠ k → m' 13 j = mm 13 j) ∧ (nok t L q lo hi → m' 0 17 = ii (dee t L q) ∧ m' 13 k = ii (tnu t L q) ∧ m' 0 18 = mm 0 18) ∧ (¬ nok t L q lo hi → m' 0 18 = ii (nft t L q)) := by
  have hl := h.2.2.1
  have ql : q ≤ L := by rw [← hq]; exact (rnn_le hp).2
  unfold f7_number
  rw [f7_isDigit_ok h hp h17 hq, bd_some, l0, l1]
  by_cases c : isn t L q
  · have hA := ((h.u (k := 17) (by omega) (ii q)).u (k := 20) (by omega) (ii q))
    obtain ⟨y, y1, y2⟩ := nm30 (mm := up2 (up2 mm 0 17 (ii q)) 0 20 (ii q)) hA (q := q) (up2_at _ _ _ _) (ii k) (ii lo) (ii hi) (L - q) q FU 0 (by omega) (by unfold FU; omega) (Nat.le_refl _)
    have s17 : up2 (up2 (up2 (up2 mm 0 17 (ii q)) 0 20 (ii q)) 0 19 (ii 0)) 0 17 (ii q) = up2 (up2 (up2 mm 0 17 (ii q)) 0 20 (ii q)) 0 19 (ii 0) := up2_s (by rw [up2_k _ _ _ _ (by omega), up2_k _ _ _ _ (by omega), up2_at])
    rw [s17] at y2
    have g := dee_gt c.1 c.2
    have gl : dee t L q ≤ L := (rnn_le (P := isD t) ql).2
    have F : FL mm (up2 (up2 (up2 (up2 mm 0 17 (ii q)) 0 20 (ii q)) 0 19 (ii y)) 0 17 (ii (dee t L q))) := ((((FL.rf mm).u (by omega) _).u (by omega) _).u (by omega) _).u (by omega) _
    rw [if_pos c, if_neg (show ¬ ii 1 = ii 0 by decide)]
    dsimp only
    rw [up2_at, nm_eq, nm_eq, y2]
    unfold f7_number_j117 f7_number_j174
    have r17 : up2 (up2 (up2 (up2 mm 0 17 (ii q)) 0 20 (ii q)) 0 19 (ii y)) 0 17 (ii (dee t L q)) 0 17 = ii (dee t L q) := up2_at _ _ _ _
    have r19 : up2 (up2 (up2 (up2 mm 0 17 (ii q)) 0 20 (ii q)) 0 19 (ii y)) 0 17 (ii (dee t L q)) 0 19 = ii y := by rw [up2_k _ _ _ _ (by omega), up2_at]
    have r20 : up2 (up2 (up2 (up2 mm 0 17 (ii q)) 0 20 (ii q)) 0 19 (ii y)) 0 17 (ii (dee t L q)) 0 20 = ii q := by rw [up2_k _ _ _ _ (by omega), up2_k _ _ _ _ (by omega), up2_at]
    have r18 : up2 (up2 (up2 (up2 mm 0 17 (ii q)) 0 20 (ii q)) 0 19 (ii y)) 0 17 (ii (dee t L q)) 0 18 = mm 0 18 := by rw [up2_k _ _ _ _ (by omega), up2_k _ _ _ _ (by omega), up2_k _ _ _ _ (by omega), up2_k _ _ _ _ (by omega)]
    have r13 : ∀ j, up2 (up2 (up2 (up2 mm 0 17 (ii q)) 0 20 (ii q)) 0 19 (ii y)) 0 17 (ii (dee t L q)) 13 j = mm 13 j := fun j => by rw [up2_c _ _ _ _ (by omega), up2_c _ _ _ _ (by omega), up2_c _ _ _ _ (by omega), up2_c _ _ _ _ (by omega)]
    generalize up2 (up2 (up2 (up2 mm 0 17 (ii q)) 0 20 (ii q)) 0 19 (ii y)) 0 17 (ii (dee t L q)) = w at F r17 r18 r19 r20 r13 ⊢
    rw [r17, r19, r20, l0, l1, l2, l4, ii_sub]
    by_cases d : dee t L q - q ≤ 4
    · have e := tnu_b c d
      have ey : y = tnu t L q := by rw [e.1]; exact y1 d
      rw [if_neg (inlt (by omega) (by omega) (by omega)), wrq w lnR.2.2.2.2.2.2.2.2.2.2.2.2.1 (k := k) hk (by omega) rfl]
      have s19 : up2 w 13 k (ii y) 0 19 = ii y := by rw [up2_c _ _ _ _ (by omega), r19]
      have s20 : up2 w 13 k (ii y) 0 20 = ii q := by rw [up2_c _ _ _ _ (by omega), r20]
      rw [s19, s20, f7_in_ok (by omega) (by omega) (by omega) (by omega) (by omega) (by omega), bd_some, fails_ok, bd_some]
      by_cases f : lo ≤ y ∧ y ≤ hi
      · have N : nok t L q lo hi := ⟨c, d, by omega, by omega⟩
        refine ⟨up2 w 13 k (ii y), ?_, F.u13 _ _, fun j hj => by rw [up2_k _ _ _ _ hj, r13], fun _ => ⟨by rw [up2_c _ _ _ _ (by omega), r17], by rw [up2_at, ey], by rw [up2_c _ _ _ _ (by omega), r18]⟩, fun x => absurd N x⟩
        rw [if_pos f, if_neg (show ¬ ii 1 = ii 0 by decide), if_pos N]
      · have N : ¬ nok t L q lo hi := fun x => f ⟨by rw [ey]; exact x.2.2.1, by rw [ey]; exact x.2.2.2⟩
        refine ⟨up2 (up2 w 13 k (ii y)) 0 18 (ii (2 + 8 * (q : Int))), ?_, (F.u13 _ _).u (by omega) _, fun j hj => by rw [up2_c _ _ _ _ (by omega), up2_k _ _ _ _ hj, r13], fun x => absurd x N, fun _ => by rw [up2_at]; unfold nft; rw [if_pos ⟨c, d⟩]⟩
        rw [if_neg f, if_pos rfl, if_pos rfl, if_neg N]
    · have N : ¬ nok t L q lo hi := fun x => d x.2.1
      refine ⟨up2 w 0 18 (ii (1 + 8 * (q : Int))), ?_, F.u (by omega) _, fun j hj => by rw [up2_c _ _ _ _ (by omega), r13], fun x => absurd x N, fun _ => by rw [up2_at]; unfold nft; rw [if_neg (fun x => d x.2)]⟩
      rw [if_pos (ilt (by omega) (by omega) (by omega)), fails_ok, bd_some, bok_0, if_neg N]
  · have N : ¬ nok t L q lo hi := fun x => c x.1
    refine ⟨up2 (up2 mm 0 17 (ii q)) 0 18 (ii (1 + 8 * (q : Int))), ?_, ((FL.rf mm).u (by omega) _).u (by omega) _, fun j hj => by rw [up2_c _ _ _ _ (by omega), up2_c _ _ _ _ (by omega)], fun x => absurd x N, fun _ => by rw [up2_at]; unfold nft; rw [if_neg (fun x => c x.1)]⟩
    rw [if_neg c, if_pos rfl]
    dsimp only
    rw [up2_at, fails_ok, bd_some, bok_0, if_neg N]
theorem f7_ends_ok (h : TR mm t L) {p q : Nat} (hp : p ≤ L) (h17 : mm 0 17 = ii p) (hq : skp t L p = q) : f7_ends mm = if q < L ∧ t q = 59 then some (ii 1, up2 (up2 mm 0 17 (ii q)) 0 17 (ii ((q : Int) + 1))) else some (ii 0, up2 (up2 mm 0 17 (ii q)) 0 18 (ii (1 + 8 * (q : Int)))) := by
  have b := chr_b h q
  unfold f7_ends
  rw [f7_here_ok h hp h17 hq, bd_some, l59, l1]
  dsimp only
  rw [up2_at, fails_ok, bd_some, bok_0, ii_add, nm_eq]
  by_cases c : q < L ∧ t q = 59
  · have e : chr' t L q = 59 := by unfold chr'; rw [if_pos c.1, c.2]
    rw [if_pos c, if_pos (by rw [e])]
  · have e : chr' t L q ≠ 59 := by
      unfold chr'
      by_cases d : q < L
      · rw [if_pos d]; exact fun x => c ⟨d, x⟩
      · rw [if_neg d]; omega
    rw [if_neg c, if_neg (ine e (by omega) (by omega) (by omega) (by omega))]
/-! words read -/
theorem ll_inj {a b : Int} (h1 : -9223372036854775808 ≤ a) (h2 : a < 9223372036854775808) (h3 : -9223372036854775808 ≤ b) (h4 : b < 9223372036854775808) (h : ll a = ll b) : a = b := by
  have e1 : (ll a).toInt = a := Int64.toInt_ofInt_of_le h1 h2
  have e2 : (ll b).toInt = b := Int64.toInt_ofInt_of_le h3 h4
  rw [← e1, ← e2, h]
theorem lgc_ll {a b : Int} (h1 : -9223372036854775808 ≤ a) (h2 : a < 9223372036854775808) (h3 : -9223372036854775808 ≤ b) (h4 : b < 9223372036854775808) : lg_cmp (ll a) (ll b) = ii 0 ↔ a = b := by
  constructor
  · intro h
    unfold lg_cmp at h
    by_cases c : ll a > ll b
    · rw [if_pos c] at h; exact absurd h (by decide)
    · rw [if_neg c] at h
      by_cases d : ll a = ll b
      · exact ll_inj h1 h2 h3 h4 d
      · rw [if_neg d] at h; exact absurd h (by decide)
  · rintro rfl
    exact lgc_self _
theorem wvl_b {t : Nat → Int} {i : Nat} : ∀ d, (∀ k, k < d → 97 ≤ t (i + k) ∧ t (i + k) ≤ 122) → wvl t 0 i d < ((27 ^ d : Nat) : Int) := by
  intro d
  induction d with
  | zero => intro _; show (0 : Int) < _; omega
  | succ d ih =>
    intro h
    have a := ih (fun k hk => h k (by omega))
    have b := h d (by omega)
    have e : 27 ^ (d + 1) = 27 ^ d * 27 := Nat.pow_succ 27 d
    rw [wvl_s, e]
    omega
theorem rwv_b {t : Nat → Int} {L q : Nat} : -1 ≤ rwv t L q ∧ rwv t L q < 282429536481 := by
  unfold rwv
  by_cases e : lee t L q - q ≤ 8
  · rw [if_pos e]
    have a := wvl_0 (t := t) (i := q) (lee t L q - q) lee_c
    have b := wvl_b (t := t) (i := q) (lee t L q - q) lee_c
    have c := Nat.pow_le_pow_right (n := 27) (by omega) e
    have d : 27 ^ 8 = 282429536481 := rfl
    omega
  · rw [if_neg e]; omega
theorem rw12 (h : TR mm t L) {q : Nat} : ∀ (d i n : Nat) (x : Int), i + d = L → d < n → q ≤ i → (i - q ≤ 8 → x = wvl t 0 q (i - q)) → (8 < i - q → x = -1) → ∃ y, (lee t L i - q ≤ 8 → y = wvl t 0 q (lee t L i - q)) ∧ (8 < lee t L i - q → y = -1) ∧ f7_readWord_l12 n (ll x) (ii ((i - q : Nat) : Int)) (up2 mm 0 17 (ii i)) = some (ll y, up2 mm 0 17 (ii (lee t L i))) := by
  have hl := h.2.2.1
  intro d
  induction d with
  | zero =>
    intro i n x hi hdn hqi h1 h2
    obtain ⟨k, rfl⟩ : ∃ k, n = k + 1 := ⟨n - 1, by omega⟩
    have h' := h.u (k := 17) (by omega) (ii i)
    have g : lee t L i = i := by unfold lee; exact rnn_e (by omega)
    refine ⟨x, by rw [g]; exact h1, by rw [g]; exact h2, ?_⟩
    rw [f7_readWord_l12, up2_at, h'.1, if_neg (inlt (by omega) (by omega) (by omega)), g]
  | succ d ih =>
    intro i n x hi hdn hqi h1 h2
    obtain ⟨k, rfl⟩ : ∃ k, n = k + 1 := ⟨n - 1, by omega⟩
    have h' := h.u (k := 17) (by omega) (ii i)
    have b := h.2.2.2 i (by omega)
    rw [f7_readWord_l12, up2_at, h'.1, if_pos (ilt (by omega) (by omega) (by omega)), rdt h' (by omega), rdt h' (by omega), l97, l122, f7_in_ok (by omega) (by omega) (by omega) (by omega) (by omega) (by omega), bd_some, l0, l8]
    unfold f7_readWord_j74
    rw [up2_at, l1, ii_add, ii_add, up2_2, nm_eq, nm_eq]
    by_cases c : 97 ≤ t i ∧ t i ≤ 122
    · have g : lee t L i = lee t L (i + 1) := by unfold lee; exact rnn_g (by omega) (fun x => x c)
      rw [if_pos c, if_neg (by decide), g]
      have ei : ((i - q : Nat) : Int) + 1 = ((i + 1 - q : Nat) : Int) := by omega
      rw [ei]
      by_cases e : i - q < 8
      · rw [if_pos (ilt (by omega) (by omega) (by omega)), ii_ll (by omega) (by omega), show (27 : Int64) = ll 27 by decide, show (96 : Int64) = ll 96 by decide, ll_mul, ll_add, ll_sub]
        refine ih (i + 1) k (x * 27 + t i - 96) (by omega) (by omega) (by omega) (fun _ => ?_) (fun h => by omega)
        rw [h1 (by omega), show i + 1 - q = i - q + 1 by omega, wvl_s, show q + (i - q) = i by omega]
      · rw [if_neg (inlt (by omega) (by omega) (by omega)), show (-1 : Int64) = ll (-1) by decide]
        exact ih (i + 1) k (-1) (by omega) (by omega) (by omega) (fun h => by omega) (fun _ => rfl)
    · have g : lee t L i = i := by unfold lee; exact rnn_s c
      refine ⟨x, by rw [g]; exact h1, by rw [g]; exact h2, ?_⟩
      rw [if_neg c, if_pos rfl, g]
theorem f7_readWord_ok (h : TR mm t L) {q : Nat} (hq : q ≤ L) (h17 : mm 0 17 = ii q) : f7_readWord mm = some (ll (rwv t L q), up2 (up2 mm 0 20 (ii q)) 0 17 (ii (lee t L q))) := by
  have hl := h.2.2.1
  have h' := h.u (k := 20) (by omega) (ii q)
  obtain ⟨y, y1, y2, y3⟩ := rw12 h' (q := q) (L - q) q FU 0 (by omega) (by unfold FU; omega) (Nat.le_refl _) (fun _ => by rw [Nat.sub_self]; rfl) (fun h => by omega)
  have s17 : up2 (up2 mm 0 20 (ii q)) 0 17 (ii q) = up2 mm 0 20 (ii q) := up2_s (by rw [up2_k _ _ _ _ (by omega), h17])
  rw [s17, Nat.sub_self] at y3
  have ey : y = rwv t L q := by
    unfold rwv
    by_cases e : lee t L q - q ≤ 8
    · rw [if_pos e]; exact y1 e
    · rw [if_neg e]; exact y2 (by omega)
  unfold f7_readWord
  rw [h17, nm_eq, l0, show (0 : Int64) = ll 0 by decide, ← ey]
  exact y3
end
