/-! words -/
def wdn (a : Nat) : Nat := slen (1000 + a)
def wdc (a i : Nat) : Int := (sch (1000 + a) (ii i)).toInt
def wdC (a : Nat) : Int := wvl (wdc a) 0 0 (wdn a)
theorem wd_n : ∀ a, a < 9 → 1 ≤ wdn a ∧ wdn a ≤ 8 := by decide +kernel
theorem wd_c : ∀ a, a < 9 → ∀ i, i < wdn a → 97 ≤ wdc a i ∧ wdc a i ≤ 122 := by decide +kernel
theorem wd_C : wdC 0 = 523076 ∧ wdC 1 = 2021387 ∧ wdC 2 = 190504487498 ∧ wdC 3 = 8094240 ∧ wdC 4 = 3436200 ∧ wdC 5 = 1239032113 ∧ wdC 6 = 177232852 ∧ wdC 7 = 271721 ∧ wdC 8 = 131360 := by decide +kernel
/-- the word's value, as the reference reads it -/
def rwv (t : Nat → Int) (L q : Nat) : Int := if lee t L q - q ≤ 8 then wvl t 0 q (lee t L q - q) else -1
theorem wvl_0 {t : Nat → Int} {i : Nat} : ∀ d, (∀ k, k < d → 97 ≤ t (i + k) ∧ t (i + k) ≤ 122) → 0 ≤ wvl t 0 i d ∧ (0 < d → 1 ≤ wvl t 0 i d) := by
  intro d
  induction d with
  | zero => intro _; exact ⟨Int.le_refl _, fun h => by omega⟩
  | succ d ih =>
    intro h
    have a := ih (fun k hk => h k (by omega))
    have b := h d (by omega)
    rw [wvl_s]
    omega
theorem wvl_eq {t u : Nat → Int} {i j : Nat} : ∀ (n k : Nat), (∀ l, l < n → 97 ≤ t (i + l) ∧ t (i + l) ≤ 122) → (∀ l, l < k → 97 ≤ u (j + l) ∧ u (j + l) ≤ 122) → (wvl t 0 i n = wvl u 0 j k ↔ n = k ∧ ∀ l, l < n → t (i + l) = u (j + l)) := by
  intro n
  induction n with
  | zero =>
    intro k _ hk
    have b := wvl_0 k hk
    constructor
    · intro h
      have h : (0 : Int) = wvl u 0 j k := h
      refine ⟨?_, fun l hl => by omega⟩
      by_cases e : 0 < k
      · have := b.2 e; omega
      · omega
    · rintro ⟨rfl, _⟩; rfl
  | succ n ih =>
    intro k hn hk
    have b := wvl_0 (n + 1) hn
    cases k with
    | zero =>
      constructor
      · intro h
        have h : wvl t 0 i (n + 1) = 0 := h
        have := b.2 (by omega)
        omega
      · rintro ⟨h, _⟩; omega
    | succ k =>
      have a := ih k (fun l hl => hn l (by omega)) (fun l hl => hk l (by omega))
      have x := hn n (by omega)
      have y := hk k (by omega)
      rw [wvl_s, wvl_s]
      constructor
      · intro h
        have e1 : wvl t 0 i n = wvl u 0 j k := by omega
        have e2 : t (i + n) = u (j + k) := by omega
        obtain ⟨c1, c2⟩ := a.mp e1
        subst c1
        refine ⟨rfl, fun l hl => ?_⟩
        by_cases e : l = n
        · rw [e]; exact e2
        · exact c2 l (by omega)
      · rintro ⟨c1, c2⟩
        have c1 : n = k := by omega
        subst c1
        have e1 := a.mpr ⟨rfl, fun l hl => c2 l (by omega)⟩
        have e2 := c2 n (by omega)
        omega
theorem lee_c {t : Nat → Int} {L q : Nat} : ∀ l, l < lee t L q - q → 97 ≤ t (q + l) ∧ t (q + l) ≤ 122 := by
  intro l hl
  have a := rnn_bf (P := isL t) (L := L) (p := q) (i := q + l) (by omega) (by unfold lee at hl; omega)
  exact Classical.byContradiction (fun x => a x)
theorem rwv_eq {t : Nat → Int} {L q a : Nat} (ha : a < 9) : rwv t L q = wdC a ↔ lee t L q - q = wdn a ∧ ∀ l, l < wdn a → t (q + l) = wdc a l := by
  have n := wd_n a ha
  have c := wd_c a ha
  have b := wvl_0 (t := wdc a) (i := 0) (wdn a) (fun k hk => by rw [Nat.zero_add]; exact c k hk)
  unfold rwv
  by_cases e : lee t L q - q ≤ 8
  · rw [if_pos e]
    have w := wvl_eq (t := t) (u := wdc a) (i := q) (j := 0) (lee t L q - q) (wdn a) (lee_c) (fun l hl => by rw [Nat.zero_add]; exact c l hl)
    unfold wdC
    rw [w]
    constructor
    · rintro ⟨h1, h2⟩
      exact ⟨h1, fun l hl => by rw [h2 l (by omega), Nat.zero_add]⟩
    · rintro ⟨h1, h2⟩
      exact ⟨h1, fun l hl => by rw [h2 l (by omega), Nat.zero_add]⟩
  · rw [if_neg e]
    unfold wdC
    constructor
    · intro h; omega
    · rintro ⟨h, _⟩; omega
theorem rwv_n {t : Nat → Int} {L q : Nat} (h : ¬ (q < L ∧ 97 ≤ t q ∧ t q ≤ 122)) : rwv t L q = 0 := by
  have e : lee t L q = q := by
    unfold lee
    by_cases c : q < L
    · exact rnn_s (P := isL t) (fun x => h ⟨c, x⟩)
    · exact rnn_e (by omega)
  unfold rwv
  rw [e, Nat.sub_self, if_pos (by omega)]
  rfl
theorem wdC_p {a : Nat} (ha : a < 9) : 1 ≤ wdC a := by
  have n := wd_n a ha
  have c := wd_c a ha
  exact (wvl_0 (t := wdc a) (i := 0) (wdn a) (fun k hk => by rw [Nat.zero_add]; exact c k hk)).2 (by omega)
section
variable {mm m' : Mem} {t : Nat → Int} {L : Nat}
theorem wd_sch {a i : Nat} : sch (1000 + a) (ii i) = ii (wdc a i) := (ii_of _).symm
theorem rds_ii {q : Nat} {β : Type} {i : Int} (h1 : 0 ≤ i) (h2 : i < slen q) (h3 : slen q < 2147483648) (k : Option β) : rds q (ii i) k = k := by
  unfold rds
  rw [if_pos (ii_inb h1 h2 h3)]
theorem iw31 (h : TP mm t L) {q a : Nat} (ha : a < 9) (h4 : mm 73 4 = ii q) (hq : q + wdn a ≤ L) : ∀ (d i n : Nat), i + d = wdn a → d < n → (∀ l, l < i → t (q + l) = wdc a l) → f4_isWord_l31 mm n (1000 + a) (ii i) = some (ii (if ∀ l, l < wdn a → t (q + l) = wdc a l then 1 else 0)) := by
  have hn := wd_n a ha
  have hc := wd_c a ha
  have hL := h.2.2.1
  intro d
  induction d with
  | zero =>
    intro i n hi hdn hp
    obtain ⟨k, rfl⟩ : ∃ k, n = k + 1 := ⟨n - 1, by omega⟩
    have e : slen (1000 + a) = wdn a := rfl
    rw [f4_isWord_l31, ii_nI, e, if_neg (inlt (by omega) (by omega) (by omega)), if_pos (fun l hl => hp l (by omega)), l1]
  | succ d ih =>
    intro i n hi hdn hp
    obtain ⟨k, rfl⟩ : ∃ k, n = k + 1 := ⟨n - 1, by omega⟩
    have e : slen (1000 + a) = wdn a := rfl
    have b := h.2.2.2 (q + i) (by omega)
    have c := hc i (by omega)
    have eq : (q : Int) + i = ((q + i : Nat) : Int) := by omega
    rw [f4_isWord_l31, ii_nI, e, if_pos (ilt (by omega) (by omega) (by omega)), rds_ii (by omega) (by rw [e]; omega) (by rw [e]; omega), wd_sch, nm_eq, h4, ii_add, eq, tp_at h (by omega), bd_some, l0, iSu, nm_eq]
    by_cases g : t (q + i) = wdc a i
    · rw [if_pos (by rw [g])]
      exact ih (i + 1) k (by omega) (by omega) (fun l hl => by
        by_cases e : l = i
        · rw [e]; exact g
        · exact hp l (by omega))
    · rw [if_neg (ine (fun x => g x.symm) (by omega) (by omega) (by omega) (by omega)), if_neg (fun x => g (x i (by omega)))]
theorem f4_isWord_ok (h : TP mm t L) {q a : Nat} (hT : TK mm t L q) (ha : a < 9) : f4_isWord mm (1000 + a) = some (ii (if rwv t L q = wdC a then 1 else 0)) := by
  obtain ⟨hq, h4, h3, h6, h5⟩ := hT
  have hn := wd_n a ha
  have hL := h.2.2.1
  unfold f4_isWord
  rw [h3, l0]
  by_cases c : q < L ∧ 97 ≤ t q ∧ t q ≤ 122
  · have e3 : tkd t L q = 0 := by unfold tkd; rw [if_pos c.1, if_pos c.2]
    have e6 : tnx t L q = lee t L q := by unfold tnx; rw [if_pos c.1, if_pos c.2]
    have g := lee_gt c.1 c.2
    have g2 : lee t L q ≤ L := (rnn_le (P := isL t) hq).2
    have e : slen (1000 + a) = wdn a := rfl
    rw [e3, if_pos rfl, h6, h4, e6, ii_sub, ii_nI, e]
    by_cases d : lee t L q - q = wdn a
    · rw [if_pos (show ii ((lee t L q : Int) - q) = ii (wdn a : Nat) from congrArg ii (by omega))]
      have r := iw31 h ha h4 (by omega) (wdn a) 0 FU (by omega) (by unfold FU; omega) (fun l hl => by omega)
      have r : f4_isWord_l31 mm FU (1000 + a) (ii 0) = _ := r
      rw [r]
      by_cases f : ∀ l, l < wdn a → t (q + l) = wdc a l
      · rw [if_pos f, if_pos ((rwv_eq ha).mpr ⟨d, f⟩)]
      · rw [if_neg f, if_neg (fun x => f ((rwv_eq ha).mp x).2)]
    · rw [if_neg (ine (by omega) (by omega) (by omega) (by omega) (by omega)), if_neg (fun x => d ((rwv_eq ha).mp x).1)]
  · have z := rwv_n c
    have p := wdC_p ha
    have e3 : tkd t L q ≠ 0 := by
      unfold tkd
      by_cases c1 : q < L
      · rw [if_pos c1, if_neg (fun x => c ⟨c1, x⟩)]
        by_cases c2 : 48 ≤ t q ∧ t q ≤ 57
        · rw [if_pos c2]; omega
        · rw [if_neg c2]
          by_cases c3 : t q = 59
          · rw [if_pos c3]; omega
          · rw [if_neg c3]; omega
      · rw [if_neg c1]; omega
    have e4 : 0 ≤ tkd t L q ∧ tkd t L q ≤ 4 := by
      unfold tkd
      repeat' split
      all_goals omega
    rw [if_neg (ine e3 (by omega) (by omega) (by omega) (by omega)), if_neg (by omega)]
end
