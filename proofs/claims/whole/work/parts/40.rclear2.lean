section
variable {M : WM} {g : Int32} {nf : Bool}
/-- what is left behind the lines ahead of i, in the clearing -/
def lq (D : DT) (z i : Nat) : Int := la D z (Pz D z) (Nz D z - Lz D z (Pz D z)) i
theorem lq_0 (D : DT) (z : Nat) : lq D z 0 = Nz D z - Lz D z (Pz D z) := rfl
theorem lq_bd {D : DT} (h : WD D) {z : Nat} (hz : z < dn D) {i : Nat} (hi : i ≤ 4 * dm D) : 0 ≤ lq D z i ∧ lq D z i ≤ 200000 := by
  have a := PN_9 h hz
  have n := N_bd h hz
  have l := Lz_bd h hz (Pz D z)
  have b := la_bd h (y := z) (p := Pz D z) (a := Nz D z - Lz D z (Pz D z)) (by omega) hi
  unfold lq
  omega
theorem lq_s (D : DT) (z i : Nat) : lq D z (i + 1) = if dz D (i / 4) = z ∧ dU D i ≠ 0 ∧ dJ D i = Pz D z then lq D z i - min (lq D z i) (dU D i) else lq D z i := rfl
theorem lq_T {D : DT} (i : Nat) {z : Nat} (hz : dz D (i / 4) = z) : Tz D i = if dU D i = 0 then 0 else if dJ D i < Pz D z then dU D i else if dJ D i = Pz D z then min (lq D z i) (dU D i) else 0 := by
  unfold Tz lq
  rw [hz]
theorem lq_skip {z r : Nat} (hr : r < rn M) (h : (M (79 + 13 * r)).toNat ≠ z ∨ gb g r = true) : lq (Dg M g nf) z (4 * (r + 1)) = lq (Dg M g nf) z (4 * r) := by
  have e : ∀ k, k < 4 → lq (Dg M g nf) z (4 * r + k + 1) = lq (Dg M g nf) z (4 * r + k) := by
    intro k hk
    have e1 : (4 * r + k) / 4 = r := by omega
    rw [lq_s, e1, if_neg]
    intro x
    rcases h with h | h
    · exact h x.1
    · apply x.2.1
      show Ug M g (4 * r + k) = 0
      rw [Ug_at hr hk, if_pos h]
  have a0 := e 0 (by omega)
  have a1 := e 1 (by omega)
  have a2 := e 2 (by omega)
  have a3 := e 3 (by omega)
  rw [show 4 * (r + 1) = 4 * r + 3 + 1 by omega, a3, show 4 * r + 3 = 4 * r + 2 + 1 by omega, a2, show 4 * r + 2 = 4 * r + 1 + 1 by omega, a1]
  exact a0
/-- takes of resource r's lines, from line k on, where nothing was written yet -/
theorem t46 (hM : WF M) {z r : Nat} (hz : z < zn M) (hr : r < rn M) (hzr : (M (79 + 13 * r)).toNat = z) (hg : gb g r = false) (k5 : Int32 → Int32 → Int32 → Mem → Option (Int32 × Mem)) : ∀ (d k n : Nat) (m : Mem), k + d = 4 → d < n → RC m M g nf → m 7 z = ii (Pz (Dg M g nf) z) → (∀ j, k ≤ j → j < 4 → m 10 (4 * r + j) = ii 0) → ∃ m', (∀ c, c ≠ 10 → m' c = m c) ∧ (∀ i, (i < 4 * r + k ∨ 4 * r + 4 ≤ i) → m' 10 i = m 10 i) ∧ (∀ j, k ≤ j → j < 4 → m' 10 (4 * r + j) = ii (Tz (Dg M g nf) (4 * r + j))) ∧ f7_takesOwn_l46 k5 n (ii z) (ii (lq (Dg M g nf) z (4 * r + k))) (ii r) (ii k) m = k5 (ii z) (ii (lq (Dg M g nf) z (4 * (r + 1)))) (ii (r + 1 : Nat)) m' := by
  have hD := Dg_WD hM g nf
  have hb := zn_bd hM.1
  have hr12 : r < 12 := by have := rn_bd hM.1; omega
  have hw := wwr hM.1 hr
  have pb := PN_9 hD (z := z) hz
  intro d
  induction d with
  | zero =>
    intro k n m hk hdn hR h7 h10
    obtain ⟨q, rfl⟩ : ∃ q, n = q + 1 := ⟨n - 1, by omega⟩
    refine ⟨m, fun _ _ => rfl, fun _ _ => rfl, fun j h1 h2 => by omega, ?_⟩
    rw [f7_takesOwn_l46, l3, if_pos (ilt (by omega) (by omega) (by omega))]
    unfold f7_takesOwn_j165
    rw [iSu, nm_eq, show 4 * r + k = 4 * (r + 1) by omega]
  | succ d ih =>
    intro k n m hk hdn hR h7 h10
    obtain ⟨q, rfl⟩ : ∃ q, n = q + 1 := ⟨n - 1, by omega⟩
    have hu := lu_nn hM hr k
    have hU : dU (Dg M g nf) (4 * r + k) = lu M r k := by
      show Ug M g (4 * r + k) = lu M r k
      rw [Ug_at hr (by omega), if_neg (by rw [hg]; decide)]
    have hJ : dJ (Dg M g nf) (4 * r + k) = if lu M r k = 0 then 0 else li M r k (if nf = true then 0 else flr M r) := by
      show Jg M g nf (4 * r + k) = _
      rw [Jg_at hr (by omega)]
      have : Ug M g (4 * r + k) = lu M r k := hU
      rw [this]
    have e1 : dz (Dg M g nf) ((4 * r + k) / 4) = z := by
      show (M (79 + 13 * ((4 * r + k) / 4))).toNat = z
      rw [show (4 * r + k) / 4 = r by omega]
      exact hzr
    have lb := lq_bd hD (z := z) hz (i := 4 * r + k) (by show 4 * r + k ≤ 4 * rn M; omega)
    have ls := lq_s (Dg M g nf) z (4 * r + k)
    have lT := lq_T (D := Dg M g nf) (4 * r + k) e1
    rw [hU] at ls lT
    rw [f7_takesOwn_l46, l3, if_neg (inlt (by omega) (by omega) (by omega)), f7_lineUnits_ok hR.1 hw hr12 (by omega), bd_some, l0]
    by_cases c : lu M r k = 0
    · rw [if_pos (by rw [c])]
      unfold f7_takesOwn_j159
      rw [iSu, nm_eq]
      rw [if_neg (fun x => x.2.1 c)] at ls
      rw [if_pos c] at lT
      obtain ⟨m', f1, f2, f3, f4⟩ := ih (k + 1) q m (by omega) (by omega) hR h7 (fun j h1 h2 => h10 j (by omega) h2)
      refine ⟨m', f1, fun i hi => f2 i (by omega), fun j h1 h2 => ?_, ?_⟩
      · by_cases e : j = k
        · subst e
          rw [f2 _ (by omega), h10 j (by omega) h2, lT]
        · exact f3 j (by omega) h2
      · rw [← ls]
        exact f4
    · rw [if_neg c] at hJ lT
      rw [hJ] at ls lT
      have f := flr_bd hM.1 hw
      have lbd := li_bd2 hM.1 hw (k := k) (fl := if nf = true then 0 else flr M r) (by
        cases nf
        · exact f
        · rw [if_pos rfl]; omega) (lu_there c)
      rw [if_neg (ine c (by omega) (by omega) (by omega) (by omega)), f7_lineIts_ok hR.1 hM.1 hw hr12 (by omega) nf hR.2.2, bd_some, rdq m lnR.2.2.2.2.2.2.1 (k := z) (by omega) (by omega) (by omega), h7]
      generalize li M r k (if nf = true then 0 else flr M r) = its at *
      generalize hP : Pz (Dg M g nf) z = P at *
      -- the end of a line: got, and what it lessens
      have fin : ∀ got les : Int, got = Tz (Dg M g nf) (4 * r + k) → lq (Dg M g nf) z (4 * r + k) - les = lq (Dg M g nf) z (4 * r + k + 1) → ∃ m', (∀ c, c ≠ 10 → m' c = m c) ∧ (∀ i, (i < 4 * r + k ∨ 4 * r + 4 ≤ i) → m' 10 i = m 10 i) ∧ (∀ j, k ≤ j → j < 4 → m' 10 (4 * r + j) = ii (Tz (Dg M g nf) (4 * r + j))) ∧ f7_takesOwn_j143 k5 (fun x1 x3 x4 x5 mm => f7_takesOwn_l46 k5 q x1 x3 x4 x5 mm) (ii z) (ii r) (ii k) (ii got) (ii les) (ii (lq (Dg M g nf) z (4 * r + k))) m = k5 (ii z) (ii (lq (Dg M g nf) z (4 * (r + 1)))) (ii (r + 1 : Nat)) m' := by
        intro got les hgot hles
        unfold f7_takesOwn_j143 f7_takesOwn_j159
        rw [ii_sub, nm_eq, l4, ii_mul, ii_add, wrq m lnR.2.2.2.2.2.2.2.2.2.1 (k := 4 * r + k) (by omega) (by omega) (by omega), iSu, nm_eq, hles]
        obtain ⟨m', f1, f2, f3, f4⟩ := ih (k + 1) q (up2 m 10 (4 * r + k) (ii got)) (by omega) (by omega) (hR.fr (by funext j; exact up2_c _ _ _ _ (by omega)) (by funext j; exact up2_c _ _ _ _ (by omega))) (by rw [up2_c _ _ _ _ (by omega)]; exact h7) (fun j h1 h2 => by rw [up2_k _ _ _ _ (by omega)]; exact h10 j (by omega) h2)
        refine ⟨m', fun c hc => ?_, fun i hi => ?_, fun j h1 h2 => ?_, ?_⟩
        · rw [f1 c hc]; funext j; exact up2_c _ _ _ _ hc
        · rw [f2 i (by omega), up2_k _ _ _ _ (by omega)]
        · by_cases e : j = k
          · subst e
            rw [f2 _ (by omega), up2_at, hgot]
          · exact f3 j (by omega) h2
        · exact f4
      have s1 : (4 * r + k + 1) = 4 * r + (k + 1) := by omega
      by_cases c1 : its < P
      · rw [if_pos (ilt c1 (by omega) (by omega))]
        rw [if_pos c1] at lT
        rw [if_neg (by omega)] at ls
        unfold f7_takesOwn_j123
        rw [rdq m lnR.2.2.2.2.2.2.1 (k := z) (by omega) (by omega) (by omega), h7, if_neg (ine (by omega) (by omega) (by omega) (by omega) (by omega)), l0]
        exact fin _ 0 lT.symm (by omega)
      · rw [if_neg (inlt (by omega) (by omega) (by omega)), rdq m lnR.2.2.2.2.2.2.1 (k := z) (by omega) (by omega) (by omega), h7]
        rw [if_neg c1] at lT
        by_cases c2 : (P : Int) < its
        · rw [if_pos (ilt c2 (by omega) (by omega))]
          rw [if_neg (by omega)] at lT ls
          unfold f7_takesOwn_j123
          rw [rdq m lnR.2.2.2.2.2.2.1 (k := z) (by omega) (by omega) (by omega), h7, if_neg (ine (by omega) (by omega) (by omega) (by omega) (by omega)), l0]
          exact fin 0 0 lT.symm (by omega)
        · have c3 : its = P := by omega
          rw [if_neg (inlt (by omega) (by omega) (by omega))]
          rw [if_pos c3] at lT
          rw [if_pos ⟨e1, c, c3⟩] at ls
          by_cases c4 : lu M r k < lq (Dg M g nf) z (4 * r + k)
          · rw [if_pos (ilt c4 (by omega) (by omega))]
            unfold f7_takesOwn_j123
            rw [rdq m lnR.2.2.2.2.2.2.1 (k := z) (by omega) (by omega) (by omega), h7, if_pos (by rw [c3])]
            rw [Int.min_eq_right (by omega)] at lT ls
            exact fin _ _ lT.symm ls.symm
          · rw [if_neg (inlt (by omega) (by omega) (by omega))]
            unfold f7_takesOwn_j123
            rw [rdq m lnR.2.2.2.2.2.2.1 (k := z) (by omega) (by omega) (by omega), h7, if_pos (by rw [c3])]
            rw [Int.min_eq_left (by omega)] at lT ls
            exact fin _ _ lT.symm ls.symm
theorem t5 (hM : WF M) {z : Nat} (hz : z < zn M) : ∀ (d r n : Nat) (m : Mem), r + d = rn M → d < n → RC m M g nf → m 7 z = ii (Pz (Dg M g nf) z) → (∀ i, 4 * r ≤ i → i < 4 * rn M → dz (Dg M g nf) (i / 4) = z → m 10 i = ii 0) → ∃ m', (∀ c, c ≠ 10 → m' c = m c) ∧ (∀ i, (i < 4 * r ∨ 4 * rn M ≤ i ∨ dz (Dg M g nf) (i / 4) ≠ z) → m' 10 i = m 10 i) ∧ (∀ i, 4 * r ≤ i → i < 4 * rn M → dz (Dg M g nf) (i / 4) = z → m' 10 i = ii (Tz (Dg M g nf) i)) ∧ f7_takesOwn_l5 n (ii z) (ii (lq (Dg M g nf) z (4 * r))) (ii r) m = some (ii (lq (Dg M g nf) z (4 * rn M)), m') := by
  have hD := Dg_WD hM g nf
  have hb := zn_bd hM.1
  have hrb := rn_bd hM.1
  intro d
  induction d with
  | zero =>
    intro r n m hr hdn hR h7 h10
    obtain ⟨q, rfl⟩ : ∃ q, n = q + 1 := ⟨n - 1, by omega⟩
    refine ⟨m, fun _ _ => rfl, fun _ _ => rfl, fun i h1 h2 h3 => by omega, ?_⟩
    rw [f7_takesOwn_l5, l1, rd1 hR.1 (k := 1) (by omega) (by omega), rn_c hM.1, if_neg (inlt (by omega) (by omega) (by omega)), show r = rn M by omega]
  | succ d ih =>
    intro r n m hr hdn hR h7 h10
    obtain ⟨q, rfl⟩ : ∃ q, n = q + 1 := ⟨n - 1, by omega⟩
    have hw := wwr hM.1 (r := r) (by omega)
    have ow := hw.1
    have zb := hM.1.zn
    rw [f7_takesOwn_l5, l1, rd1 hR.1 (k := 1) (by omega) (by omega), rn_c hM.1, if_pos (ilt (by omega) (by omega) (by omega)), l0, f7_ofResource_ok hR.1 (r := r) (by omega) (k := 0) (by omega) (j := 79 + 13 * r) (by omega) (by omega), bd_some, hR.2.1]
    by_cases c : (M (79 + 13 * r)).toNat = z
    · rw [if_pos (by congr 1; omega)]
      by_cases c2 : gb g r = true
      · have c3 : ((g >>> (ii r &&& 31)) &&& ii 1) = ii 1 := of_decide_eq_true c2
        rw [if_pos c3]
        unfold f7_takesOwn_j165
        rw [iSu, nm_eq]
        obtain ⟨m', f1, f2, f3, f4⟩ := ih (r + 1) q m (by omega) (by omega) hR h7 (fun i h1 h2 h3 => h10 i (by omega) h2 h3)
        rw [lq_skip (by omega) (Or.inr c2)] at f4
        refine ⟨m', f1, fun i hi => f2 i (by omega), fun i h1 h2 h3 => ?_, f4⟩
        by_cases e : 4 * (r + 1) ≤ i
        · exact f3 i e h2 h3
        · rw [f2 i (by omega), h10 i h1 h2 h3]
          unfold Tz
          have e2 : dU (Dg M g nf) i = 0 := by
            show Ug M g i = 0
            have : i = 4 * r + (i - 4 * r) := by omega
            rw [this, Ug_at (by omega) (by omega), if_pos c2]
          rw [if_pos e2]
      · have c3 : ¬ ((g >>> (ii r &&& 31)) &&& ii 1) = ii 1 := fun x => c2 (decide_eq_true x)
        rw [if_neg c3]
        have dzr : ∀ j, j < 4 → dz (Dg M g nf) ((4 * r + j) / 4) = z := by
          intro j hj
          show (M (79 + 13 * ((4 * r + j) / 4))).toNat = z
          rw [show (4 * r + j) / 4 = r by omega]
          exact c
        obtain ⟨m1, g1, g2, g3, g4⟩ := t46 (g := g) (nf := nf) hM hz (r := r) (by omega) c (by cases h : gb g r; rfl; exact absurd h c2) (fun x1 x3 x4 mm => f7_takesOwn_l5 q x1 x3 x4 mm) 4 0 FU m (by omega) (by unfold FU; omega) hR h7 (fun j h1 h2 => h10 _ (by omega) (by omega) (dzr j h2))
        obtain ⟨m', f1, f2, f3, f4⟩ := ih (r + 1) q m1 (by omega) (by omega) (hR.fr (g1 0 (by omega)) (g1 1 (by omega))) (by rw [g1 7 (by omega)]; exact h7) (fun i h1 h2 h3 => by rw [g2 i (by omega)]; exact h10 i (by omega) h2 h3)
        refine ⟨m', fun x hx => by rw [f1 x hx, g1 x hx], fun i hi => ?_, fun i h1 h2 h3 => ?_, ?_⟩
        · rw [f2 i (by omega)]
          by_cases e : i < 4 * r ∨ 4 * r + 4 ≤ i
          · exact g2 i (by omega)
          · exfalso
            have : i = 4 * r + (i - 4 * r) := by omega
            have t := dzr (i - 4 * r) (by omega)
            rw [← this] at t
            omega
        · by_cases e : 4 * (r + 1) ≤ i
          · exact f3 i e h2 h3
          · rw [f2 i (by omega)]
            have : i = 4 * r + (i - 4 * r) := by omega
            have t := g3 (i - 4 * r) (by omega) (by omega)
            rw [← this] at t
            exact t
        · rw [Nat.add_zero] at g4
          exact g4.trans f4
    · rw [if_neg (ine (by omega) (by omega) (by omega) (by omega) (by omega))]
      unfold f7_takesOwn_j165
      rw [iSu, nm_eq]
      obtain ⟨m', f1, f2, f3, f4⟩ := ih (r + 1) q m (by omega) (by omega) hR h7 (fun i h1 h2 h3 => h10 i (by omega) h2 h3)
      rw [lq_skip (by omega) (Or.inl c)] at f4
      refine ⟨m', f1, fun i hi => f2 i (by omega), fun i h1 h2 h3 => ?_, f4⟩
      by_cases e : 4 * (r + 1) ≤ i
      · exact f3 i e h2 h3
      · exfalso
        apply c
        have t : (M (79 + 13 * (i / 4))).toNat = z := h3
        rw [show i / 4 = r by omega] at t
        exact t
/-- zones within z: what they are given; then what z is served -/
def lbq (D : DT) (z c : Nat) : Int := lb D z (Pz D z) (lft D z (Pz D z) (Nz D z)) c
theorem lbq_bd {D : DT} (h : WD D) {z : Nat} (hz : z < dn D) {c : Nat} (hc : c ≤ dn D) : 0 ≤ lbq D z c ∧ lbq D z c ≤ 200000 := by
  have a := lq_bd h hz (i := 4 * dm D) (Nat.le_refl _)
  have b := lb_bd h (y := z) (p := Pz D z) (a := lft D z (Pz D z) (Nz D z)) (show 0 ≤ lq D z (4 * dm D) from a.1) hc
  have e : lft D z (Pz D z) (Nz D z) = lq D z (4 * dm D) := rfl
  unfold lbq
  omega
theorem lbq_s (D : DT) (z c : Nat) : lbq D z (c + 1) = if z < c ∧ dou D c = z then lbq D z c - min (lbq D z c) (room D c (Pz D z)) else lbq D z c := rfl
theorem lbq_up {D : DT} (z : Nat) {c : Nat} (hc : c ≤ z + 1) : lbq D z c = lq D z (4 * dm D) := by
  induction c with
  | zero => rfl
  | succ c ih => rw [lbq_s, if_neg (by omega)]; exact ih (by omega)
theorem lbq_N {D : DT} (h : WD D) {z c : Nat} (hc : c < dn D) (hzc : z < c ∧ dou D c = z) : Nz D c = cu D c (Lz D c (Pz D z)) + min (lbq D z c) (room D c (Pz D z)) := by
  have := (PN_s h (z := c) (by omega) hc).1
  rw [hzc.2] at this
  exact this
theorem lbq_S (D : DT) (z : Nat) : Sz D z = dW D z (Pz D z) - lbq D z (dn D) := rfl
theorem c85 (hM : WF M) {z : Nat} (hz : z < zn M) (k30 : Int32 → Mem → Option Mem) : ∀ (d c n : Nat) (m : Mem), c + d = zn M → d < n → z < c → RC m M g nf → m 7 z = ii (Pz (Dg M g nf) z) → (∀ y, z < y → y < zn M → r56 m (Dg M g nf) (Pz (Dg M g nf) z) y) → ∃ m', (∀ q, q ≠ 8 → q ≠ 9 → m' q = m q) ∧ (∀ y, m' 8 y = if c ≤ y ∧ y < zn M ∧ dou (Dg M g nf) y = z then ii (Nz (Dg M g nf) y) else m 8 y) ∧ (∀ y, m' 9 y = if y = z then ii (Sz (Dg M g nf) z) else m 9 y) ∧ f7_clears_l85 k30 n (ii z) (ii (lbq (Dg M g nf) z c)) (ii c) m = k30 (ii (z + 1 : Nat)) m' := by
  have hD := Dg_WD hM g nf
  have hb := zn_bd hM.1
  have pb := PN_9 hD (z := z) hz
  intro d
  induction d with
  | zero =>
    intro c n m hc hdn hzc hR h7 h56
    obtain ⟨q, rfl⟩ : ∃ q, n = q + 1 := ⟨n - 1, by omega⟩
    have e : c = zn M := by omega
    refine ⟨up2 m 9 z (ii (Sz (Dg M g nf) z)), fun q h8 h9 => by funext j; exact up2_c _ _ _ _ h9, fun y => ?_, fun y => ?_, ?_⟩
    · rw [up2_c _ _ _ _ (by omega), if_neg (by omega)]
    · by_cases ey : y = z
      · rw [if_pos ey, ey, up2_at]
      · rw [if_neg ey, up2_k _ _ _ _ ey]
    · rw [f7_clears_l85, l0, rd1 hR.1 (k := 0) (by omega) (by omega), zn_c hM.1, if_neg (inlt (by omega) (by omega) (by omega)), rdq m lnR.2.2.2.2.2.2.1 (k := z) (by omega) (by omega) (by omega), h7, f7_wantedAt_ok hR.1 (wwz hM.1 hz) (by omega) (by omega) (by omega), bd_some, ii_sub, wrq m lnR.2.2.2.2.2.2.2.2.1 (k := z) (by omega) (by omega) (by omega), iSu, nm_eq, e]
      rfl
  | succ d ih =>
    intro c n m hc hdn hzc hR h7 h56
    obtain ⟨q, rfl⟩ : ∃ q, n = q + 1 := ⟨n - 1, by omega⟩
    have hcn : c < zn M := by omega
    have hw := wwz hM.1 hcn
    have o := hw.1 (by omega)
    have yc := h56 c hzc hcn
    have b0 := Lz_bd hD (z := c) hcn (Pz (Dg M g nf) z)
    have b1 := Lz_bd hD (z := c) hcn ((Pz (Dg M g nf) z : Int) + 1)
    have c0 := cu_bd hD (z := c) hcn (Lz (Dg M g nf) c (Pz (Dg M g nf) z))
    have c1 := cu_bd hD (z := c) hcn (Lz (Dg M g nf) c ((Pz (Dg M g nf) z : Int) + 1))
    have lb0 := lbq_bd hD (z := z) hz (c := c) (show c ≤ zn M by omega)
    have ls := lbq_s (Dg M g nf) z c
    rw [f7_clears_l85, l0, rd1 hR.1 (k := 0) (by omega) (by omega), zn_c hM.1, if_pos (ilt (by omega) (by omega) (by omega)), f7_ofZone_ok hR.1 (z := c) (by omega) (k := 0) (by omega) (j := 7 + 12 * c) (by omega) (by omega), bd_some]
    by_cases e : M (7 + 12 * c) = z
    · have ie : z < c ∧ dou (Dg M g nf) c = z := ⟨hzc, by show (M (7 + 12 * c)).toNat = z; omega⟩
      have eN := lbq_N hD (z := z) (c := c) hcn ie
      rw [if_pos ie] at ls
      rw [if_pos (by rw [e]), rdq m lnR.2.2.2.2.1 (k := c) (by omega) (by omega) (by omega), yc.1, f7_cut_ok (g := g) (nf := nf) hR.1 hM hcn (by omega) (by omega), bd_some, rdq m lnR.2.2.2.2.2.1 (k := c) (by omega) (by omega) (by omega), yc.2, f7_cut_ok (g := g) (nf := nf) hR.1 hM hcn (by omega) (by omega), bd_some, ii_sub, nm_eq]
      have er : room (Dg M g nf) c (Pz (Dg M g nf) z) = cu (Dg M g nf) c (Lz (Dg M g nf) c ((Pz (Dg M g nf) z : Int) + 1)) - cu (Dg M g nf) c (Lz (Dg M g nf) c (Pz (Dg M g nf) z)) := rfl
      rw [← er]
      have fin : ∀ got : Int, got = min (lbq (Dg M g nf) z c) (room (Dg M g nf) c (Pz (Dg M g nf) z)) → ∃ m', (∀ q, q ≠ 8 → q ≠ 9 → m' q = m q) ∧ (∀ y, m' 8 y = if c ≤ y ∧ y < zn M ∧ dou (Dg M g nf) y = z then ii (Nz (Dg M g nf) y) else m 8 y) ∧ (∀ y, m' 9 y = if y = z then ii (Sz (Dg M g nf) z) else m 9 y) ∧ f7_clears_j149 k30 (fun x1 x2 x3 mm => f7_clears_l85 k30 q x1 x2 x3 mm) (ii z) (ii (lbq (Dg M g nf) z c)) (ii c) (ii (cu (Dg M g nf) c (Lz (Dg M g nf) c (Pz (Dg M g nf) z)))) (ii got) m = k30 (ii (z + 1 : Nat)) m' := by
        intro got hgot
        unfold f7_clears_j149 f7_clears_j167
        rw [ii_add, hgot, ← eN, wrq m lnR.2.2.2.2.2.2.2.1 (k := c) (by omega) (by omega) (by omega), ii_sub, nm_eq, iSu, nm_eq, ← ls]
        obtain ⟨m', f1, f2, f3, f4⟩ := ih (c + 1) q (up2 m 8 c (ii (Nz (Dg M g nf) c))) (by omega) (by omega) (by omega) (hR.fr (by funext j; exact up2_c _ _ _ _ (by omega)) (by funext j; exact up2_c _ _ _ _ (by omega))) (by rw [up2_c _ _ _ _ (by omega)]; exact h7) (fun y h1 h2 => by
          unfold r56
          rw [up2_c _ _ _ _ (by omega), up2_c _ _ _ _ (by omega)]
          exact h56 y h1 h2)
        refine ⟨m', fun x h8 h9 => by rw [f1 x h8 h9]; funext j; exact up2_c _ _ _ _ h8, fun y => ?_, fun y => ?_, f4⟩
        · rw [f2 y]
          by_cases e1 : c + 1 ≤ y ∧ y < zn M ∧ dou (Dg M g nf) y = z
          · rw [if_pos e1, if_pos ⟨by omega, e1.2⟩]
          · rw [if_neg e1]
            by_cases e2 : y = c
            · rw [e2, up2_at, if_pos ⟨Nat.le_refl _, hcn, ie.2⟩]
            · rw [up2_k _ _ _ _ e2, if_neg]
              intro x
              exact e1 ⟨by omega, x.2⟩
        · rw [f3 y]
          by_cases e2 : y = z
          · rw [if_pos e2, if_pos e2]
          · rw [if_neg e2, if_neg e2, up2_c _ _ _ _ (by omega)]
      by_cases c2 : room (Dg M g nf) c (Pz (Dg M g nf) z) < lbq (Dg M g nf) z c
      · rw [if_pos (ilt c2 (by omega) (by omega))]
        exact fin _ (by omega)
      · rw [if_neg (inlt (by omega) (by omega) (by omega))]
        exact fin _ (by omega)
    · rw [if_neg (ine e (by omega) (by omega) (by omega) (by omega))]
      have ne : ¬ dou (Dg M g nf) c = z := fun x => e (by
        have : (M (7 + 12 * c)).toNat = z := x
        omega)
      rw [if_neg (fun x => ne x.2)] at ls
      unfold f7_clears_j167
      rw [iSu, nm_eq, ← ls]
      obtain ⟨m', f1, f2, f3, f4⟩ := ih (c + 1) q m (by omega) (by omega) (by omega) hR h7 h56
      refine ⟨m', f1, fun y => ?_, f3, f4⟩
      rw [f2 y]
      by_cases e1 : c + 1 ≤ y ∧ y < zn M ∧ dou (Dg M g nf) y = z
      · rw [if_pos e1, if_pos ⟨by omega, e1.2⟩]
      · rw [if_neg e1, if_neg]
        intro x
        by_cases e2 : y = c
        · rw [e2] at x; exact ne x.2.2
        · exact e1 ⟨by omega, x.2⟩
/-- the rows behind z zones cleared -/
def c30s (m : Mem) (M : WM) (D : DT) (z : Nat) : Prop := (∀ y, y < z → m 7 y = ii (Pz D y) ∧ m 9 y = ii (Sz D y)) ∧ (∀ y, y < dn D → (y = 0 ∨ dou D y < z) → m 8 y = ii (Nz D y)) ∧ (∀ i, i < 4 * dm D → m 10 i = if dz D (i / 4) < z then ii (Tz D i) else ii 0)
theorem c30 (hM : WF M) : ∀ (d z n : Nat) (m : Mem), z + d = zn M → d < n → RC m M g nf → c30s m M (Dg M g nf) z → ∃ m', (∀ c, c < 5 ∨ 10 < c → m' c = m c) ∧ c30s m' M (Dg M g nf) (zn M) ∧ f7_clears_l30 n (ii z) m = some m' := by
  have hD := Dg_WD hM g nf
  have hb := zn_bd hM.1
  intro d
  induction d with
  | zero =>
    intro z n m hz hdn hR hs
    obtain ⟨q, rfl⟩ : ∃ q, n = q + 1 := ⟨n - 1, by omega⟩
    have e : z = zn M := by omega
    refine ⟨m, fun _ _ => rfl, e ▸ hs, ?_⟩
    rw [f7_clears_l30, l0, rd1 hR.1 (k := 0) (by omega) (by omega), zn_c hM.1, if_neg (inlt (by omega) (by omega) (by omega))]
  | succ d ih =>
    intro z n m hz hdn hR hs
    obtain ⟨q, rfl⟩ : ∃ q, n = q + 1 := ⟨n - 1, by omega⟩
    have hzn : z < zn M := by omega
    have hou : 1 ≤ z → dou (Dg M g nf) z < z := fun h => hD.ou h hzn
    have hN : m 8 z = ii (Nz (Dg M g nf) z) := hs.2.1 z hzn (by
      by_cases e : z = 0
      · exact Or.inl e
      · exact Or.inr (hou (by omega)))
    obtain ⟨m1, f1, f2⟩ := f7_priceOf_ok hR hM hzn hN (fun h => (hs.1 _ (hou h)).1)
    have pb := PN_9 hD (z := z) hzn
    have nb := N_bd hD (z := z) hzn
    rw [f7_clears_l30, l0, rd1 hR.1 (k := 0) (by omega) (by omega), zn_c hM.1, if_pos (ilt (by omega) (by omega) (by omega)), f2, bd_some]
    have R1 := hR.f56 f1
    show ∃ m', _ ∧ _ ∧ rdc 7 (ii z) (nm (up2 m1 7 (ii z).toNatClampNeg (ii (Pz (Dg M g nf) z))) _) = some m'
    rw [wrq m1 lnR.2.2.2.2.2.2.1 (k := z) (by omega) (by omega) (by omega), rdq _ lnR.2.2.2.2.2.2.1 (k := z) (by omega) (by omega) (by omega), up2_at]
    have R2 : RC (up2 m1 7 z (ii (Pz (Dg M g nf) z))) M g nf := R1.fr (by funext j; exact up2_c _ _ _ _ (by omega)) (by funext j; exact up2_c _ _ _ _ (by omega))
    obtain ⟨m3, g1, g2, g3⟩ := lays_ok R2 hM (f := z) (by omega) (p := Pz (Dg M g nf) z) (by omega) (by omega)
    have R3 := R2.f56 g1
    have b0 := Lz_bd hD (z := z) hzn (Pz (Dg M g nf) z)
    have h37 : m3 7 = up2 m1 7 z (ii (Pz (Dg M g nf) z)) 7 := g1 7 (by omega) (by omega)
    have h38 : m3 8 = m 8 := by rw [g1 8 (by omega) (by omega), ← f1 8 (by omega) (by omega)]; funext j; exact up2_c _ _ _ _ (by omega)
    have h39 : m3 9 = m 9 := by rw [g1 9 (by omega) (by omega), ← f1 9 (by omega) (by omega)]; funext j; exact up2_c _ _ _ _ (by omega)
    have h310 : m3 10 = m 10 := by rw [g1 10 (by omega) (by omega), ← f1 10 (by omega) (by omega)]; funext j; exact up2_c _ _ _ _ (by omega)
    rw [g3, bd_some, rdq m3 lnR.2.2.2.2.2.2.2.1 (k := z) (by omega) (by omega) (by omega), rdq m3 lnR.2.2.2.2.1 (k := z) (by omega) (by omega) (by omega), (g2 z (Nat.le_refl _) hzn).1, h38, hN, ii_sub]
    have h37z : m3 7 z = ii (Pz (Dg M g nf) z) := by rw [h37, up2_at]
    obtain ⟨m4, t1, t2, t3, t4⟩ := t5 (g := g) (nf := nf) hM hzn (rn M) 0 FU m3 (by omega) (by have := rn_bd hM.1; unfold FU; omega) R3 h37z (fun i h1 h2 h3 => by
      rw [h310, hs.2.2 i h2, if_neg (by omega)])
    have R4 := R3.fr (t1 0 (by omega)) (t1 1 (by omega))
    have tk : f7_takesOwn m3 (ii z) (ii (Nz (Dg M g nf) z - Lz (Dg M g nf) z (Pz (Dg M g nf) z))) = some (ii (lq (Dg M g nf) z (4 * rn M)), m4) := by
      unfold f7_takesOwn
      rw [l0]
      exact t4
    rw [tk, bd_some, l1, ii_add, nm_eq]
    obtain ⟨m5, u1, u2, u3, u4⟩ := c85 (g := g) (nf := nf) hM hzn (fun x1 mm => f7_clears_l30 q x1 mm) (zn M - (z + 1)) (z + 1) FU m4 (by omega) (by unfold FU; omega) (by omega) R4 (by rw [t1 7 (by omega)]; exact h37z) (fun y h1 h2 => by
      have a := g2 y (by omega) h2
      unfold r56
      rw [t1 5 (by omega), t1 6 (by omega)]
      exact a)
    rw [lbq_up z (Nat.le_refl _)] at u4
    have R5 := R4.fr (u1 0 (by omega) (by omega)) (u1 1 (by omega) (by omega))
    have S5 : c30s m5 M (Dg M g nf) (z + 1) := by
      refine ⟨fun y hy => ?_, fun y hy ho => ?_, fun i hi => ?_⟩
      · rw [u1 7 (by omega) (by omega), t1 7 (by omega), h37, u3 y]
        by_cases e : y = z
        · subst e
          rw [up2_at, if_pos rfl]
          exact ⟨rfl, rfl⟩
        · have a := hs.1 y (by omega)
          rw [up2_k _ _ _ _ e, if_neg e, f1 7 (by omega) (by omega), t1 9 (by omega), h39]
          exact a
      · rw [u2 y]
        by_cases e : z + 1 ≤ y ∧ y < zn M ∧ dou (Dg M g nf) y = z
        · rw [if_pos e]
        · rw [if_neg e, t1 8 (by omega), h38]
          refine hs.2.1 y hy ?_
          by_cases e0 : y = 0
          · exact Or.inl e0
          · have := hD.ou (z := y) (by omega) hy
            have hy : y < zn M := hy
            by_cases e1 : dou (Dg M g nf) y = z
            · exact absurd ⟨by omega, hy, e1⟩ e
            · exact Or.inr (by omega)
      · have hi : i < 4 * rn M := hi
        rw [u1 10 (by omega) (by omega)]
        by_cases e : dz (Dg M g nf) (i / 4) = z
        · rw [t3 i (by omega) hi e, if_pos (by omega)]
        · rw [t2 i (Or.inr (Or.inr e)), h310, hs.2.2 i hi]
          by_cases e1 : dz (Dg M g nf) (i / 4) < z
          · rw [if_pos e1, if_pos (by omega)]
          · rw [if_neg e1, if_neg (by omega)]
    obtain ⟨m6, v1, v2, v3⟩ := ih (z + 1) q m5 (by omega) (by omega) R5 S5
    refine ⟨m6, fun c hc => ?_, v2, ?_⟩
    · rw [v1 c hc, u1 c (by omega) (by omega), t1 c (by omega), g1 c (by omega) (by omega)]
      have : up2 m1 7 z (ii (Pz (Dg M g nf) z)) c = m1 c := by funext j; exact up2_c _ _ _ _ (by omega)
      rw [this, f1 c (by omega) (by omega)]
    · show f7_clears_l85 (fun x1 mm => f7_clears_l30 q x1 mm) FU (ii z) (ii (lq (Dg M g nf) z (4 * rn M))) (ii ((z : Int) + 1)) m4 = some m6
      have e : (z : Int) + 1 = ((z + 1 : Nat) : Int) := by omega
      rw [e]
      exact u4.trans v3
theorem c2 : ∀ (d k n : Nat) (m : Mem), k + d = 48 → d < n → (∀ i, i < k → m 10 i = ii 0) → ∃ m', (∀ c, c ≠ 10 → c ≠ 8 → m' c = m c) ∧ (∀ i, i < 48 → m' 10 i = ii 0) ∧ m' 8 0 = ii 0 ∧ f7_clears_l2 n (ii k) m = f7_clears_l30 FU (ii 0) m' := by
  intro d
  induction d with
  | zero =>
    intro k n m hk hdn h10
    obtain ⟨q, rfl⟩ : ∃ q, n = q + 1 := ⟨n - 1, by omega⟩
    refine ⟨up2 m 8 0 (ii 0), fun c h1 h2 => by funext j; exact up2_c _ _ _ _ h2, fun i hi => by rw [up2_c _ _ _ _ (by omega)]; exact h10 i (by omega), up2_at _ _ _ _, ?_⟩
    rw [f7_clears_l2, l48, l0, if_neg (inlt (by omega) (by omega) (by omega)), wrq m lnR.2.2.2.2.2.2.2.1 (k := 0) (by omega) (by omega) (by omega)]
  | succ d ih =>
    intro k n m hk hdn h10
    obtain ⟨q, rfl⟩ : ∃ q, n = q + 1 := ⟨n - 1, by omega⟩
    obtain ⟨m', f1, f2, f3, f4⟩ := ih (k + 1) q (up2 m 10 k (ii 0)) (by omega) (by omega) (fun i hi => by
      by_cases e : i = k
      · rw [e, up2_at]
      · rw [up2_k _ _ _ _ e]; exact h10 i (by omega))
    refine ⟨m', fun c h1 h2 => by rw [f1 c h1 h2]; funext j; exact up2_c _ _ _ _ h1, f2, f3, ?_⟩
    rw [f7_clears_l2, l48, l0, if_pos (ilt (by omega) (by omega) (by omega)), wrq m lnR.2.2.2.2.2.2.2.2.2.1 (k := k) (by omega) (by omega) (by omega), iSu, nm_eq]
    exact f4
/-- the reference's rows behind a clearing -/
def RCL (m : Mem) (M : WM) (D : DT) : Prop := (∀ y, y < zn M → m 7 y = ii (Pz D y) ∧ m 8 y = ii (Nz D y) ∧ m 9 y = ii (Sz D y)) ∧ (∀ i, i < 4 * rn M → m 10 i = ii (Tz D i))
theorem f7_clears_ok {mm : Mem} (hR : RC mm M g nf) (hM : WF M) : ∃ m', (∀ c, c < 5 ∨ 10 < c → m' c = mm c) ∧ RCL m' M (Dg M g nf) ∧ f7_clears mm = some m' := by
  have hD := Dg_WD hM g nf
  have hb := zn_bd hM.1
  have hrb := rn_bd hM.1
  obtain ⟨m1, f1, f2, f3, f4⟩ := c2 48 0 FU mm (by omega) (by unfold FU; omega) (fun i hi => by omega)
  obtain ⟨m2, g1, g2, g3⟩ := c30 (g := g) (nf := nf) hM (zn M) 0 FU m1 (by omega) (by unfold FU; omega) (hR.fr (f1 0 (by omega) (by omega)) (f1 1 (by omega) (by omega))) ⟨fun y hy => by omega, fun y hy ho => by
    have e : y = 0 := by omega
    rw [e, f3, (PN_0 _).2], fun i hi => by
    have hi : i < 4 * rn M := hi
    rw [if_neg (by omega)]
    exact f2 i (by omega)⟩
  refine ⟨m2, fun c hc => by rw [g1 c hc, f1 c (by omega) (by omega)], ⟨fun y hy => ?_, fun i hi => ?_⟩, ?_⟩
  · have a := g2.1 y hy
    refine ⟨a.1, g2.2.1 y hy ?_, a.2⟩
    by_cases e : y = 0
    · exact Or.inl e
    · have := hD.ou (z := y) (by omega) hy
      exact Or.inr (by omega)
  · have a := g2.2.2 i hi
    have hr : i / 4 < rn M := by omega
    have o := (wwr hM.1 hr).1
    have zc := zn_c hM.1
    have e : dz (Dg M g nf) (i / 4) < zn M := by
      show (M (79 + 13 * (i / 4))).toNat < zn M
      omega
    rw [if_pos e] at a
    exact a
  · unfold f7_clears
    rw [l0]
    exact f4.trans g3
end
