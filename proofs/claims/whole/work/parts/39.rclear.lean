/-! the reference clears -/
def Fr56 (mm m' : Mem) : Prop := ∀ c, c ≠ 5 → c ≠ 6 → m' c = mm c
section
variable {mm : Mem} {M : WM} {g : Int32} {nf : Bool}
theorem RC.fr (h : RC mm M g nf) {m' : Mem} (h0 : m' 0 = mm 0) (h1 : m' 1 = mm 1) : RC m' M g nf := ⟨rk_fr h.1 h1, by rw [h0]; exact h.2.1, by rw [h0]; exact h.2.2⟩
theorem Fr56.rf (mm : Mem) : Fr56 mm mm := fun _ _ _ => rfl
theorem Fr56.tr {a b c : Mem} (h : Fr56 a b) (h2 : Fr56 b c) : Fr56 a c := fun q h5 h6 => by rw [h2 q h5 h6, h q h5 h6]
theorem Fr56.u5 {a b : Mem} (h : Fr56 a b) (k : Nat) (v : Int32) : Fr56 a (up2 b 5 k v) := fun q h5 h6 => by
  funext j
  rw [up2_c _ _ _ _ h5, h q h5 h6]
theorem Fr56.u6 {a b : Mem} (h : Fr56 a b) (k : Nat) (v : Int32) : Fr56 a (up2 b 6 k v) := fun q h5 h6 => by
  funext j
  rw [up2_c _ _ _ _ h6, h q h5 h6]
theorem RC.f56 (h : RC mm M g nf) {m' : Mem} (hf : Fr56 mm m') : RC m' M g nf := h.fr (hf 0 (by omega) (by omega)) (hf 1 (by omega) (by omega))
/-- rows 5, 6 hold the levels of zone y at p, p + 1 -/
def r56 (m : Mem) (D : DT) (p : Int) (y : Nat) : Prop := m 5 y = ii (Lz D y p) ∧ m 6 y = ii (Lz D y (p + 1))
theorem l61 (hM : WF M) {z : Nat} {p : Int} (k9 : Int32 → Int32 → Int32 → Mem → Option Mem) (x1 x2 : Int32) : ∀ (d c n : Nat) (m : Mem), c + d = zn M → d < n → z < c → RC m M g nf → (∀ y, z < y → y < zn M → r56 m (Dg M g nf) p y) → m 5 z = ii (ow (Dg M g nf) z p - dW (Dg M g nf) z p + sm c (inn (Dg M g nf) z p)) → m 6 z = ii (ow (Dg M g nf) z (p + 1) - dW (Dg M g nf) z (p + 1) + sm c (inn (Dg M g nf) z (p + 1))) → ∃ m', Fr56 m m' ∧ (∀ y, y ≠ z → m' 5 y = m 5 y ∧ m' 6 y = m 6 y) ∧ r56 m' (Dg M g nf) p z ∧ f7_laysLevels_l61 k9 n x1 x2 (ii z) (ii c) m = k9 x1 x2 (ii ((z : Int) - 1)) m' := by
  have hD := Dg_WD hM g nf
  have hb := zn_bd hM.1
  intro d
  induction d with
  | zero =>
    intro c n m hc hdn hzc hR hy h5 h6
    obtain ⟨k, rfl⟩ : ∃ k, n = k + 1 := ⟨n - 1, by omega⟩
    have e : c = zn M := by omega
    refine ⟨m, Fr56.rf m, fun y hy => ⟨rfl, rfl⟩, ?_, ?_⟩
    · unfold r56
      rw [Lz_eq hD (show z < dn (Dg M g nf) from by show z < zn M; omega), Lz_eq hD (show z < dn (Dg M g nf) from by show z < zn M; omega)]
      rw [e] at h5 h6
      exact ⟨h5, h6⟩
    · rw [f7_laysLevels_l61, l0, rd1 hR.1 (k := 0) (by omega) (by omega), zn_c hM.1, if_neg (inlt (by omega) (by omega) (by omega)), l1, ii_neg, ii_add, nm_eq]
      rfl
  | succ d ih =>
    intro c n m hc hdn hzc hR hy h5 h6
    obtain ⟨k, rfl⟩ : ∃ k, n = k + 1 := ⟨n - 1, by omega⟩
    have hcn : c < zn M := by omega
    have hw := wwz hM.1 hcn
    have o := hw.1 (by omega)
    have yc := hy c hzc hcn
    have b0 := Lz_bd hD (z := c) hcn p
    have b1 := Lz_bd hD (z := c) hcn (p + 1)
    rw [f7_laysLevels_l61, l0, rd1 hR.1 (k := 0) (by omega) (by omega), zn_c hM.1, if_pos (ilt (by omega) (by omega) (by omega)), f7_ofZone_ok hR.1 (z := c) (by omega) (k := 0) (by omega) (j := 7 + 12 * c) (by omega) (by omega), bd_some]
    by_cases e : M (7 + 12 * c) = z
    · have i0 : ∀ q, inn (Dg M g nf) z q c = cu (Dg M g nf) c (Lz (Dg M g nf) c q) := fun q => if_pos ⟨hzc, by show (M (7 + 12 * c)).toNat = z; omega⟩
      rw [if_pos (by rw [e]), rdq m lnR.2.2.2.2.1 (k := z) (by omega) (by omega) (by omega), rdq m lnR.2.2.2.2.1 (k := c) (by omega) (by omega) (by omega), yc.1, f7_cut_ok (g := g) (nf := nf) hR.1 hM hcn (by omega) (by omega), bd_some, h5, ii_add, wrq m lnR.2.2.2.2.1 (k := z) (by omega) (by omega) (by omega)]
      have R1 : RC (up2 m 5 z (ii (ow (Dg M g nf) z p - dW (Dg M g nf) z p + sm c (inn (Dg M g nf) z p) + cu (Dg M g nf) c (Lz (Dg M g nf) c p)))) M g nf := hR.f56 ((Fr56.rf m).u5 _ _)
      rw [rdq _ lnR.2.2.2.2.2.1 (k := z) (by omega) (by omega) (by omega), rdq _ lnR.2.2.2.2.2.1 (k := c) (by omega) (by omega) (by omega), up2_c _ _ _ _ (by omega), up2_c _ _ _ _ (by omega), yc.2, f7_cut_ok (g := g) (nf := nf) R1.1 hM hcn (by omega) (by omega), bd_some, h6, ii_add, wrq _ lnR.2.2.2.2.2.1 (k := z) (by omega) (by omega) (by omega)]
      unfold f7_laysLevels_j127
      rw [iSu, nm_eq]
      have F : Fr56 m (up2 (up2 m 5 z (ii (ow (Dg M g nf) z p - dW (Dg M g nf) z p + sm c (inn (Dg M g nf) z p) + cu (Dg M g nf) c (Lz (Dg M g nf) c p)))) 6 z (ii (ow (Dg M g nf) z (p + 1) - dW (Dg M g nf) z (p + 1) + sm c (inn (Dg M g nf) z (p + 1)) + cu (Dg M g nf) c (Lz (Dg M g nf) c (p + 1))))) := ((Fr56.rf m).u5 _ _).u6 _ _
      generalize hm2 : up2 (up2 m 5 z (ii (ow (Dg M g nf) z p - dW (Dg M g nf) z p + sm c (inn (Dg M g nf) z p) + cu (Dg M g nf) c (Lz (Dg M g nf) c p)))) 6 z (ii (ow (Dg M g nf) z (p + 1) - dW (Dg M g nf) z (p + 1) + sm c (inn (Dg M g nf) z (p + 1)) + cu (Dg M g nf) c (Lz (Dg M g nf) c (p + 1)))) = m2 at F ⊢
      have oth : ∀ y, y ≠ z → m2 5 y = m 5 y ∧ m2 6 y = m 6 y := by
        intro y hy
        rw [← hm2]
        exact ⟨by rw [up2_c _ _ _ _ (by omega), up2_k _ _ _ _ hy], by rw [up2_k _ _ _ _ hy, up2_c _ _ _ _ (by omega)]⟩
      obtain ⟨m', f1, f2, f3, f4⟩ := ih (c + 1) k m2 (by omega) (by omega) (by omega) (hR.f56 F) (fun y h1 h2 => by
        have a := oth y (by omega)
        have b := hy y h1 h2
        exact ⟨a.1.trans b.1, a.2.trans b.2⟩) (by rw [← hm2, up2_c _ _ _ _ (by omega), up2_at, sm_s, i0]; congr 1; omega) (by rw [← hm2, up2_at, sm_s, i0]; congr 1; omega)
      refine ⟨m', F.tr f1, fun y hy => ⟨(f2 y hy).1.trans (oth y hy).1, (f2 y hy).2.trans (oth y hy).2⟩, f3, f4⟩
    · have i0 : ∀ q, inn (Dg M g nf) z q c = 0 := fun q => if_neg (fun x => e (by
        have : (M (7 + 12 * c)).toNat = z := x.2
        omega))
      rw [if_neg (ine e (by omega) (by omega) (by omega) (by omega))]
      unfold f7_laysLevels_j127
      rw [iSu, nm_eq]
      exact ih (c + 1) k m (by omega) (by omega) (by omega) hR hy (by rw [sm_s, i0, Int.add_zero]; exact h5) (by rw [sm_s, i0, Int.add_zero]; exact h6)
theorem smi_0 {D : DT} (z : Nat) (p : Int) : sm (z + 1) (inn D z p) = 0 := sm_zero (fun i hi => by unfold inn; rw [if_neg (by omega)])
theorem l9v (hM : WF M) {f : Nat} {p : Int} (hp1 : 0 ≤ p) (hp2 : p ≤ 9999) : ∀ (d n : Nat) (m : Mem), d < n → f + d ≤ zn M → RC m M g nf → (∀ y, f + d ≤ y → y < zn M → r56 m (Dg M g nf) p y) → ∃ m', Fr56 m m' ∧ (∀ y, f ≤ y → y < zn M → r56 m' (Dg M g nf) p y) ∧ f7_laysLevels_l9 n (ii f) (ii p) (ii ((f : Int) + d - 1)) m = some m' := by
  have hD := Dg_WD hM g nf
  have hb := zn_bd hM.1
  intro d
  induction d with
  | zero =>
    intro n m hdn hfd hR hy
    obtain ⟨k, rfl⟩ : ∃ k, n = k + 1 := ⟨n - 1, by omega⟩
    refine ⟨m, Fr56.rf m, fun y h1 h2 => hy y (by omega) h2, ?_⟩
    rw [f7_laysLevels_l9, if_pos (ilt (by omega) (by omega) (by omega))]
  | succ d ih =>
    intro n m hdn hfd hR hy
    obtain ⟨k, rfl⟩ : ∃ k, n = k + 1 := ⟨n - 1, by omega⟩
    have hz : f + d < zn M := by omega
    have hw := wwz hM.1 hz
    have ez : ((f : Int) + ((d + 1 : Nat) : Int) - 1) = ((f + d : Nat) : Int) := by omega
    rw [f7_laysLevels_l9, ez, if_neg (inlt (by omega) (by omega) (by omega)), l0, l1, f7_offered_ok hR hM (z := f + d) (by omega) hp1 hp2 (Or.inl rfl), bd_some, f7_wantedAt_ok hR.1 hw (by omega) hp1 (by omega), bd_some, ii_sub, wrq m lnR.2.2.2.2.1 (k := f + d) (by omega) (by omega) (by omega)]
    have F1 : Fr56 m (up2 m 5 (f + d) (ii (ow (Dg M g nf) (f + d) (p + 0) - Wt M (f + d) p))) := (Fr56.rf m).u5 _ _
    have R1 := hR.f56 F1
    rw [f7_offered_ok R1 hM (z := f + d) (by omega) hp1 hp2 (Or.inr rfl), bd_some, ii_add, f7_wantedAt_ok R1.1 hw (by omega) (by omega) (by omega), bd_some, ii_sub, wrq _ lnR.2.2.2.2.2.1 (k := f + d) (by omega) (by omega) (by omega), ii_add, nm_eq]
    have F2 := F1.u6 (f + d) (ii (ow (Dg M g nf) (f + d) (p + 1) - Wt M (f + d) (p + 1)))
    generalize hm2 : up2 (up2 m 5 (f + d) (ii (ow (Dg M g nf) (f + d) (p + 0) - Wt M (f + d) p))) 6 (f + d) (ii (ow (Dg M g nf) (f + d) (p + 1) - Wt M (f + d) (p + 1))) = m2 at F2 ⊢
    have oth : ∀ y, y ≠ f + d → m2 5 y = m 5 y ∧ m2 6 y = m 6 y := by
      intro y hy
      rw [← hm2]
      exact ⟨by rw [up2_c _ _ _ _ (by omega), up2_k _ _ _ _ hy], by rw [up2_k _ _ _ _ hy, up2_c _ _ _ _ (by omega)]⟩
    obtain ⟨m3, f1, f2, f3, f4⟩ := l61 (g := g) (nf := nf) hM (z := f + d) (p := p) (fun x1 x2 x3 mm => f7_laysLevels_l9 k x1 x2 x3 mm) (ii f) (ii p) (zn M - (f + d + 1)) (f + d + 1) FU m2 (by omega) (by unfold FU; omega) (by omega) (hR.f56 F2) (fun y h1 h2 => by
      have a := oth y (by omega)
      have b := hy y (by omega) h2
      exact ⟨a.1.trans b.1, a.2.trans b.2⟩) (by rw [← hm2, up2_c _ _ _ _ (by omega), up2_at, smi_0, Int.add_zero, Int.add_zero]; rfl) (by rw [← hm2, up2_at, smi_0, Int.add_zero]; rfl)
    obtain ⟨m4, g1, g2, g3⟩ := ih k m3 (by omega) (by omega) ((hR.f56 F2).f56 f1) (fun y h1 h2 => by
      by_cases e : y = f + d
      · subst e; exact f3
      · have a := f2 y e
        have b := oth y e
        have c := hy y (by omega) h2
        exact ⟨(a.1.trans b.1).trans c.1, (a.2.trans b.2).trans c.2⟩)
    refine ⟨m4, (F2.tr f1).tr g1, g2, ?_⟩
    have e2 : ((f + d : Nat) : Int) + 1 = ((f + d + 1 : Nat) : Int) := by omega
    rw [e2, f4]
    have e3 : ((f + d : Nat) : Int) - 1 = (f : Int) + d - 1 := by omega
    rw [e3]
    exact g3
theorem lays_ok (hR : RC mm M g nf) (hM : WF M) {f : Nat} (hf : f ≤ zn M) {p : Int} (hp1 : 0 ≤ p) (hp2 : p ≤ 9999) : ∃ m', Fr56 mm m' ∧ (∀ y, f ≤ y → y < zn M → r56 m' (Dg M g nf) p y) ∧ f7_laysLevels mm (ii f) (ii p) = some m' := by
  have hb := zn_bd hM.1
  obtain ⟨m', h1, h2, h3⟩ := l9v (g := g) (nf := nf) hM hp1 hp2 (f := f) (zn M - f) FU mm (by unfold FU; omega) (by omega) hR (fun y a b => by omega)
  refine ⟨m', h1, h2, ?_⟩
  unfold f7_laysLevels
  rw [l0, l1, rd1 hR.1 (k := 0) (by omega) (by omega), zn_c hM.1, ii_sub, nm_eq]
  have e : (f : Int) + ((zn M - f : Nat) : Int) - 1 = (zn M : Int) - 1 := by omega
  rw [e] at h3
  exact h3
theorem lpv7 (hM : WF M) {z : Nat} (hz : z < zn M) {nt : Int} (hn1 : -100000 ≤ nt) (hn2 : nt ≤ 100000) : ∀ (d n : Nat) (m : Mem) (lo hi : Nat), hi - lo ≤ d → d < n → lo ≤ lp (Dg M g nf) z nt → lp (Dg M g nf) z nt ≤ hi → hi ≤ 9999 → RC m M g nf → ∃ m', Fr56 m m' ∧ f7_leastPrice_l7 n (ii z) (ii nt) (ii lo) (ii hi) m = some (ii (lp (Dg M g nf) z nt), m') := by
  have hD := Dg_WD hM g nf
  have hb := zn_bd hM.1
  intro d
  induction d with
  | zero =>
    intro n m lo hi hd hdn h1 h2 h3 hR
    obtain ⟨k, rfl⟩ : ∃ k, n = k + 1 := ⟨n - 1, by omega⟩
    refine ⟨m, Fr56.rf m, ?_⟩
    have e : lo = lp (Dg M g nf) z nt := by omega
    rw [f7_leastPrice_l7, if_neg (inlt (by omega) (by omega) (by omega)), e]
  | succ d ih =>
    intro n m lo hi hd hdn h1 h2 h3 hR
    obtain ⟨k, rfl⟩ : ∃ k, n = k + 1 := ⟨n - 1, by omega⟩
    rw [f7_leastPrice_l7]
    by_cases c : lo < hi
    · rw [if_pos (ilt (by omega) (by omega) (by omega)), l2, dvz_ii (by omega) (by omega) (by omega), ii_add, ii_div (by omega) (by omega) (by omega) (by omega), nm_eq]
      have ev : ((lo : Int) + hi) / 2 = (((lo + hi) / 2 : Nat) : Int) := by omega
      rw [ev]
      have g1 : lo ≤ (lo + hi) / 2 := by omega
      have g2 : (lo + hi) / 2 < hi := by omega
      generalize (lo + hi) / 2 = v at *
      obtain ⟨m1, f1, f2, f3⟩ := lays_ok hR hM (f := z) (by omega) (p := v) (by omega) (by omega)
      have b := Lz_bd hD (z := z) hz ((v : Int) + 1)
      rw [f3, bd_some, rdq m1 lnR.2.2.2.2.2.1 (k := z) (by omega) (by omega) (by omega), (f2 z (Nat.le_refl _) hz).2]
      by_cases e : Lz (Dg M g nf) z ((v : Int) + 1) < nt
      · rw [if_pos (ilt e (by omega) (by omega)), iSu, nm_eq]
        unfold f7_leastPrice_j50
        have lb : v + 1 ≤ lp (Dg M g nf) z nt := by
          by_cases q : lp (Dg M g nf) z nt ≤ v
          · exfalso
            have : lp (Dg M g nf) z nt < 9999 := by omega
            have a := ffl_at (fun q => nt ≤ Lz (Dg M g nf) z ((q : Int) + 1)) 9999 0 (by unfold lp at this; omega)
            have a2 : nt ≤ Lz (Dg M g nf) z ((lp (Dg M g nf) z nt : Int) + 1) := a
            have mn := Lz_mn hD (z := z) hz (p := (lp (Dg M g nf) z nt : Int) + 1) (q := (v : Int) + 1) (by omega)
            omega
          · omega
        obtain ⟨m', q1, q2⟩ := ih k m1 (v + 1) hi (by omega) (by omega) lb h2 h3 (hR.f56 f1)
        exact ⟨m', f1.tr q1, q2⟩
      · rw [if_neg (inlt (by omega) (by omega) (by omega))]
        unfold f7_leastPrice_j50
        obtain ⟨m', q1, q2⟩ := ih k m1 lo v (by omega) (by omega) h1 (lp_at hD (z := z) hz (by omega) (by omega)).2 (by omega) (hR.f56 f1)
        exact ⟨m', f1.tr q1, q2⟩
    · refine ⟨m, Fr56.rf m, ?_⟩
      have e : lo = lp (Dg M g nf) z nt := by omega
      rw [if_neg (inlt (by omega) (by omega) (by omega)), e]
theorem f7_leastPrice_ok (hR : RC mm M g nf) (hM : WF M) {z : Nat} (hz : z < zn M) {nt : Int} (hn1 : -100000 ≤ nt) (hn2 : nt ≤ 100000) : ∃ m', Fr56 mm m' ∧ f7_leastPrice mm (ii z) (ii nt) = some (ii (lp (Dg M g nf) z nt), m') := by
  unfold f7_leastPrice
  rw [l0, l9999]
  exact lpv7 hM hz hn1 hn2 9999 FU mm 0 9999 (by omega) (by unfold FU; omega) (by omega) (lp_le _ _ _) (by omega) hR
theorem f7_priceOf_ok (hR : RC mm M g nf) (hM : WF M) {z : Nat} (hz : z < zn M) (h8 : mm 8 z = ii (Nz (Dg M g nf) z)) (h7 : 1 ≤ z → mm 7 (dou (Dg M g nf) z) = ii (Pz (Dg M g nf) (dou (Dg M g nf) z))) : ∃ m', Fr56 mm m' ∧ f7_priceOf mm (ii z) = some (ii (Pz (Dg M g nf) z), m') := by
  have hD := Dg_WD hM g nf
  have hb := zn_bd hM.1
  have nb := N_bd hD (z := z) hz
  unfold f7_priceOf
  rw [l0]
  by_cases c : z = 0
  · rw [if_neg (by rw [c]; exact inlt (by omega) (by omega) (by omega))]
    obtain ⟨m1, f1, f2⟩ := f7_leastPrice_ok hR hM hz nb.1 nb.2
    refine ⟨m1, f1, ?_⟩
    unfold f7_priceOf_j54
    rw [rdq mm lnR.2.2.2.2.2.2.2.1 (k := z) (by omega) (by omega) (by omega), h8, f2, bd_some]
    subst c
    rw [(PN_0 _).1, (PN_0 _).2]
  · have hw := wwz hM.1 hz
    have o := hw.1 (by omega)
    have ho : dou (Dg M g nf) z < z := hD.ou (by omega) hz
    have eo : M (7 + 12 * z) = (dou (Dg M g nf) z : Int) := by
      show M (7 + 12 * z) = ((M (7 + 12 * z)).toNat : Int)
      omega
    have pb := PN_9 hD (z := dou (Dg M g nf) z) (show dou (Dg M g nf) z < zn M by omega)
    obtain ⟨eN, eP⟩ := PN_s hD (z := z) (by omega) hz
    rw [if_pos (ilt (by omega) (by omega) (by omega)), f7_ofZone_ok hR.1 (z := z) (by omega) (k := 0) (by omega) (j := 7 + 12 * z) (by omega) (by omega), bd_some, eo, rdq mm lnR.2.2.2.2.2.2.1 (k := dou (Dg M g nf) z) (by omega) (by omega) (by omega), h7 (by omega)]
    obtain ⟨m1, f1, f2, f3⟩ := lays_ok hR hM (f := z) (by omega) (p := Pz (Dg M g nf) (dou (Dg M g nf) z)) (by omega) (by omega)
    have l0 := Lz_bd hD (z := z) hz (Pz (Dg M g nf) (dou (Dg M g nf) z))
    have l1 := Lz_bd hD (z := z) hz ((Pz (Dg M g nf) (dou (Dg M g nf) z) : Int) + 1)
    have q := f2 z (Nat.le_refl _) hz
    have h81 : m1 8 z = ii (Nz (Dg M g nf) z) := by rw [f1 8 (by omega) (by omega)]; exact h8
    have J : ∃ m', Fr56 m1 m' ∧ f7_priceOf_j54 (ii z) m1 = some (ii (lp (Dg M g nf) z (Nz (Dg M g nf) z)), m') := by
      obtain ⟨m2, k1, k2⟩ := f7_leastPrice_ok (hR.f56 f1) hM hz nb.1 nb.2
      refine ⟨m2, k1, ?_⟩
      unfold f7_priceOf_j54
      rw [rdq m1 lnR.2.2.2.2.2.2.2.1 (k := z) (by omega) (by omega) (by omega), h81, k2, bd_some]
    obtain ⟨m2, k1, k2⟩ := J
    rw [f3, bd_some, rdq m1 lnR.2.2.2.2.2.2.2.1 (k := z) (by omega) (by omega) (by omega), h81, rdq m1 lnR.2.2.2.2.1 (k := z) (by omega) (by omega) (by omega), q.1]
    by_cases e1 : Nz (Dg M g nf) z < Lz (Dg M g nf) z (Pz (Dg M g nf) (dou (Dg M g nf) z))
    · rw [if_pos (ilt e1 (by omega) (by omega))]
      refine ⟨m2, f1.tr k1, ?_⟩
      rw [k2, eP, if_neg (by omega)]
    · rw [if_neg (inlt (by omega) (by omega) (by omega)), rdq m1 lnR.2.2.2.2.2.2.2.1 (k := z) (by omega) (by omega) (by omega), h81, rdq m1 lnR.2.2.2.2.2.1 (k := z) (by omega) (by omega) (by omega), q.2]
      by_cases e2 : Lz (Dg M g nf) z ((Pz (Dg M g nf) (dou (Dg M g nf) z) : Int) + 1) < Nz (Dg M g nf) z
      · rw [if_pos (ilt e2 (by omega) (by omega))]
        refine ⟨m2, f1.tr k1, ?_⟩
        rw [k2, eP, if_neg (by omega)]
      · rw [if_neg (inlt (by omega) (by omega) (by omega))]
        refine ⟨m1, f1, ?_⟩
        rw [eP, if_pos (by omega)]
end
