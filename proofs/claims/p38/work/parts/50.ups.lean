/-! what is told changes a market -/
def zoa (M : WM) (a b c : Int) : WM := up (up (up (up (up M (7 + 12 * zn M) a) (8 + 12 * zn M) b) (9 + 12 * zn M) c) (10 + 12 * zn M) 0) 0 ((zn M : Int) + 1)
def padd (M : WM) (z : Nat) (u p : Int) : WM := up (up (up M (11 + 12 * z + 2 * npt M z) u) (12 + 12 * z + 2 * npt M z) p) (10 + 12 * z) ((npt M z : Int) + 1)
def pdrop (M : WM) (z : Nat) : WM := up M (10 + 12 * z) 0
def radd (M : WM) (z sz kd ow mu fr : Int) : WM := up (up (up (up (up (up (up (up M (79 + 13 * rn M) z) (80 + 13 * rn M) sz) (81 + 13 * rn M) kd) (82 + 13 * rn M) ow) (83 + 13 * rn M) mu) (84 + 13 * rn M) fr) (85 + 13 * rn M) 0) 1 ((rn M : Int) + 1)
def sadd (M : WM) (r : Nat) (u p : Int) : WM := up (up (up M (86 + 13 * r + 2 * stp M r) u) (87 + 13 * r + 2 * stp M r) p) (85 + 13 * r) ((stp M r : Int) + 1)
def sdp (M : WM) (r : Nat) : WM := up M (85 + 13 * r) 0
def FrZ (y : Nat) (mm m' : Mem) : Prop := ∀ c, (c < y ∨ y + 6 < c) → m' c = mm c
def FrO (o : Nat) (mm m' : Mem) : Prop := ∀ c, (c < o ∨ o + 10 < c) → m' c = mm c
theorem FrZ.rf (y : Nat) (mm : Mem) : FrZ y mm mm := fun _ _ => rfl
theorem FrO.rf (y : Nat) (mm : Mem) : FrO y mm mm := fun _ _ => rfl
theorem FrZ.u {y : Nat} {mm m : Mem} (h : FrZ y mm m) {c : Nat} (hc : c ≤ 6) (k : Nat) (v : Int32) : FrZ y mm (up2 m (y + c) k v) := fun q hq => by
  rw [← h q hq]; funext j; exact up2_c _ _ _ _ (by omega)
theorem FrO.u {y : Nat} {mm m : Mem} (h : FrO y mm m) {c : Nat} (hc : c ≤ 10) (k : Nat) (v : Int32) : FrO y mm (up2 m (y + c) k v) := fun q hq => by
  rw [← h q hq]; funext j; exact up2_c _ _ _ _ (by omega)
section
variable {mm : Mem} {y o : Nat} {M : WM}
theorem f5_add_ok (h : ZK mm y M) (hM : WW M) (hn : zn M < 6) (a b c : Int) : ∃ m', FrZ y mm m' ∧ ZK m' y (zoa M a b c) ∧ f5_add mm y (ii a) (ii b) (ii c) = some (ii (zn M), m') := by
  have q := cz_o (zn M) hn
  have l := z_ln h
  have h1 := zk_up h q.1 (q.2.2.2.2.1 (by have := zn_bd hM; omega)) a
  have h2 := zk_up h1 q.2.1 q.2.2.2.2.2.1 b
  have h3 := zk_up h2 q.2.2.1 q.2.2.2.2.2.2.1 c
  have h4 := zk_up h3 q.2.2.2.1 q.2.2.2.2.2.2.2 0
  have h5 := zk_up h4 (j := 0) (c := 0) (s := 0) rfl rfl ((zn M : Int) + 1)
  have F := (((((FrZ.rf y mm).u (c := 1) (by omega) (zn M) (ii a)).u (c := 2) (by omega) (zn M) (ii b)).u (c := 3) (by omega) (zn M) (ii c)).u (c := 4) (by omega) (zn M) (ii 0)).u (c := 0) (by omega) 0 (ii ((zn M : Int) + 1))
  refine ⟨_, F, h5, ?_⟩
  unfold f5_add
  rw [h.n, zn_c hM, nm_eq, put_i mm l.1 hn (by omega), bd_some, put_i _ l.2.1 hn (by omega), bd_some, put_i _ l.2.2.1 hn (by omega), bd_some, l0, put_i _ l.2.2.2.1 hn (by omega), bd_some, l1, ii_add, nm_eq]
  rfl
theorem f5_addPoint_ok (h : ZK mm y M) {z : Nat} (hw : ZW M z) (hz : z < 6) (hn : npt M z < 4) (u p : Int) : ∃ m', FrZ y mm m' ∧ ZK m' y (padd M z u p) ∧ f5_addPoint mm y (ii z) (ii u) (ii p) = some (ii ((npt M z : Int) + 1), m') := by
  have q := cz_o z hz
  have q2 := cz_p z hz (npt M z) hn
  have l := z_ln h
  have h1 := zk_up h q2.1 q2.2.2.1 u
  have h2 := zk_up h1 q2.2.1 q2.2.2.2 p
  have h3 := zk_up h2 q.2.2.2.1 q.2.2.2.2.2.2.2 ((npt M z : Int) + 1)
  have F := (((FrZ.rf y mm).u (c := 5) (by omega) (4 * z + npt M z) (ii u)).u (c := 6) (by omega) (4 * z + npt M z) (ii p)).u (c := 4) (by omega) z (ii ((npt M z : Int) + 1))
  refine ⟨_, F, h3, ?_⟩
  unfold f5_addPoint
  rw [z_npt h hw hz, bd_some, l4, l1, ii_mul, ii_add, ii_add, put_e mm (k := 4 * z + npt M z) (by omega) l.2.2.2.2.1 (by omega) (by omega), bd_some, put_e _ (k := 4 * z + npt M z) (by omega) l.2.2.2.2.2 (by omega) (by omega), bd_some, put_i _ l.2.2.2.1 hz (by omega), bd_some]
theorem f5_dropPoints_ok (h : ZK mm y M) {z : Nat} (hw : ZW M z) (hz : z < 6) : ∃ m', FrZ y mm m' ∧ ZK m' y (pdrop M z) ∧ f5_dropPoints mm y (ii z) = some (ii (npt M z), m') := by
  have q := cz_o z hz
  have l := z_ln h
  have h1 := zk_up h q.2.2.2.1 q.2.2.2.2.2.2.2 0
  have F := (FrZ.rf y mm).u (c := 4) (by omega) z (ii 0)
  refine ⟨_, F, h1, ?_⟩
  unfold f5_dropPoints
  rw [z_npt h hw hz, bd_some, l0, put_i _ l.2.2.2.1 hz (by omega), bd_some]
theorem f2_add_ok (h : OK mm o M) (hM : WW M) (hn : rn M < 12) (z sz kd ow : Int) {mu fr : Int} (hmu : mu = 0 ∨ mu = 1) (hfr : fr = 0 ∨ fr = 1) : ∃ m', FrO o mm m' ∧ OK m' o (radd M z sz kd ow mu fr) ∧ f2_add mm o (ii z) (ii sz) (ii kd) (ii ow) (ii mu) (ii fr) = some (ii (rn M), m') := by
  have q := cof_o (rn M) hn
  have l := o_ln h
  have h1 := ok_up h q.1 q.2.2.2.2.2.2.2.1 z
  have h2 := ok_up h1 q.2.1 q.2.2.2.2.2.2.2.2.1 sz
  have h3 := ok_up h2 q.2.2.1 q.2.2.2.2.2.2.2.2.2.1 kd
  have h4 := ok_up h3 q.2.2.2.1 q.2.2.2.2.2.2.2.2.2.2.1 ow
  have h5 := ok_up h4 q.2.2.2.2.1 q.2.2.2.2.2.2.2.2.2.2.2.1 mu
  have h6 := ok_up h5 q.2.2.2.2.2.1 q.2.2.2.2.2.2.2.2.2.2.2.2.1 fr
  have h7 := ok_up h6 q.2.2.2.2.2.2.1 q.2.2.2.2.2.2.2.2.2.2.2.2.2 0
  have h8 := ok_up h7 (j := 1) (c := 0) (s := 0) rfl rfl ((rn M : Int) + 1)
  have F := ((((((((FrO.rf o mm).u (c := 2) (by omega) (rn M) (ii z)).u (c := 3) (by omega) (rn M) (ii sz)).u (c := 4) (by omega) (rn M) (ii kd)).u (c := 5) (by omega) (rn M) (ii ow)).u (c := 6) (by omega) (rn M) (ii mu)).u (c := 7) (by omega) (rn M) (ii fr)).u (c := 8) (by omega) (rn M) (ii 0)).u (c := 0) (by omega) 0 (ii ((rn M : Int) + 1))
  refine ⟨_, F, h8, ?_⟩
  unfold f2_add
  rw [h.n, rn_c hM, nm_eq, put_i mm l.2.1 hn (by omega), bd_some, put_i _ l.2.2.1 hn (by omega), bd_some, put_i _ l.2.2.2.1 hn (by omega), bd_some, put_i _ l.2.2.2.2.1 hn (by omega), bd_some, l0, l1]
  unfold f2_add_j63
  rw [l0, l1]
  unfold f2_add_j82
  rw [l0, l1, ii_add]
  have J : ∀ (m : Mem) (w w' : Int), bd (f6_put m (o + 6) (ii (rn M)) (ii w)) (fun r6 => bd (f6_put r6 (o + 7) (ii (rn M)) (ii w')) (fun r7 => bd (f6_put r7 (o + 8) (ii (rn M)) (ii 0)) (fun r8 => nm (up2 r8 o 0 (ii ((rn M : Int) + 1))) (fun m9 => some (ii ((rn M : Nat) : Int), m9))))) = some (ii ((rn M : Nat) : Int), up2 (up2 (up2 (up2 m (o + 6) (rn M) (ii w)) (o + 7) (rn M) (ii w')) (o + 8) (rn M) (ii 0)) o 0 (ii ((rn M : Int) + 1))) := by
    intro m w w'
    rw [put_i m l.2.2.2.2.2.1 hn (by omega), bd_some, put_i _ l.2.2.2.2.2.2.1 hn (by omega), bd_some, put_i _ l.2.2.2.2.2.2.2.1 hn (by omega), bd_some, nm_eq]
  rcases hmu with rfl | rfl <;> rcases hfr with rfl | rfl
  · rw [if_pos rfl]; simp only [if_pos (show ii 0 = ii 0 from rfl)]; exact J _ _ _
  · rw [if_pos rfl]; simp only [if_neg (show ¬ ii 1 = ii 0 by decide)]; exact J _ _ _
  · rw [if_neg (by decide)]; simp only [if_pos (show ii 0 = ii 0 from rfl)]; exact J _ _ _
  · rw [if_neg (by decide)]; simp only [if_neg (show ¬ ii 1 = ii 0 by decide)]; exact J _ _ _
theorem f2_addStep_ok (h : OK mm o M) {r : Nat} (hw : RW M r) (hr : r < 12) (hn : stp M r < 3) (u p : Int) : ∃ m', FrO o mm m' ∧ OK m' o (sadd M r u p) ∧ f2_addStep mm o (ii r) (ii u) (ii p) = some (ii ((stp M r : Int) + 1), m') := by
  have q := cof_o r hr
  have q2 := cof_p r hr (stp M r) hn
  have l := o_ln h
  have h1 := ok_up h q2.1 q2.2.2.1 u
  have h2 := ok_up h1 q2.2.1 q2.2.2.2 p
  have h3 := ok_up h2 q.2.2.2.2.2.2.1 q.2.2.2.2.2.2.2.2.2.2.2.2.2 ((stp M r : Int) + 1)
  have F := (((FrO.rf o mm).u (c := 9) (by omega) (3 * r + stp M r) (ii u)).u (c := 10) (by omega) (3 * r + stp M r) (ii p)).u (c := 8) (by omega) r (ii ((stp M r : Int) + 1))
  refine ⟨_, F, h3, ?_⟩
  unfold f2_addStep
  rw [o_stp h hw hr, bd_some, l3, l1, ii_mul, ii_add, ii_add, put_e mm (k := 3 * r + stp M r) (by omega) l.2.2.2.2.2.2.2.2.1 (by omega) (by omega), bd_some, put_e _ (k := 3 * r + stp M r) (by omega) l.2.2.2.2.2.2.2.2.2 (by omega) (by omega), bd_some, put_i _ l.2.2.2.2.2.2.2.1 hr (by omega), bd_some]
theorem f2_dropSteps_ok (h : OK mm o M) {r : Nat} (hw : RW M r) (hr : r < 12) : ∃ m', FrO o mm m' ∧ OK m' o (sdp M r) ∧ f2_dropSteps mm o (ii r) = some (ii (stp M r), m') := by
  have q := cof_o r hr
  have l := o_ln h
  have h1 := ok_up h q.2.2.2.2.2.2.1 q.2.2.2.2.2.2.2.2.2.2.2.2.2 0
  have F := (FrO.rf o mm).u (c := 8) (by omega) r (ii 0)
  refine ⟨_, F, h1, ?_⟩
  unfold f2_dropSteps
  rw [o_stp h hw hr, bd_some, l0, put_i _ l.2.2.2.2.2.2.2.1 hr (by omega), bd_some]
end
/-! what holds of a market holds of the changed one -/
section
variable {M M' : WM}
theorem rg_up (h : ∀ j, -2147483648 ≤ M j ∧ M j < 2147483648) (k : Nat) {v : Int} (h1 : -2147483648 ≤ v) (h2 : v < 2147483648) : ∀ j, -2147483648 ≤ up M k v j ∧ up M k v j < 2147483648 := fun j => by
  unfold up
  by_cases e : j = k
  · rw [if_pos e]; exact ⟨h1, h2⟩
  · rw [if_neg e]; exact h j
theorem pu_c {z k : Nat} (hk : k < 4) (h : ∀ j, 7 + 12 * z ≤ j → j < 19 + 12 * z → M' j = M j) : pu M' z k = pu M z k ∧ pp M' z k = pp M z k := ⟨h _ (by omega) (by omega), h _ (by omega) (by omega)⟩
theorem npt_cg {z : Nat} (h : ∀ j, 7 + 12 * z ≤ j → j < 19 + 12 * z → M' j = M j) : npt M' z = npt M z := by
  unfold npt
  rw [h (10 + 12 * z) (by omega) (by omega)]
theorem ZW_c {z : Nat} (h : ∀ j, 7 + 12 * z ≤ j → j < 19 + 12 * z → M' j = M j) (hw : ZW M z) : ZW M' z := by
  have hn := npt_le hw
  have e := npt_cg h
  obtain ⟨a, b, c, d, f, g⟩ := hw
  refine ⟨fun h1 => ?_, ?_, ?_, ?_, fun k hk => ?_, fun k hk => ?_⟩
  · rw [h (7 + 12 * z) (by omega) (by omega)]; exact a h1
  · rw [h (8 + 12 * z) (by omega) (by omega)]; exact b
  · rw [h (9 + 12 * z) (by omega) (by omega)]; exact c
  · rw [h (10 + 12 * z) (by omega) (by omega)]; exact d
  · rw [e] at hk
    rw [(pu_c (by omega) h).1, (pu_c (by omega) h).2]; exact f k hk
  · rw [e] at hk
    rw [(pu_c (k := k) (by omega) h).1, (pu_c (k := k) (by omega) h).2, (pu_c (k := k + 1) (by omega) h).1, (pu_c (k := k + 1) (by omega) h).2]; exact g k hk
theorem su_c {r k : Nat} (hk : k < 3) (h : ∀ j, 79 + 13 * r ≤ j → j < 92 + 13 * r → M' j = M j) : su M' r k = su M r k ∧ sp M' r k = sp M r k := ⟨h _ (by omega) (by omega), h _ (by omega) (by omega)⟩
theorem stp_cg {r : Nat} (h : ∀ j, 79 + 13 * r ≤ j → j < 92 + 13 * r → M' j = M j) : stp M' r = stp M r := by
  unfold stp
  rw [h (85 + 13 * r) (by omega) (by omega)]
theorem RW_c {r : Nat} (h : ∀ j, 79 + 13 * r ≤ j → j < 92 + 13 * r → M' j = M j) (h0 : M 0 ≤ M' 0) (hw : RW M r) : RW M' r := by
  have hn := stp_le hw
  have e := stp_cg h
  obtain ⟨a, b, c, d, f, g, i, k⟩ := hw
  refine ⟨?_, ?_, ?_, ?_, ?_, ?_, ?_, fun j hj => ?_⟩
  · rw [h (79 + 13 * r) (by omega) (by omega)]; omega
  · rw [h (80 + 13 * r) (by omega) (by omega)]; exact b
  · rw [h (81 + 13 * r) (by omega) (by omega)]; exact c
  · rw [h (82 + 13 * r) (by omega) (by omega)]; exact d
  · rw [h (83 + 13 * r) (by omega) (by omega)]; exact f
  · rw [h (84 + 13 * r) (by omega) (by omega)]; exact g
  · rw [h (85 + 13 * r) (by omega) (by omega)]; exact i
  · rw [e] at hj
    rw [(su_c (by omega) h).1, (su_c (by omega) h).2]; exact k j hj
theorem rest_c {r : Nat} (h : ∀ j, 79 + 13 * r ≤ j → j < 92 + 13 * r → M' j = M j) (hw : RW M r) : rest M' r = rest M r := by
  have hn := stp_le hw
  unfold rest
  rw [stp_cg h, h (80 + 13 * r) (by omega) (by omega), sm_congr (fun i hi => (su_c (by omega) h).1)]
theorem zoa_o {a b c : Int} {j : Nat} (h : j ≠ 0) (h2 : j < 7 + 12 * zn M ∨ 11 + 12 * zn M ≤ j) : zoa M a b c j = M j := by
  unfold zoa up
  rw [if_neg h, if_neg (by omega), if_neg (by omega), if_neg (by omega), if_neg (by omega)]
theorem zoa_WF (hM : WF M) (hn : zn M < 6) {a b c : Int} (ha : 0 ≤ a ∧ a < M 0) (hb : 0 ≤ b ∧ b ≤ 9999) (hc : 0 ≤ c ∧ c ≤ 9999) : WF (zoa M a b c) := by
  have hM1 := hM.1
  have zc := zn_c hM1
  have zb := zn_bd hM1
  have rb := hM1.rn
  have e0 : zoa M a b c 0 = (zn M : Int) + 1 := rfl
  have rg : ∀ j, -2147483648 ≤ zoa M a b c j ∧ zoa M a b c j < 2147483648 := rg_up (rg_up (rg_up (rg_up (rg_up hM1.rg _ (by omega) (by omega)) _ (by omega) (by omega)) _ (by omega) (by omega)) _ (by omega) (by omega)) _ (by omega) (by omega)
  have ro : ∀ r : Nat, r < M 1 → ∀ j, 79 + 13 * r ≤ j → j < 92 + 13 * r → zoa M a b c j = M j := fun r hr j h1 h2 => zoa_o (by omega) (by omega)
  have e1 : zoa M a b c 1 = M 1 := zoa_o (by omega) (by omega)
  refine ⟨⟨rg, by omega, by rw [e1]; exact rb, by rw [zoa_o (by omega) (by omega)]; exact hM1.ce, fun k hk => by rw [zoa_o (by omega) (by omega)]; exact hM1.fl hk, by rw [zoa_o (by omega) (by omega)]; exact hM1.o0, fun z hz => ?_, fun r hr => ?_⟩, fun r hr => ?_⟩
  · by_cases e : z = zn M
    · subst e
      have p7 : zoa M a b c (7 + 12 * zn M) = a := by
        unfold zoa up
        rw [if_neg (by omega), if_neg (by omega), if_neg (by omega), if_neg (by omega), if_pos rfl]
      have p8 : zoa M a b c (8 + 12 * zn M) = b := by
        unfold zoa up
        rw [if_neg (by omega), if_neg (by omega), if_neg (by omega), if_pos rfl]
      have p9 : zoa M a b c (9 + 12 * zn M) = c := by
        unfold zoa up
        rw [if_neg (by omega), if_neg (by omega), if_pos rfl]
      have p10 : zoa M a b c (10 + 12 * zn M) = 0 := by
        unfold zoa up
        rw [if_neg (by omega), if_pos rfl]
      have np : npt (zoa M a b c) (zn M) = 0 := by unfold npt; rw [p10]; rfl
      exact ⟨fun _ => by rw [p7]; omega, by rw [p8]; exact hb, by rw [p9]; exact hc, by rw [p10]; omega, fun k hk => by omega, fun k hk => by omega⟩
    · exact ZW_c (fun j h1 h2 => zoa_o (by omega) (by omega)) (hM1.z (by omega))
  · rw [e1] at hr
    exact RW_c (ro r hr) (by omega) (hM1.r hr)
  · rw [e1] at hr
    rw [rest_c (ro r hr) (hM1.r hr)]
    exact hM.2 r hr
theorem padd_o {z : Nat} {u p : Int} {j : Nat} (h : j < 10 + 12 * z ∨ 19 + 12 * z ≤ j) (hn : npt M z < 4) : padd M z u p j = M j := by
  unfold padd up
  rw [if_neg (by omega), if_neg (by omega), if_neg (by omega)]
theorem WF_z (hM : WF M) {z : Nat} (hz : z < zn M) (h : ∀ j, (j < 7 + 12 * z ∨ 19 + 12 * z ≤ j) → M' j = M j) (hr : ∀ j, -2147483648 ≤ M' j ∧ M' j < 2147483648) (h7 : M' (7 + 12 * z) = M (7 + 12 * z)) (hw : ZW M' z) : WF M' := by
  have hM1 := hM.1
  have zc := zn_c hM1
  have zb := zn_bd hM1
  have rb := hM1.rn
  have e0 : M' 0 = M 0 := h 0 (by omega)
  have e1 : M' 1 = M 1 := h 1 (by omega)
  have ro : ∀ r : Nat, ∀ j, 79 + 13 * r ≤ j → j < 92 + 13 * r → M' j = M j := fun r j h1 h2 => h j (by omega)
  refine ⟨⟨hr, by rw [e0]; exact hM1.zn, by rw [e1]; exact rb, by rw [h 2 (by omega)]; exact hM1.ce, fun k hk => by rw [h _ (by omega)]; exact hM1.fl hk, ?_, fun y hy => ?_, fun r hr => ?_⟩, fun r hr => ?_⟩
  · by_cases e : z = 0
    · subst e; rw [show (7 : Nat) = 7 + 12 * 0 by omega, h7]; exact hM1.o0
    · rw [h 7 (by omega)]; exact hM1.o0
  · rw [e0] at hy
    by_cases e : y = z
    · subst e; exact hw
    · exact ZW_c (fun j h1 h2 => h j (by omega)) (hM1.z hy)
  · rw [e1] at hr
    exact RW_c (ro r) (by omega) (hM1.r hr)
  · rw [e1] at hr
    rw [rest_c (ro r) (hM1.r hr)]
    exact hM.2 r hr
theorem padd_ZW {z : Nat} (hw : ZW M z) (hn : npt M z < 4) {u p : Int} (hu : wan M z + 1 ≤ u ∧ u ≤ 2000) (hp : 0 ≤ p ∧ p ≤ (if npt M z = 0 then 9999 else pp M z (npt M z - 1))) : ZW (padd M z u p) z := by
  have wl := wan_le hw
  have p10 : padd M z u p (10 + 12 * z) = (npt M z : Int) + 1 := by
    unfold padd up
    rw [if_pos rfl]
  have np : npt (padd M z u p) z = npt M z + 1 := by unfold npt; rw [p10]; unfold npt; omega
  have old : ∀ k, k < npt M z → pu (padd M z u p) z k = pu M z k ∧ pp (padd M z u p) z k = pp M z k := fun k hk => by
    unfold pu pp padd up
    constructor
    · rw [if_neg (by omega), if_neg (by omega), if_neg (by omega)]
    · rw [if_neg (by omega), if_neg (by omega), if_neg (by omega)]
  have nu : pu (padd M z u p) z (npt M z) = u := by
    unfold pu padd up
    rw [if_neg (by omega), if_neg (by omega), if_pos rfl]
  have nq : pp (padd M z u p) z (npt M z) = p := by
    unfold pp padd up
    rw [if_neg (by omega), if_pos rfl]
  have ip : p ≤ 9999 := by
    by_cases e : npt M z = 0
    · rw [if_pos e] at hp; omega
    · rw [if_neg e] at hp
      have := hw.pt (k := npt M z - 1) (by omega)
      omega
  obtain ⟨a, b, c, d, f, g⟩ := hw
  refine ⟨fun h1 => ?_, ?_, ?_, by rw [p10]; omega, fun k hk => ?_, fun k hk => ?_⟩
  · rw [padd_o (by omega) hn]; exact a h1
  · rw [padd_o (by omega) hn]; exact b
  · rw [padd_o (by omega) hn]; exact c
  · rw [np] at hk
    by_cases e : k = npt M z
    · subst e; rw [nu, nq]; omega
    · rw [(old k (by omega)).1, (old k (by omega)).2]; exact f k (by omega)
  · rw [np] at hk
    rw [(old k (by omega)).1, (old k (by omega)).2]
    by_cases e : k + 1 = npt M z
    · rw [e, nu, nq]
      unfold wan at hu
      rw [if_neg (by omega)] at hu hp
      rw [show npt M z - 1 = k by omega] at hu hp
      omega
    · rw [(old (k + 1) (by omega)).1, (old (k + 1) (by omega)).2]; exact g k (by omega)
theorem padd_WF (hM : WF M) {z : Nat} (hz : z < zn M) (hn : npt M z < 4) {u p : Int} (hu : wan M z + 1 ≤ u ∧ u ≤ 2000) (hp : 0 ≤ p ∧ p ≤ (if npt M z = 0 then 9999 else pp M z (npt M z - 1))) : WF (padd M z u p) := by
  have hw := wwz hM.1 hz
  have wl := wan_le hw
  have ip : p ≤ 9999 := by
    by_cases e : npt M z = 0
    · rw [if_pos e] at hp; omega
    · rw [if_neg e] at hp
      have := hw.pt (k := npt M z - 1) (by omega)
      omega
  exact WF_z hM hz (fun j hj => padd_o (by omega) hn) (rg_up (rg_up (rg_up hM.1.rg _ (by omega) (by omega)) _ (by omega) (by omega)) _ (by omega) (by omega)) (padd_o (by omega) hn) (padd_ZW hw hn hu hp)
theorem pdrop_WF (hM : WF M) {z : Nat} (hz : z < zn M) : WF (pdrop M z) := by
  have hw := wwz hM.1 hz
  have o : ∀ j, j ≠ 10 + 12 * z → pdrop M z j = M j := fun j hj => up_ne M 0 hj
  have p10 : pdrop M z (10 + 12 * z) = 0 := up_eq M _ 0
  have np : npt (pdrop M z) z = 0 := by unfold npt; rw [p10]; rfl
  refine WF_z hM hz (fun j hj => o j (by omega)) (rg_up hM.1.rg _ (by omega) (by omega)) (o _ (by omega)) ?_
  exact ⟨fun h1 => by rw [o _ (by omega)]; exact hw.1 h1, by rw [o _ (by omega)]; exact hw.2.1, by rw [o _ (by omega)]; exact hw.2.2.1, by rw [p10]; omega, fun k hk => by omega, fun k hk => by omega⟩
theorem WW_r (hM : WW M) {r : Nat} (hr0 : r < rn M) (h : ∀ j, (j < 79 + 13 * r ∨ 92 + 13 * r ≤ j) → M' j = M j) (hr : ∀ j, -2147483648 ≤ M' j ∧ M' j < 2147483648) (hw : RW M' r) : WW M' := by
  have rc := rn_c hM
  have e0 : M' 0 = M 0 := h 0 (by omega)
  have e1 : M' 1 = M 1 := h 1 (by omega)
  refine ⟨hr, by rw [e0]; exact hM.zn, by rw [e1]; exact hM.rn, by rw [h 2 (by omega)]; exact hM.ce, fun k hk => by rw [h _ (by omega)]; exact hM.fl hk, by rw [h 7 (by omega)]; exact hM.o0, fun y hy => ?_, fun q hq => ?_⟩
  · rw [e0] at hy
    have := hM.zn
    exact ZW_c (fun j h1 h2 => h j (by omega)) (hM.z hy)
  · rw [e1] at hq
    by_cases e : q = r
    · subst e; exact hw
    · exact RW_c (fun j h1 h2 => h j (by omega)) (by omega) (hM.r hq)
theorem WF_r (hM : WF M) {r : Nat} (hr0 : r < rn M) (h : ∀ j, (j < 79 + 13 * r ∨ 92 + 13 * r ≤ j) → M' j = M j) (hr : ∀ j, -2147483648 ≤ M' j ∧ M' j < 2147483648) (hw : RW M' r) (hs : 0 ≤ rest M' r) : WF M' := by
  refine ⟨WW_r hM.1 hr0 h hr hw, fun q hq => ?_⟩
  rw [h 1 (by omega)] at hq
  by_cases e : q = r
  · subst e; exact hs
  · rw [rest_c (fun j h1 h2 => h j (by omega)) (hM.1.r hq)]
    exact hM.2 q hq
theorem sadd_o {r : Nat} {u p : Int} {j : Nat} (h : j < 85 + 13 * r ∨ 92 + 13 * r ≤ j) (hn : stp M r < 3) : sadd M r u p j = M j := by
  unfold sadd up
  rw [if_neg (by omega), if_neg (by omega), if_neg (by omega)]
theorem sadd_RW {r : Nat} (hw : RW M r) (hn : stp M r < 3) {u p : Int} (hu : 1 ≤ u ∧ u ≤ 500) (hp : 0 ≤ p ∧ p ≤ 9999) : RW (sadd M r u p) r ∧ rest (sadd M r u p) r = rest M r - u := by
  have p85 : sadd M r u p (85 + 13 * r) = (stp M r : Int) + 1 := by
    unfold sadd up
    rw [if_pos rfl]
  have np : stp (sadd M r u p) r = stp M r + 1 := by unfold stp; rw [p85]; unfold stp; omega
  have old : ∀ k, k < stp M r → su (sadd M r u p) r k = su M r k ∧ sp (sadd M r u p) r k = sp M r k := fun k hk => by
    unfold su sp sadd up
    constructor
    · rw [if_neg (by omega), if_neg (by omega), if_neg (by omega)]
    · rw [if_neg (by omega), if_neg (by omega), if_neg (by omega)]
  have nu : su (sadd M r u p) r (stp M r) = u := by
    unfold su sadd up
    rw [if_neg (by omega), if_neg (by omega), if_pos rfl]
  have nq : sp (sadd M r u p) r (stp M r) = p := by
    unfold sp sadd up
    rw [if_neg (by omega), if_pos rfl]
  have e0 : sadd M r u p 0 = M 0 := sadd_o (by omega) hn
  have rs : rest (sadd M r u p) r = rest M r - u := by
    unfold rest
    rw [np, sm_s, nu, sadd_o (by omega) hn, sm_congr (fun i hi => (old i hi).1)]
    omega
  obtain ⟨a, b, c, d, f, g, i, k⟩ := hw
  refine ⟨⟨?_, ?_, ?_, ?_, ?_, ?_, by rw [p85]; omega, fun j hj => ?_⟩, rs⟩
  · rw [sadd_o (by omega) hn, e0]; exact a
  · rw [sadd_o (by omega) hn]; exact b
  · rw [sadd_o (by omega) hn]; exact c
  · rw [sadd_o (by omega) hn]; exact d
  · rw [sadd_o (by omega) hn]; exact f
  · rw [sadd_o (by omega) hn]; exact g
  · rw [np] at hj
    by_cases e : j = stp M r
    · subst e; rw [nu, nq]; omega
    · rw [(old j (by omega)).1, (old j (by omega)).2]; exact k j (by omega)
theorem sadd_rg (hM : WW M) {r : Nat} {u p : Int} (hn : stp M r < 3) (hu : 1 ≤ u ∧ u ≤ 500) (hp : 0 ≤ p ∧ p ≤ 9999) : ∀ j, -2147483648 ≤ sadd M r u p j ∧ sadd M r u p j < 2147483648 := rg_up (rg_up (rg_up hM.rg _ (by omega) (by omega)) _ (by omega) (by omega)) _ (by omega) (by omega)
theorem sdp_RW {r : Nat} (hw : RW M r) : RW (sdp M r) r ∧ rest (sdp M r) r = M (80 + 13 * r) := by
  have o : ∀ j, j ≠ 85 + 13 * r → sdp M r j = M j := fun j hj => up_ne M 0 hj
  have p85 : sdp M r (85 + 13 * r) = 0 := up_eq M _ 0
  have np : stp (sdp M r) r = 0 := by unfold stp; rw [p85]; rfl
  obtain ⟨a, b, c, d, f, g, i, k⟩ := hw
  refine ⟨⟨?_, ?_, ?_, ?_, ?_, ?_, by rw [p85]; omega, fun j hj => by omega⟩, ?_⟩
  · rw [o _ (by omega), o 0 (by omega)]; exact a
  · rw [o _ (by omega)]; exact b
  · rw [o _ (by omega)]; exact c
  · rw [o _ (by omega)]; exact d
  · rw [o _ (by omega)]; exact f
  · rw [o _ (by omega)]; exact g
  · unfold rest
    rw [np, sm_0, o _ (by omega), Int.sub_zero]
theorem sdp_WF (hM : WF M) {r : Nat} (hr : r < rn M) : WF (sdp M r) := by
  have hw := wwr hM.1 hr
  have q := sdp_RW hw
  have b := hw.2.1
  exact WF_r hM hr (fun j hj => up_ne M 0 (by omega)) (rg_up hM.1.rg _ (by omega) (by omega)) q.1 (by rw [q.2]; omega)
theorem sdp_WW (hM : WW M) {r : Nat} (hr : r < rn M) : WW (sdp M r) :=
  WW_r hM hr (fun j hj => up_ne M 0 (by omega)) (rg_up hM.rg _ (by omega) (by omega)) (sdp_RW (wwr hM hr)).1
theorem radd_o {z sz kd ow mu fr : Int} {j : Nat} (h : j ≠ 1) (h2 : j < 79 + 13 * rn M ∨ 86 + 13 * rn M ≤ j) : radd M z sz kd ow mu fr j = M j := by
  unfold radd up
  rw [if_neg h, if_neg (by omega), if_neg (by omega), if_neg (by omega), if_neg (by omega), if_neg (by omega), if_neg (by omega), if_neg (by omega)]
theorem radd_WF (hM : WF M) (hn : rn M < 12) {z sz kd ow mu fr : Int} (h1 : 0 ≤ z ∧ z < M 0) (h2 : 1 ≤ sz ∧ sz ≤ 500) (h3 : 0 ≤ kd ∧ kd ≤ 3) (h4 : 0 ≤ ow ∧ ow ≤ 5) (h5 : mu = 0 ∨ mu = 1) (h6 : fr = 0 ∨ fr = 1) : WF (radd M z sz kd ow mu fr) := by
  have hM1 := hM.1
  have rc := rn_c hM1
  have zb := hM1.zn
  have e1 : radd M z sz kd ow mu fr 1 = (rn M : Int) + 1 := rfl
  have e0 : radd M z sz kd ow mu fr 0 = M 0 := radd_o (by omega) (by omega)
  have rg : ∀ j, -2147483648 ≤ radd M z sz kd ow mu fr j ∧ radd M z sz kd ow mu fr j < 2147483648 := rg_up (rg_up (rg_up (rg_up (rg_up (rg_up (rg_up (rg_up hM1.rg _ (by omega) (by omega)) _ (by omega) (by omega)) _ (by omega) (by omega)) _ (by omega) (by omega)) _ (by omega) (by omega)) _ (by omega) (by omega)) _ (by omega) (by omega)) _ (by omega) (by omega)
  have q79 : radd M z sz kd ow mu fr (79 + 13 * rn M) = z := by
    unfold radd up
    rw [if_neg (by omega), if_neg (by omega), if_neg (by omega), if_neg (by omega), if_neg (by omega), if_neg (by omega), if_neg (by omega), if_pos rfl]
  have q80 : radd M z sz kd ow mu fr (80 + 13 * rn M) = sz := by
    unfold radd up
    rw [if_neg (by omega), if_neg (by omega), if_neg (by omega), if_neg (by omega), if_neg (by omega), if_neg (by omega), if_pos rfl]
  have q81 : radd M z sz kd ow mu fr (81 + 13 * rn M) = kd := by
    unfold radd up
    rw [if_neg (by omega), if_neg (by omega), if_neg (by omega), if_neg (by omega), if_neg (by omega), if_pos rfl]
  have q82 : radd M z sz kd ow mu fr (82 + 13 * rn M) = ow := by
    unfold radd up
    rw [if_neg (by omega), if_neg (by omega), if_neg (by omega), if_neg (by omega), if_pos rfl]
  have q83 : radd M z sz kd ow mu fr (83 + 13 * rn M) = mu := by
    unfold radd up
    rw [if_neg (by omega), if_neg (by omega), if_neg (by omega), if_pos rfl]
  have q84 : radd M z sz kd ow mu fr (84 + 13 * rn M) = fr := by
    unfold radd up
    rw [if_neg (by omega), if_neg (by omega), if_pos rfl]
  have q85 : radd M z sz kd ow mu fr (85 + 13 * rn M) = 0 := by
    unfold radd up
    rw [if_neg (by omega), if_pos rfl]
  have np : stp (radd M z sz kd ow mu fr) (rn M) = 0 := by unfold stp; rw [q85]; rfl
  refine ⟨⟨rg, by rw [e0]; exact zb, by omega, by rw [radd_o (by omega) (by omega)]; exact hM1.ce, fun k hk => by rw [radd_o (by omega) (by omega)]; exact hM1.fl hk, by rw [radd_o (by omega) (by omega)]; exact hM1.o0, fun y hy => ?_, fun r hr => ?_⟩, fun r hr => ?_⟩
  · rw [e0] at hy
    exact ZW_c (fun j h1 h2 => radd_o (by omega) (by omega)) (hM1.z hy)
  · by_cases e : r = rn M
    · subst e
      exact ⟨by rw [q79, e0]; exact h1, by rw [q80]; exact h2, by rw [q81]; exact h3, by rw [q82]; exact h4, by rw [q83]; omega, by rw [q84]; omega, by rw [q85]; omega, fun k hk => by omega⟩
    · exact RW_c (fun j h1 h2 => radd_o (by omega) (by omega)) (by omega) (hM1.r (by omega))
  · by_cases e : r = rn M
    · subst e
      unfold rest
      rw [np, sm_0, q80]
      omega
    · rw [rest_c (fun j h1 h2 => radd_o (by omega) (by omega)) (hM1.r (by omega))]
      exact hM.2 r (by omega)
end
