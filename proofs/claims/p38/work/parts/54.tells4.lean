section
variable {mm m' : Mem} {s : ST}
theorem WF_hd {M : WM} (hM : WF M) {j : Nat} (hj : 2 ≤ j ∧ j < 7) {v : Int} (hv : 0 ≤ v ∧ v ≤ 9999) : WF (up M j v) := by
  have o : ∀ i, i ≠ j → up M j v i = M i := fun i hi => up_ne M v hi
  have hM1 := hM.1
  have zb := hM1.zn
  refine ⟨⟨rg_up hM1.rg _ (by omega) (by omega), by rw [o 0 (by omega)]; exact zb, by rw [o 1 (by omega)]; exact hM1.rn, ?_, fun k hk => ?_, by rw [o 7 (by omega)]; exact hM1.o0, fun z hz => ?_, fun r hr => ?_⟩, fun r hr => ?_⟩
  · by_cases e : 2 = j
    · rw [← e, up_eq]; exact hv
    · rw [o 2 e]; exact hM1.ce
  · by_cases e : 3 + k = j
    · rw [e, up_eq]; exact hv
    · rw [o _ e]; exact hM1.fl hk
  · rw [o 0 (by omega)] at hz
    exact ZW_c (fun i h1 h2 => o i (by omega)) (hM1.z hz)
  · rw [o 1 (by omega)] at hr
    exact RW_c (fun i h1 h2 => o i (by omega)) (by rw [o 0 (by omega)]; omega) (hM1.r hr)
  · rw [o 1 (by omega)] at hr
    rw [rest_c (fun i h1 h2 => o i (by omega)) (hM1.r hr)]
    exact hM.2 r hr
theorem WF_lim {M : WM} (hM : WF M) {z : Nat} (hz : z < zn M) {j : Nat} (hj : j = 8 + 12 * z ∨ j = 9 + 12 * z) {v : Int} (hv : 0 ≤ v ∧ v ≤ 9999) : WF (up M j v) := by
  have o : ∀ i, i ≠ j → up M j v i = M i := fun i hi => up_ne M v hi
  have hw := wwz hM.1 hz
  have np : npt (up M j v) z = npt M z := by unfold npt; rw [o _ (by omega)]
  have pq : ∀ k, pu (up M j v) z k = pu M z k ∧ pp (up M j v) z k = pp M z k := fun k => ⟨o _ (by omega), o _ (by omega)⟩
  refine WF_z hM hz (fun i hi => o i (by omega)) (rg_up hM.1.rg _ (by omega) (by omega)) (o _ (by omega)) ?_
  obtain ⟨a, b, c, d, f, g⟩ := hw
  refine ⟨fun h1 => by rw [o _ (by omega)]; exact a h1, ?_, ?_, by rw [o _ (by omega)]; exact d, fun k hk => ?_, fun k hk => ?_⟩
  · by_cases e : 8 + 12 * z = j
    · rw [e, up_eq]; exact hv
    · rw [o _ e]; exact b
  · by_cases e : 9 + 12 * z = j
    · rw [e, up_eq]; exact hv
    · rw [o _ e]; exact c
  · rw [np] at hk
    rw [(pq k).1, (pq k).2]; exact f k hk
  · rw [np] at hk
    rw [(pq k).1, (pq k).2, (pq (k + 1)).1, (pq (k + 1)).2]; exact g k hk
theorem WF_free {M : WM} (hM : WF M) {r : Nat} (hr : r < rn M) {v : Int} (hv : 0 ≤ v ∧ v ≤ 1) : WF (up M (84 + 13 * r) v) := by
  have o : ∀ i, i ≠ 84 + 13 * r → up M (84 + 13 * r) v i = M i := fun i hi => up_ne M v hi
  have hw := wwr hM.1 hr
  have np : stp (up M (84 + 13 * r) v) r = stp M r := by unfold stp; rw [o _ (by omega)]
  have pq : ∀ k, su (up M (84 + 13 * r) v) r k = su M r k ∧ sp (up M (84 + 13 * r) v) r k = sp M r k := fun k => ⟨o _ (by omega), o _ (by omega)⟩
  have rs : rest (up M (84 + 13 * r) v) r = rest M r := by
    unfold rest
    rw [np, o _ (by omega), sm_congr (fun i _ => (pq i).1)]
  have rr := hM.2 r (by rw [rn_c hM.1]; omega)
  refine WF_r hM hr (fun i hi => o i (by omega)) (rg_up hM.1.rg _ (by omega) (by omega)) ?_ (by rw [rs]; exact rr)
  obtain ⟨a, b, c, d, f, g, i, k⟩ := hw
  refine ⟨?_, ?_, ?_, ?_, ?_, by rw [up_eq]; exact hv, ?_, fun j hj => ?_⟩
  · rw [o _ (by omega), o 0 (by omega)]; exact a
  · rw [o _ (by omega)]; exact b
  · rw [o _ (by omega)]; exact c
  · rw [o _ (by omega)]; exact d
  · rw [o _ (by omega)]; exact f
  · rw [o _ (by omega)]; exact i
  · rw [np] at hj
    rw [(pq j).1, (pq j).2]; exact k j hj
theorem plc_WF {M : WM} (hM : WF M) {a k v : Int} {j : Nat} (hj : plc M a k v = j) : WF (up M j v) := by
  have zc := zn_c hM.1
  have rc := rn_c hM.1
  unfold plc at hj
  by_cases f : 0 ≤ v ∧ v ≤ 9999
  · rw [if_pos f] at hj
    by_cases a0 : a = 0
    · rw [if_pos a0] at hj
      by_cases e : 0 ≤ k ∧ k ≤ 3
      · rw [if_pos e] at hj; exact WF_hd hM (by omega) f
      · rw [if_neg e] at hj; omega
    · rw [if_neg a0] at hj
      by_cases a1 : a = 1
      · rw [if_pos a1] at hj; exact WF_hd hM (by omega) f
      · rw [if_neg a1] at hj
        by_cases a2 : a = 2
        · rw [if_pos a2] at hj
          by_cases e : 1 ≤ k ∧ k < M 0
          · rw [if_pos e] at hj; exact WF_lim hM (z := k.toNat) (by omega) (by omega) f
          · rw [if_neg e] at hj; omega
        · rw [if_neg a2] at hj
          by_cases a3 : a = 3
          · rw [if_pos a3] at hj
            by_cases e : 1 ≤ k ∧ k < M 0
            · rw [if_pos e] at hj; exact WF_lim hM (z := k.toNat) (by omega) (by omega) f
            · rw [if_neg e] at hj; omega
          · rw [if_neg a3] at hj
            by_cases a4 : a = 4
            · rw [if_pos a4] at hj
              by_cases e : v ≤ 1 ∧ (0 ≤ k ∧ k < M 1)
              · rw [if_pos e] at hj
                have ej : j = 84 + 13 * k.toNat := by omega
                rw [ej]
                exact WF_free hM (r := k.toNat) (by omega) (by omega)
              · rw [if_neg e] at hj; omega
            · rw [if_neg a4] at hj; omega
  · rw [if_neg f] at hj; omega
theorem plc_bd {M : WM} (hM : WW M) {a k v : Int} : plc M a k v = -1 ∨ (0 ≤ plc M a k v ∧ plc M a k v < 235) := by
  have zb := hM.zn
  have rb := hM.rn
  unfold plc
  by_cases f : 0 ≤ v ∧ v ≤ 9999
  · rw [if_pos f]
    by_cases a0 : a = 0
    · rw [if_pos a0]
      by_cases e : 0 ≤ k ∧ k ≤ 3
      · rw [if_pos e]; omega
      · rw [if_neg e]; omega
    · rw [if_neg a0]
      by_cases a1 : a = 1
      · rw [if_pos a1]; omega
      · rw [if_neg a1]
        by_cases a2 : a = 2
        · rw [if_pos a2]
          by_cases e : 1 ≤ k ∧ k < M 0
          · rw [if_pos e]; omega
          · rw [if_neg e]; omega
        · rw [if_neg a2]
          by_cases a3 : a = 3
          · rw [if_pos a3]
            by_cases e : 1 ≤ k ∧ k < M 0
            · rw [if_pos e]; omega
            · rw [if_neg e]; omega
          · rw [if_neg a3]
            by_cases a4 : a = 4
            · rw [if_pos a4]
              by_cases e : v ≤ 1 ∧ (0 ≤ k ∧ k < M 1)
              · rw [if_pos e]; omega
              · rw [if_neg e]; omega
            · rw [if_neg a4]; omega
  · rw [if_neg f]; omega
theorem f6_change_ok {q k n j : Nat} (hl : ln q = n) (hk : k < n) (hn : n < 2147483648) {i v : Int} (hi : i = k) (hq : mm q k = ii (sM s j)) (hs : WW (sM s)) (h5 : -2147483648 ≤ v) (h6 : v < 2147483648) : (sM s j = v → f6_change mm q (ii i) (ii v) = some (ii 0, mm)) ∧ (sM s j ≠ v → f6_change mm q (ii i) (ii v) = some (ii 1, up2 mm q k (ii v))) := by
  have r := hs.rg j
  unfold f6_change
  rw [at_e mm hi hl hk hn, bd_some, hq, l0, l1]
  constructor
  · intro e
    rw [if_pos (by rw [e])]
  · intro e
    rw [if_neg (ine e r.1 r.2 h5 h6), put_e mm hi hl hk hn, bd_some]
def setG (mm : Mem) (s : ST) (v : Int) (j : Nat) (f : Option (Int32 × Mem)) : Prop := (sM s j = v → f = some (ii 0, mm)) ∧ (sM s j ≠ v → ∃ m', f = some (ii 1, m') ∧ Fcl mm m' ∧ CI m' (sset s (up (sM s) j v)))
theorem setG_z (h : CI mm s) (hs : WW (sM s)) {c z n j : Nat} (hc : cz j = (c, z)) (hj : zj j = true) (hc6 : c ≤ 6) (hl : ln (17 + c) = n) (hz : z < n) (hn : n < 2147483648) {v : Int} (h5 : -2147483648 ≤ v) (h6 : v < 2147483648) {X : Option (Int32 × Mem)} (hX : X = bd (f6_change mm (17 + c) (ii z) (ii v)) (fun r => if r.1 = ii 0 then some (ii 0, r.2) else some (ii 1, r.2))) : setG mm s v j X := by
  subst hX
  have q := f6_change_ok (mm := mm) (s := s) hl hz hn rfl (zk_g h.z hc hj) hs h5 h6
  refine ⟨fun e => ?_, fun e => ⟨up2 mm (17 + c) z (ii v), ?_, fun d hd => by funext k; exact up2_c _ _ _ _ (by omega), h.uz ((FrZ.rf 17 mm).u hc6 _ _) (zk_up h.z hc hj v) (fun i hi => up_ne _ _ (fun ei => by
    subst ei
    have a := oj_z hi
    have b := zj_o hj
    omega))⟩⟩
  · rw [q.1 e, bd_some]
    exact if_pos rfl
  · rw [q.2 e, bd_some]
    exact if_neg (show ¬ ii 1 = ii 0 by decide)
theorem setG_o (h : CI mm s) (hs : WW (sM s)) {c z n j : Nat} (hc : cof j = (c, z)) (hj : oj j = true) (hc6 : c ≤ 10) (hl : ln (24 + c) = n) (hz : z < n) (hn : n < 2147483648) {v : Int} (h5 : -2147483648 ≤ v) (h6 : v < 2147483648) {X : Option (Int32 × Mem)} (hX : X = bd (f6_change mm (24 + c) (ii z) (ii v)) (fun r => if r.1 = ii 0 then some (ii 0, r.2) else some (ii 1, r.2))) : setG mm s v j X := by
  subst hX
  have q := f6_change_ok (mm := mm) (s := s) hl hz hn rfl (ok_g h.o hc hj) hs h5 h6
  refine ⟨fun e => ?_, fun e => ⟨up2 mm (24 + c) z (ii v), ?_, fun d hd => by funext k; exact up2_c _ _ _ _ (by omega), h.uo ((FrO.rf 24 mm).u hc6 _ _) (ok_up h.o hc hj v) (fun i hi => up_ne _ _ (fun ei => by
    subst ei
    have a := oj_z hj
    have b := zj_o hi
    omega))⟩⟩
  · rw [q.1 e, bd_some]
    exact if_pos rfl
  · rw [q.2 e, bd_some]
    exact if_neg (show ¬ ii 1 = ii 0 by decide)
theorem c_set (h : CI mm s) (hs : SW s) {a k v : Int} (h1 : -2147483648 ≤ a) (h2 : a < 2147483648) (h3 : -2147483648 ≤ k) (h4 : k < 2147483648) (h5 : -2147483648 ≤ v) (h6 : v < 2147483648) : ∀ w, plc (sM s) a k v = w → (w = -1 → f6_set mm (ii a) (ii k) (ii v) = some (ii 0, mm)) ∧ (∀ j : Nat, w = j → setG mm s v j (f6_set mm (ii a) (ii k) (ii v))) := by
  intro w hp
  have hz := hs.1.1.zn
  have hr := hs.1.1.rn
  have n10 : ¬ ii 1 = ii 0 := by decide
  have ho := h.o
  unfold plc at hp
  unfold f6_set
  rw [l0, l1, l2, l3, l4, l9999, f6_within_ok h5 h6 (by omega) (by omega) (by omega) (by omega), bd_some]
  by_cases f : 0 ≤ v ∧ v ≤ 9999
  · rw [if_pos f, if_neg n10]
    rw [if_pos f] at hp
    by_cases a0 : a = 0
    · rw [if_pos (by rw [a0])]
      rw [if_pos a0] at hp
      rw [f6_within_ok h3 h4 (by omega) (by omega) (by omega) (by omega), bd_some]
      by_cases e : 0 ≤ k ∧ k ≤ 3
      · rw [if_pos e, if_neg n10]
        rw [if_pos e] at hp
        obtain ⟨z, rfl⟩ := Int.eq_ofNat_of_zero_le e.1
        refine ⟨fun q => by omega, fun j hj => ?_⟩
        have ej : j = 3 + z := by omega
        subst ej
        exact setG_o h hs.1.1 (cof_f z (by omega)).1 (cof_f z (by omega)).2 (by omega) (n := 4) (by decide) (by omega) (by omega) h5 h6 rfl
      · rw [if_neg e, if_pos rfl]
        rw [if_neg e] at hp
        exact ⟨fun _ => rfl, fun j hj => by omega⟩
    · rw [if_neg (ine a0 h1 h2 (by omega) (by omega))]
      rw [if_neg a0] at hp
      by_cases a1 : a = 1
      · rw [if_pos (by rw [a1])]
        rw [if_pos a1] at hp
        refine ⟨fun q => by omega, fun j hj => ?_⟩
        have ej : j = 2 := by omega
        subst ej
        have rg := hs.1.1.rg 2
        unfold f2_changeCeiling
        rw [ho.c, l0, l1]
        refine ⟨fun e2 => ?_, fun e2 => ⟨up2 mm 24 1 (ii v), ?_, fun d hd => by funext k; exact up2_c _ _ _ _ (by omega), h.uo (M' := up (sM s) 2 v) ((FrO.rf 24 mm).u (c := 0) (by omega) 1 (ii v)) (ok_up ho (j := 2) (c := 0) (s := 1) rfl rfl v) (fun i hi => up_ne _ _ (by have := zj_o hi; omega))⟩⟩
        · rw [if_pos (by rw [e2]), bd_some]
          exact bok_0 _
        · rw [if_neg (ine e2 rg.1 rg.2 h5 h6), nm_eq, bd_some]
          exact bok_1 _
      · rw [if_neg (ine a1 h1 h2 (by omega) (by omega))]
        rw [if_neg a1] at hp
        have HI : f5_hasInner mm 17 (ii k) = _ := f5_hasInner_ok h.z hz h3 h4
        by_cases a2 : a = 2
        · rw [if_pos (by rw [a2])]
          rw [if_pos a2] at hp
          rw [HI, bd_some]
          by_cases e : 1 ≤ k ∧ k < sM s 0
          · rw [if_pos e, if_neg n10]
            rw [if_pos e] at hp
            obtain ⟨z, rfl⟩ := Int.eq_ofNat_of_zero_le (show 0 ≤ k by omega)
            refine ⟨fun q => by omega, fun j hj => ?_⟩
            have ej : j = 8 + 12 * z := by omega
            subst ej
            have q := cz_o z (by omega)
            exact setG_z h hs.1.1 q.2.1 q.2.2.2.2.2.1 (by omega) (n := 6) (by decide) (by omega) (by omega) h5 h6 rfl
          · rw [if_neg e, if_pos rfl]
            rw [if_neg e] at hp
            exact ⟨fun _ => rfl, fun j hj => by omega⟩
        · rw [if_neg (ine a2 h1 h2 (by omega) (by omega))]
          rw [if_neg a2] at hp
          by_cases a3 : a = 3
          · rw [if_pos (by rw [a3])]
            rw [if_pos a3] at hp
            rw [HI, bd_some]
            by_cases e : 1 ≤ k ∧ k < sM s 0
            · rw [if_pos e, if_neg n10]
              rw [if_pos e] at hp
              obtain ⟨z, rfl⟩ := Int.eq_ofNat_of_zero_le (show 0 ≤ k by omega)
              refine ⟨fun q => by omega, fun j hj => ?_⟩
              have ej : j = 9 + 12 * z := by omega
              subst ej
              have q := cz_o z (by omega)
              exact setG_z h hs.1.1 q.2.2.1 q.2.2.2.2.2.2.1 (by omega) (n := 6) (by decide) (by omega) (by omega) h5 h6 rfl
            · rw [if_neg e, if_pos rfl]
              rw [if_neg e] at hp
              exact ⟨fun _ => rfl, fun j hj => by omega⟩
          · rw [if_neg (ine a3 h1 h2 (by omega) (by omega))]
            rw [if_neg a3] at hp
            by_cases a4 : a = 4
            · rw [if_pos (by rw [a4])]
              rw [if_pos a4] at hp
              by_cases g : 1 < v
              · rw [if_pos (ilt g (by omega) (by omega))]
                rw [if_neg (show ¬ (v ≤ 1 ∧ (0 ≤ k ∧ k < sM s 1)) by omega)] at hp
                exact ⟨fun _ => rfl, fun j hj => by omega⟩
              · rw [if_neg (inlt (by omega) (by omega) (by omega)), f2_has_ok ho hr h3 h4, bd_some]
                by_cases e : 0 ≤ k ∧ k < sM s 1
                · rw [if_pos e, if_neg n10]
                  rw [if_pos (show v ≤ 1 ∧ (0 ≤ k ∧ k < sM s 1) from ⟨by omega, e⟩)] at hp
                  obtain ⟨r, rfl⟩ := Int.eq_ofNat_of_zero_le e.1
                  refine ⟨fun q => by omega, fun j hj => ?_⟩
                  have ej : j = 84 + 13 * r := by omega
                  subst ej
                  have q := cof_o r (by omega)
                  exact setG_o h hs.1.1 q.2.2.2.2.2.1 q.2.2.2.2.2.2.2.2.2.2.2.2.1 (by omega) (n := 12) (by decide) (by omega) (by omega) h5 h6 rfl
                · rw [if_neg e, if_pos rfl]
                  rw [if_neg (show ¬ (v ≤ 1 ∧ (0 ≤ k ∧ k < sM s 1)) from fun x => e x.2)] at hp
                  exact ⟨fun _ => rfl, fun j hj => by omega⟩
            · rw [if_neg (ine a4 h1 h2 (by omega) (by omega))]
              rw [if_neg a4] at hp
              exact ⟨fun _ => rfl, fun j hj => by omega⟩
  · rw [if_neg f, if_pos rfl]
    rw [if_neg f] at hp
    exact ⟨fun _ => rfl, fun j hj => by omega⟩
end
