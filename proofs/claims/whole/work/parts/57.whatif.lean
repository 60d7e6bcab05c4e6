/-! what would be -/
def sil (M : WM) (r : Nat) : WM := up (up M (85 + 13 * r) 0) (83 + 13 * r) 0
theorem sil_o {M : WM} {r j : Nat} (h : j ≠ 85 + 13 * r ∧ j ≠ 83 + 13 * r) : sil M r j = M j := by
  unfold sil
  rw [up_ne _ _ h.2, up_ne _ _ h.1]
theorem sil_at (M : WM) (r : Nat) : sil M r (85 + 13 * r) = 0 ∧ sil M r (83 + 13 * r) = 0 := by
  unfold sil
  exact ⟨by rw [up_ne _ _ (by omega), up_eq], up_eq _ _ _⟩
theorem sil_WF {M : WM} (hM : WF M) {r : Nat} (hr : r < rn M) : WF (sil M r) := by
  have hw := wwr hM.1 hr
  have q := sil_at M r
  have np : stp (sil M r) r = 0 := by unfold stp; rw [q.1]; rfl
  have rs : rest (sil M r) r = M (80 + 13 * r) := by
    unfold rest
    rw [np, sm_0, sil_o (by omega), Int.sub_zero]
  have zb := hw.2.1
  refine WF_r hM hr (fun j hj => sil_o (by omega)) (rg_up (rg_up hM.1.rg _ (by omega) (by omega)) _ (by omega) (by omega)) ?_ (by rw [rs]; omega)
  obtain ⟨a, b, c, d, f, g, i, k⟩ := hw
  refine ⟨?_, ?_, ?_, ?_, by rw [q.2]; omega, ?_, by rw [q.1]; omega, fun j hj => by omega⟩
  · rw [sil_o (by omega), sil_o (j := 0) (by omega)]; exact a
  · rw [sil_o (by omega)]; exact b
  · rw [sil_o (by omega)]; exact c
  · rw [sil_o (by omega)]; exact d
  · rw [sil_o (by omega)]; exact g
theorem sil_lu {M : WM} {r : Nat} (k : Nat) : lu (sil M r) r k = 0 := by
  have q := sil_at M r
  have np : stp (sil M r) r = 0 := by unfold stp; rw [q.1]; rfl
  unfold lu
  by_cases c : k = 3
  · rw [if_pos c, if_neg (by rw [q.2]; omega)]
  · rw [if_neg c, if_neg (by omega)]
theorem lu_c {M M' : WM} {q : Nat} (h : ∀ j, 79 + 13 * q ≤ j → j < 92 + 13 * q → M' j = M j) (hw : RW M q) {k : Nat} (hk : k < 4) : lu M' q k = lu M q k := by
  have hs := stp_le hw
  unfold lu
  rw [h (83 + 13 * q) (by omega) (by omega), rest_c h hw, stp_cg h]
  by_cases c : k = 3
  · rw [if_pos c, if_pos c]
  · rw [if_neg c, if_neg c, (su_c (by omega) h).1]
theorem li_c {M M' : WM} {q : Nat} (h : ∀ j, 79 + 13 * q ≤ j → j < 92 + 13 * q → M' j = M j) (h2 : M' 2 = M 2) {k : Nat} (hk : k < 4) (fl : Int) : li M' q k fl = li M q k fl := by
  unfold li lif
  rw [h (83 + 13 * q) (by omega) (by omega), h (84 + 13 * q) (by omega) (by omega), h2]
  by_cases c : k = 3
  · rw [if_pos c, if_pos c]
  · rw [if_neg c, if_neg c, (su_c (by omega) h).2]
theorem flr_c {M M' : WM} (hM : WW M) {q : Nat} (hq : q < rn M) (h : M' (81 + 13 * q) = M (81 + 13 * q)) (hf : ∀ k, k < 4 → M' (3 + k) = M (3 + k)) : flr M' q = flr M q := by
  have b := (wwr hM hq).2.2.1
  unfold flr
  rw [h, hf _ (by omega)]
def Ftr (mm m' : Mem) : Prop := ∀ c, (c < 44 ∨ 72 < c) → m' c = mm c
section
variable {mm m' : Mem} {s : ST}
theorem Ftr.tr {a b c : Mem} (h : Ftr a b) (h2 : Ftr b c) : Ftr a c := fun q hq => by rw [h2 q hq, h q hq]
theorem CI.tr (h : CI mm s) (hf : Ftr mm m') : CI m' s := h.fr (fun c hc => hf c (by omega))
theorem ftr_cl (hf : Ftr mm m') : Fcl mm m' := fun c hc => hf c (by omega)
theorem c_trial (h : CI mm s) : ∃ m1, f1_copyFrom mm 45 16 = some m1 ∧ Ftr mm m1 ∧ AK m1 44 (sM s) := by
  obtain ⟨m1, f1, f2, f3⟩ := m_copy (q0 := 45) (q1 := 16) h.1 ob_46 ob_53 (by unfold apt; omega)
  exact ⟨m1, f3, fun c hc => f1 c (by omega), ⟨ob_44, f2.1, f2.2⟩⟩
theorem c_try {M : WM} (h : AK mm 44 M) (hM : WF M) : ∃ m', f0_clear mm 44 = some m' ∧ Ftr mm m' ∧ AK m' 44 M ∧ CLS m' 44 M := by
  obtain ⟨m', f1, f2, f3⟩ := clear_ok h hM
  exact ⟨m', f3, fun c hc => f1 c (by omega) (by omega), h.fr (fun c h1 h2 => f1 c (by omega) (by omega)), f2⟩
theorem AK.uo {x : Nat} {M M' : WM} (h : AK mm x M) (hf : FrO (x + 1 + 8) mm m') (hz : OK m' (x + 1 + 8) M') (ho : ∀ j, zj j = true → M' j = M j) : AK m' x M' :=
  ⟨h.1, zk_M (zk_fr h.2.1 (fun c hc => hf _ (by omega))) ho, hz⟩
theorem AK.uz {x : Nat} {M M' : WM} (h : AK mm x M) (hf : FrZ (x + 1 + 1) mm m') (hz : ZK m' (x + 1 + 1) M') (ho : ∀ j, oj j = true → M' j = M j) : AK m' x M' :=
  ⟨h.1, hz, ok_M (ok_fr h.2.2 (fun c hc => hf _ (by omega))) ho⟩
theorem fo53 (hf : FrO 53 mm m') : Ftr mm m' := fun c hc => hf c (by omega)
theorem fz46 (hf : FrZ 46 mm m') : Ftr mm m' := fun c hc => hf c (by omega)
theorem silence_ok {o : Nat} {M : WM} (h : OK mm o M) {r : Nat} (hr : r < 12) : ∃ m', FrO o mm m' ∧ OK m' o (sil M r) ∧ f2_silence mm o (ii r) = some m' := by
  have q := cof_o r hr
  have l := o_ln h
  have h1 := ok_up h q.2.2.2.2.2.2.1 q.2.2.2.2.2.2.2.2.2.2.2.2.2 0
  have h2 := ok_up h1 q.2.2.2.2.1 q.2.2.2.2.2.2.2.2.2.2.2.1 0
  refine ⟨_, ((FrO.rf o mm).u (c := 8) (by omega) r (ii 0)).u (c := 6) (by omega) r (ii 0), h2, ?_⟩
  unfold f2_silence
  rw [l0, put_i mm l.2.2.2.2.2.2.2.1 hr (by omega), bd_some, put_i _ l.2.2.2.2.2.1 hr (by omega), bd_some]
theorem sil_DA {M : WM} (hM : WF M) {r : Nat} (hr : r < rn M) : DA (Dg (sil M r) (ii 0) false) (Dg M (ii 1 <<< (ii r &&& 31)) false) := by
  have rb := rn_bd hM.1
  have zb := zn_bd hM.1
  refine DA_of hM (sil_o (by omega)) (sil_o (by omega)) (fun z hz j h1 h2 => sil_o (by omega)) (fun q hq => sil_o (by omega)) (fun q k hq hk => ?_)
  rw [gb0 q (by omega), gb1 r (by omega) q (by omega)]
  by_cases e : q = r
  · subst e
    rw [sil_lu]
    simp
  · have hw := wwr hM.1 hq
    have o : ∀ j, 79 + 13 * q ≤ j → j < 92 + 13 * q → sil M r j = M j := fun j h1 h2 => sil_o (by omega)
    rw [lu_c o hw hk, decide_eq_false e]
    refine ⟨rfl, fun _ => ?_⟩
    rw [li_c o (sil_o (by omega)) hk, flr_c hM.1 hq (sil_o (by omega)) (fun k hk => sil_o (by omega))]
def wiS (M : WM) (a z : Int) : Int := if (0 ≤ a ∧ a < M 1) ∧ (0 ≤ z ∧ z < M 0) then (Pz (Dg M (ii 1 <<< (ii a &&& 31)) false) z.toNat : Int) else -1
theorem t_without (h : CI mm s) (hr : RI mm s) (hs : SW s) {a z : Int} (h1 : -2147483648 ≤ a) (h2 : a < 2147483648) (h3 : -2147483648 ≤ z) (h4 : z < 2147483648) : Stq mm (f6_without mm (ii a) (ii z)) (fun m => f7_without m (ii a) (ii z)) := by
  have hzn := hs.1.1.zn
  have hrn := hs.1.1.rn
  have zc := zn_c hs.1.1
  have rc := rn_c hs.1.1
  refine stp_mk (v := ii (wiS (sM s) a z)) (s' := s) hr hs ?_ (fun m hm => ?_)
  · unfold f6_without wiS
    rw [f2_has_ok h.o hrn h1 h2, bd_some, f5_has_ok h.z hzn h3 h4, bd_some, l0, l1, ii_neg]
    by_cases c : 0 ≤ a ∧ a < sM s 1
    · rw [if_pos c, if_neg (by decide)]
      by_cases d : 0 ≤ z ∧ z < sM s 0
      · rw [if_pos d, if_neg (by decide), if_pos ⟨c, d⟩]
        obtain ⟨r, rfl⟩ := Int.eq_ofNat_of_zero_le c.1
        obtain ⟨y, rfl⟩ := Int.eq_ofNat_of_zero_le d.1
        obtain ⟨m1, f1, f2, f3⟩ := c_trial h
        obtain ⟨m2, g1, g2, g3⟩ := silence_ok f3.2.2 (r := r) (by omega)
        have hM' := sil_WF hs.1 (r := r) (by omega)
        have A2 : AK m2 44 (sil (sM s) r) := f3.uo g1 g2 (fun j hj => by have := zj_o hj; exact sil_o (by omega))
        obtain ⟨m3, k1, k2, k3, k4⟩ := c_try A2 hM'
        have F := (f2.tr (fo53 g1)).tr k2
        refine ⟨m3, ?_, ftr_cl F, h.tr F⟩
        have e := (DA_PN (sil_DA hs.1 (r := r) (by omega)) (Dg_WD hM' _ _) (z := y) (show y < zn (sil (sM s) r) by unfold zn; rw [sil_o (by omega)]; omega)).1
        have t : m3 64 y = _ := (k4.2.1 y (by unfold zn; rw [sil_o (by omega)]; omega)).1
        rw [f1, bd_some, g3, bd_some, k1, bd_some, at_i m3 (q := 64) (k := y) (n := 6) (by decide) (by omega) (by omega), bd_some, t, Int.toNat_natCast]
        show some (ii (Pz (Dg (sil (sM s) r) (ii 0) false) y), m3) = _
        rw [e]
      · refine ⟨mm, ?_, Fcl.rf mm, h⟩
        rw [if_neg d, if_pos rfl, if_neg (fun x => d x.2)]
    · refine ⟨mm, ?_, Fcl.rf mm, h⟩
      rw [if_neg c, if_pos rfl, if_neg (fun x => c x.1)]
  · have h0 := hm.u0 (k := 0) (by omega) (ii 0)
    show ∃ m', f7_without m (ii a) (ii z) = _ ∧ _
    unfold f7_without wiS
    rw [l0, nm_eq, f7_isResource_ok h0.1 hrn h1 h2, bd_some, f7_isZone_ok h0.1 hzn h3 h4, bd_some, l1, ii_neg]
    by_cases c : 0 ≤ a ∧ a < sM s 1
    · rw [if_pos c, if_neg (by decide)]
      by_cases d : 0 ≤ z ∧ z < sM s 0
      · rw [if_pos d, if_neg (by decide), if_pos ⟨c, d⟩]
        obtain ⟨y, rfl⟩ := Int.eq_ofNat_of_zero_le d.1
        have h5 := (h0.u0 (k := 6) (by omega) (ii 0)).u0 (k := 5) (by omega) (ii 1 <<< (ii a &&& 31))
        obtain ⟨m1, f1, f2, f3, f4, f5, f6⟩ := r_clear h5 hs (g := ii 1 <<< (ii a &&& 31)) (nf := false) (up2_at _ _ _ _) (by rw [up2_k _ _ _ _ (by omega), up2_at]; rfl)
        refine ⟨m1, ?_, (((frf_u0 m 0 (ii 0)).tr (frf_u0 _ 6 (ii 0))).tr (frf_u0 _ 5 _)).tr f2, f3⟩
        rw [nm_eq, nm_eq, f1, bd_some, rdq m1 (q := 7) (n := 6) (by decide) (k := y) (by omega) (by omega) rfl, (f5.1 y (by omega)).1, Int.toNat_natCast]
      · refine ⟨_, ?_, frf_u0 m 0 (ii 0), h0⟩
        rw [if_neg d, if_pos rfl, if_neg (fun x => d x.2)]
    · refine ⟨_, ?_, frf_u0 m 0 (ii 0), h0⟩
      rw [if_neg c, if_pos rfl, if_neg (fun x => c x.1)]
/-! freely -/
def nofl (M : WM) : WM := up (up (up (up M 3 0) 4 0) 5 0) 6 0
theorem nofl_o {M : WM} {j : Nat} (h : j < 3 ∨ 6 < j) : nofl M j = M j := by
  unfold nofl
  rw [up_ne _ _ (by omega), up_ne _ _ (by omega), up_ne _ _ (by omega), up_ne _ _ (by omega)]
theorem nofl_at (M : WM) {k : Nat} (hk : k < 4) : nofl M (3 + k) = 0 := by
  unfold nofl up
  by_cases e3 : 3 + k = 6
  · rw [if_pos e3]
  · rw [if_neg e3]
    by_cases e2 : 3 + k = 5
    · rw [if_pos e2]
    · rw [if_neg e2]
      by_cases e1 : 3 + k = 4
      · rw [if_pos e1]
      · rw [if_neg e1, if_pos (by omega)]
theorem nofl_WF {M : WM} (hM : WF M) : WF (nofl M) := WF_hd (WF_hd (WF_hd (WF_hd hM (by omega) (by omega)) (by omega) (by omega)) (by omega) (by omega)) (by omega) (by omega)
theorem dropFloors_ok {o : Nat} {M : WM} (h : OK mm o M) : ∃ m', FrO o mm m' ∧ OK m' o (nofl M) ∧ f2_dropFloors mm o = some m' := by
  have l := o_ln h
  have q := cof_f
  have h1 := ok_up h (q 0 (by omega)).1 (q 0 (by omega)).2 0
  have h2 := ok_up h1 (q 1 (by omega)).1 (q 1 (by omega)).2 0
  have h3 := ok_up h2 (q 2 (by omega)).1 (q 2 (by omega)).2 0
  have h4 := ok_up h3 (q 3 (by omega)).1 (q 3 (by omega)).2 0
  refine ⟨_, ((((FrO.rf o mm).u (c := 1) (by omega) 0 (ii 0)).u (c := 1) (by omega) 1 (ii 0)).u (c := 1) (by omega) 2 (ii 0)).u (c := 1) (by omega) 3 (ii 0), h4, ?_⟩
  have st : ∀ (k n : Nat) (m : Mem), k < 4 → f2_dropFloors_l2 (n + 1) o (ii k) m = f2_dropFloors_l2 n o (ii (k + 1 : Nat)) (up2 m (o + 1) k (ii 0)) := by
    intro k n m hk
    rw [f2_dropFloors_l2, l4, if_pos (ilt (by omega) (by omega) (by omega)), l0, put_i m l.1 hk (by omega), bd_some, iSu, nm_eq]
  unfold f2_dropFloors
  rw [l0]
  show f2_dropFloors_l2 (19995 + 1 + 1 + 1 + 1 + 1) o (ii (0 : Nat)) mm = _
  rw [st 0 _ _ (by omega), st 1 _ _ (by omega), st 2 _ _ (by omega), st 3 _ _ (by omega), f2_dropFloors_l2, l4, if_neg (by decide)]
theorem nofl_DA {M : WM} (hM : WF M) : DA (Dg (nofl M) (ii 0) false) (Dg M (ii 0) true) := by
  have rb := rn_bd hM.1
  have zb := zn_bd hM.1
  refine DA_of hM (nofl_o (by omega)) (nofl_o (by omega)) (fun z hz j h1 h2 => nofl_o (by omega)) (fun q hq => nofl_o (by omega)) (fun q k hq hk => ?_)
  have hw := wwr hM.1 hq
  have o : ∀ j, 79 + 13 * q ≤ j → j < 92 + 13 * q → nofl M j = M j := fun j h1 h2 => nofl_o (by omega)
  rw [lu_c o hw hk]
  refine ⟨rfl, fun _ => ?_⟩
  rw [li_c o (nofl_o (by omega)) hk]
  have e : flr (nofl M) q = 0 := by
    have b := hw.2.2.1
    unfold flr
    rw [nofl_o (M := M) (j := 81 + 13 * q) (by omega), nofl_at M (by omega)]
  rw [e]
  rfl
theorem t_freely (h : CI mm s) (hr : RI mm s) (hs : SW s) {z : Int} (h3 : -2147483648 ≤ z) (h4 : z < 2147483648) : Stq mm (f6_freely mm (ii z)) (fun m => f7_freely m (ii z)) := by
  have hzn := hs.1.1.zn
  have zc := zn_c hs.1.1
  refine stp_mk (v := ii (if 0 ≤ z ∧ z < sM s 0 then (Pz (Dg (sM s) (ii 0) true) z.toNat : Int) else -1)) (s' := s) hr hs ?_ (fun m hm => ?_)
  · unfold f6_freely
    rw [f5_has_ok h.z hzn h3 h4, bd_some, l0, l1, ii_neg]
    by_cases d : 0 ≤ z ∧ z < sM s 0
    · rw [if_pos d, if_neg (by decide), if_pos d]
      obtain ⟨y, rfl⟩ := Int.eq_ofNat_of_zero_le d.1
      obtain ⟨m1, f1, f2, f3⟩ := c_trial h
      obtain ⟨m2, g1, g2, g3⟩ := dropFloors_ok f3.2.2
      have hM' := nofl_WF hs.1
      have A2 : AK m2 44 (nofl (sM s)) := f3.uo g1 g2 (fun j hj => by have := zj_o hj; exact nofl_o (by omega))
      obtain ⟨m3, k1, k2, k3, k4⟩ := c_try A2 hM'
      have F := (f2.tr (fo53 g1)).tr k2
      refine ⟨m3, ?_, ftr_cl F, h.tr F⟩
      have e := (DA_PN (nofl_DA hs.1) (Dg_WD hM' _ _) (z := y) (show y < zn (nofl (sM s)) by unfold zn; rw [nofl_o (by omega)]; omega)).1
      have t : m3 64 y = _ := (k4.2.1 y (by unfold zn; rw [nofl_o (by omega)]; omega)).1
      rw [f1, bd_some, g3, bd_some, k1, bd_some, at_i m3 (q := 64) (k := y) (n := 6) (by decide) (by omega) (by omega), bd_some, t, Int.toNat_natCast]
      show some (ii (Pz (Dg (nofl (sM s)) (ii 0) false) y), m3) = _
      rw [e]
    · refine ⟨mm, ?_, Fcl.rf mm, h⟩
      rw [if_neg d, if_pos rfl, if_neg d]
  · have h0 := hm.u0 (k := 0) (by omega) (ii 0)
    show ∃ m', f7_freely m (ii z) = _ ∧ _
    unfold f7_freely
    rw [l0, nm_eq, f7_isZone_ok h0.1 hzn h3 h4, bd_some, l1, ii_neg]
    by_cases d : 0 ≤ z ∧ z < sM s 0
    · rw [if_pos d, if_neg (by decide), if_pos d]
      obtain ⟨y, rfl⟩ := Int.eq_ofNat_of_zero_le d.1
      have h5 := (h0.u0 (k := 5) (by omega) (ii 0)).u0 (k := 6) (by omega) (ii 1)
      obtain ⟨m1, f1, f2, f3, f4, f5, f6⟩ := r_clear h5 hs (g := ii 0) (nf := true) (by rw [up2_k _ _ _ _ (by omega), up2_at]) (up2_at _ _ _ _)
      refine ⟨up2 m1 0 6 (ii 0), ?_, ((((frf_u0 m 0 (ii 0)).tr (frf_u0 _ 5 (ii 0))).tr (frf_u0 _ 6 _)).tr f2).tr (frf_u0 _ 6 _), f3.u0 (by omega) _⟩
      rw [nm_eq, nm_eq, f1, bd_some, nm_eq, rdq _ (q := 7) (n := 6) (by decide) (k := y) (by omega) (by omega) rfl, up2_c _ _ _ _ (by omega), (f5.1 y (by omega)).1, Int.toNat_natCast]
    · refine ⟨_, ?_, frf_u0 m 0 (ii 0), h0⟩
      rw [if_neg d, if_pos rfl, if_neg d]
end
