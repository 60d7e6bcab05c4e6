/-! resource and the statement, by the reference -/
theorem oend_w {t : Nat → Int} {L q : Nat} {k : Nat → OC} (h : isw t L q) : oend t L q k = bad (1 + 8 * (q : Int)) := by
  unfold oend
  rw [if_neg (fun x => by have := h.2; omega)]
def RV (m : Mem) (z sz kn ow mu fr : Int) : Prop := m 13 0 = ii z ∧ m 13 1 = ii sz ∧ m 13 2 = ii kn ∧ m 13 3 = ii ow ∧ m 13 4 = ii mu ∧ m 13 5 = ii fr
section
variable {mm : Mem} {s : ST} {q : Nat} {W : WM}
/-- the memory behind a word -/
def mw (s : ST) (m : Mem) (q : Nat) : Mem := up2 (up2 (up2 m 0 17 (ii q)) 0 20 (ii q)) 0 17 (ii (lee (stp' s) (stl s) q))
theorem mw_fl (s : ST) (m : Mem) (q : Nat) : FL m (mw s m q) := (((FL.rf m).u (by omega) _).u (by omega) _).u (by omega) _
theorem mw_13 (s : ST) (m : Mem) (q j : Nat) : mw s m q 13 j = m 13 j := by
  unfold mw
  rw [up2_c _ _ _ _ (by omega), up2_c _ _ _ _ (by omega), up2_c _ _ _ _ (by omega)]
theorem mw_20 (s : ST) (m : Mem) (q : Nat) : mw s m q 0 20 = ii q := by
  unfold mw
  rw [up2_k _ _ _ _ (by omega), up2_at]
theorem mw_RP (h : RP mm s W q) (hw : isw (stp' s) (stl s) q) : RP (mw s mm q) s W (nxt s q) := by
  refine ⟨h.1.fl (mw_fl s mm q), ⟨lee (stp' s) (stl s) q, up2_at _ _ _ _, (lee_le h.le).2, by unfold nxt; rw [tnx_w hw]⟩, ?_⟩
  unfold mw
  rw [up2_k _ _ _ _ (by omega), up2_k _ _ _ _ (by omega), up2_k _ _ _ _ (by omega)]
  exact h.2.2
theorem word_ok (h : RP mm s W q) (hs : SW s) : f7_readWord (up2 mm 0 17 (ii q)) = some (ll (rwv (stp' s) (stl s) q), mw s mm q) := f7_readWord_ok ((h.tr hs).u (by omega) _) h.le (up2_at _ _ _ _)
theorem mul_lg (q w : Nat) {t : Nat → Int} {L : Nat} (hw : w < 9) : lg_cmp (ll (rwv t L q)) (ll (wdC w)) = ii 0 ↔ rwv t L q = wdC w := by
  have b := rwv_b (t := t) (L := L) (q := q)
  have c : 0 ≤ wdC w ∧ wdC w < 282429536481 := by
    have n := wd_n w hw
    have c := wd_c w hw
    have a1 := wvl_0 (t := wdc w) (i := 0) (wdn w) (fun k hk => by rw [Nat.zero_add]; exact c k hk)
    have a2 := wvl_b (t := wdc w) (i := 0) (wdn w) (fun k hk => by rw [Nat.zero_add]; exact c k hk)
    have a3 := Nat.pow_le_pow_right (n := 27) (by omega) n.2
    have a4 : 27 ^ 8 = 282429536481 := rfl
    unfold wdC
    omega
  exact lgc_ll (by omega) (by omega) (by omega) (by omega)
theorem wC7 : (271721 : Int64) = ll (wdC 7) := by rw [wd_C.2.2.2.2.2.2.2.1]; decide
theorem wC8 : (131360 : Int64) = ll (wdC 8) := by rw [wd_C.2.2.2.2.2.2.2.2]; decide
/-- a word behind a resource -/
theorem res_w (h : RP mm s W q) (hs : SW s) (hw : isw (stp' s) (stl s) q) {z sz kn ow mu fr : Int} (hv : RV mm z sz kn ow mu fr) (hmu : mu = 0 ∨ mu = 1) (hfr : fr = 0 ∨ fr = 1) (n : Nat) : f7_readResource_l83 (n + 1) mm = (if rwv (stp' s) (stl s) q = wdC 7 ∧ mu = 0 ∧ fr = 0 then f7_readResource_l83 n (up2 (mw s mm q) 13 4 (ii 1)) else if rwv (stp' s) (stl s) q = wdC 8 ∧ fr = 0 then f7_readResource_l83 n (up2 (mw s mm q) 13 5 (ii 1)) else some (ii 0, up2 (mw s mm q) 0 18 (ii (1 + 8 * (q : Int))))) := by
  have e78 : wdC 7 ≠ wdC 8 := by rw [wd_C.2.2.2.2.2.2.2.1, wd_C.2.2.2.2.2.2.2.2]; decide
  obtain ⟨v0, v1, v2, v3, v4, v5⟩ := hv
  rw [f7_readResource_l83, h.wrd hs, bd_some]
  dsimp only
  rw [if_pos hw, l0, if_neg (show ¬ ii 1 = ii 0 by decide), word_ok h hs, bd_some, wC7, l4, l5]
  dsimp only
  have M4 : mw s mm q 13 4 = ii mu := by rw [mw_13, v4]
  have M5 : mw s mm q 13 5 = ii fr := by rw [mw_13, v5]
  have J143 : ∀ x : Int, f7_readResource_j143 (fun mm => f7_readResource_l83 n mm) (ll (rwv (stp' s) (stl s) q)) (ii x) (mw s mm q) = (if ii x = ii 0 then some (ii 0, up2 (mw s mm q) 0 18 (ii (1 + 8 * (q : Int)))) else if rwv (stp' s) (stl s) q = wdC 7 then f7_readResource_l83 n (up2 (mw s mm q) 13 4 (ii 1)) else f7_readResource_l83 n (up2 (mw s mm q) 13 5 (ii 1))) := by
    intro x
    unfold f7_readResource_j143 f7_readResource_j177
    rw [l0, l1, l4, l5, mw_20, fails_ok, bd_some, bok_0, wC7, wr13 _ (k := 4) (by omega) (by omega), wr13 _ (k := 5) (by omega) (by omega)]
    by_cases c : ii x = ii 0
    · rw [if_pos c, if_pos c]
    · rw [if_neg c, if_neg c]
      by_cases d : rwv (stp' s) (stl s) q = wdC 7
      · rw [if_pos d, if_pos ((mul_lg q 7 (by omega)).mpr d)]
      · rw [if_neg d, if_neg (fun x => d ((mul_lg q 7 (by omega)).mp x))]
  have n10 : ¬ ii 1 = ii 0 := by decide
  have J121 : (rwv (stp' s) (stl s) q = wdC 7 → ¬ (mu = 0 ∧ fr = 0)) → f7_readResource_j121 (fun mm => f7_readResource_l83 n mm) (ll (rwv (stp' s) (stl s) q)) (mw s mm q) = (if rwv (stp' s) (stl s) q = wdC 8 ∧ fr = 0 then f7_readResource_l83 n (up2 (mw s mm q) 13 5 (ii 1)) else some (ii 0, up2 (mw s mm q) 0 18 (ii (1 + 8 * (q : Int))))) := by
    intro _
    unfold f7_readResource_j121 f7_readResource_j142 f7_readResource_j138
    rw [l0, l1, l5, wC8, rd13 _ (k := 5) (by omega) (by omega), M5, J143, J143, if_pos rfl, if_neg n10]
    by_cases d : rwv (stp' s) (stl s) q = wdC 8
    · rw [if_pos ((mul_lg q 8 (by omega)).mpr d), if_neg (show ¬ rwv (stp' s) (stl s) q = wdC 7 from fun x => e78 (x.symm.trans d))]
      rcases hfr with rfl | rfl
      · rw [if_pos (show ii 0 = ii 0 from rfl), if_pos (show rwv (stp' s) (stl s) q = wdC 8 ∧ (0 : Int) = 0 from ⟨d, rfl⟩)]
      · rw [if_neg n10, if_neg (show ¬ (rwv (stp' s) (stl s) q = wdC 8 ∧ (1 : Int) = 0) from fun x => by have := x.2; omega)]
    · rw [if_neg (fun x => d ((mul_lg q 8 (by omega)).mp x)), if_neg (fun x => d x.1)]
  by_cases c : rwv (stp' s) (stl s) q = wdC 7
  · rw [if_pos ((mul_lg q 7 (by omega)).mpr c), rd13 _ (k := 4) (by omega) (by omega), M4, rd13 _ (k := 5) (by omega) (by omega), M5]
    by_cases d : mu = 0 ∧ fr = 0
    · unfold f7_readResource_j138
      obtain ⟨rfl, rfl⟩ := d
      rw [if_pos (show rwv (stp' s) (stl s) q = wdC 7 ∧ (0 : Int) = 0 ∧ (0 : Int) = 0 from ⟨c, rfl, rfl⟩), if_pos (show ii 0 = ii 0 from rfl), if_pos (show ii 0 = ii 0 from rfl), l1, J143, if_neg n10, if_pos c]
    · rw [if_neg (show ¬ (rwv (stp' s) (stl s) q = wdC 7 ∧ mu = 0 ∧ fr = 0) from fun x => d x.2), J121 (fun _ => d)]
      rcases hmu with rfl | rfl
      · rcases hfr with rfl | rfl
        · exact absurd ⟨rfl, rfl⟩ d
        · rw [if_pos (show ii 0 = ii 0 from rfl), if_neg n10]
      · rw [if_neg n10]
  · rw [if_neg (fun x => c ((mul_lg q 7 (by omega)).mp x)), if_neg (show ¬ (rwv (stp' s) (stl s) q = wdC 7 ∧ mu = 0 ∧ fr = 0) from fun x => c x.1), J121 (fun x => absurd x c)]
theorem res_n (h : RP mm s W q) (hs : SW s) (hW : WF W) (hr : rn W < 12) (hw : ¬ isw (stp' s) (stl s) q) {z sz kn ow mu fr : Int} (hv : RV mm z sz kn ow mu fr) (n : Nat) : Rout (f7_readResource_l83 (n + 1) mm) mm s (oend (stp' s) (stl s) q (okc (radd W z sz kn ow mu fr))) := by
  obtain ⟨v0, v1, v2, v3, v4, v5⟩ := hv
  have A := h.at
  rw [f7_readResource_l83, h.wrd hs, bd_some]
  dsimp only
  rw [if_neg hw, l0, l1, l2, l3, l4, l5, if_pos rfl]
  refine Rout.fr ?_ A.2.ps
  refine r_end A.1 hs (fun m1 f1 f2 f3 => ?_)
  dsimp only
  have e : ∀ j, m1 13 j = mm 13 j := fun j => by rw [f2, up2_c _ _ _ _ (by omega)]
  obtain ⟨m2, i1, i2, i3⟩ := r_addResource (s := sset s W) f3.1 hW.1 hr z sz kn ow mu fr
  have P := f3.mk1 (W' := radd W z sz kn ow mu fr) i2 i3
  have rb := rn_bd hW.1
  have i1 : f7_addResource m1 (ii z) (ii sz) (ii kn) (ii ow) (ii mu) (ii fr) = some (ii (rn W), m2) := i1
  rw [rd13 m1 (k := 0) (by omega) (by omega), rd13 m1 (k := 1) (by omega) (by omega), rd13 m1 (k := 2) (by omega) (by omega), rd13 m1 (k := 3) (by omega) (by omega), rd13 m1 (k := 4) (by omega) (by omega), rd13 m1 (k := 5) (by omega) (by omega), e, e, e, e, e, e, v0, v1, v2, v3, v4, v5, i1, bd_some, ii_neg, if_neg (show ¬ ii (rn W) = ii (-1) from ine (by omega) (by omega) (by omega) (by omega) (by omega))]
  exact Rout_y rfl P.2 P.1
theorem RV.w {z sz kn ow mu fr : Int} (hv : RV mm z sz kn ow mu fr) : RV (up2 (mw s mm q) 13 4 (ii 1)) z sz kn ow 1 fr ∧ RV (up2 (mw s mm q) 13 5 (ii 1)) z sz kn ow mu 1 := by
  obtain ⟨v0, v1, v2, v3, v4, v5⟩ := hv
  refine ⟨⟨?_, ?_, ?_, ?_, up2_at _ _ _ _, ?_⟩, ⟨?_, ?_, ?_, ?_, ?_, up2_at _ _ _ _⟩⟩ <;> (rw [up2_k _ _ _ _ (by omega), mw_13]; assumption)
theorem res_bad (h : RP mm s W q) (hw : isw (stp' s) (stl s) q) {k : Nat → OC} : Rout (some (ii 0, up2 (mw s mm q) 0 18 (ii (1 + 8 * (q : Int))))) mm s (oend (stp' s) (stl s) q k) := by
  rw [oend_w hw]
  have F := (mw_fl s mm q).u (k := 18) (by omega) (ii (1 + 8 * (q : Int)))
  exact Rout_n rfl F.ps (h.1.fl F) (up2_at _ _ _ _)
theorem isw_of {w : Nat} (hw : w < 9) (h : rwv (stp' s) (stl s) q = wdC w) : isw (stp' s) (stl s) q := Classical.byContradiction (fun x => by
  have a := rwv_n x
  have b := wdC_p hw
  omega)
theorem res_C (h : RP mm s W q) (hs : SW s) (hW : WF W) (hr : rn W < 12) {z sz kn ow mu : Int} (hv : RV mm z sz kn ow mu 1) (hmu : mu = 0 ∨ mu = 1) (n : Nat) : Rout (f7_readResource_l83 (n + 1) mm) mm s (oend (stp' s) (stl s) q (okc (radd W z sz kn ow mu 1))) := by
  by_cases c : isw (stp' s) (stl s) q
  · rw [res_w h hs c hv hmu (Or.inr rfl) n, if_neg (fun x => by have := x.2.2; omega), if_neg (fun x => by have := x.2; omega)]
    exact res_bad h c
  · exact res_n h hs hW hr c hv n
theorem res_B (h : RP mm s W q) (hs : SW s) (hW : WF W) (hr : rn W < 12) {z sz kn ow mu : Int} (hv : RV mm z sz kn ow mu 0) (hmu : mu = 1 ∨ (mu = 0 ∧ rwv (stp' s) (stl s) q ≠ wdC 7)) (n : Nat) : Rout (f7_readResource_l83 (n + 2) mm) mm s (oend (stp' s) (stl s) (onx (stp' s) (stl s) q 8) (okc (radd W z sz kn ow mu (ofl (stp' s) (stl s) q 8)))) := by
  unfold onx ofl
  by_cases d : rwv (stp' s) (stl s) q = wdC 8
  · have c := isw_of (by omega) d
    rw [if_pos d, if_pos d, res_w h hs c hv (by omega) (Or.inl rfl) (n + 1), if_neg (fun x => by
      rcases hmu with e | e
      · have := x.2.1; omega
      · exact e.2 x.1), if_pos ⟨d, rfl⟩]
    have P := (mw_RP h c).u13 5 (ii 1)
    exact (res_C P.1 hs hW hr (RV.w hv).2 (by omega) n).fr ((mw_fl s mm q).ps.tr P.2.ps)
  · rw [if_neg d, if_neg d]
    by_cases c : isw (stp' s) (stl s) q
    · rw [res_w h hs c hv (by omega) (Or.inl rfl) (n + 1), if_neg (fun x => by
        rcases hmu with e | e
        · have := x.2.1; omega
        · exact e.2 x.1), if_neg (fun x => d x.1)]
      exact res_bad h c
    · exact res_n h hs hW hr c hv (n + 1)
theorem res_A (h : RP mm s W q) (hs : SW s) (hW : WF W) (hr : rn W < 12) {z sz kn ow : Int} (hv : RV mm z sz kn ow 0 0) (n : Nat) : Rout (f7_readResource_l83 (n + 3) mm) mm s (oend (stp' s) (stl s) (onx (stp' s) (stl s) (onx (stp' s) (stl s) q 7) 8) (okc (radd W z sz kn ow (ofl (stp' s) (stl s) q 7) (ofl (stp' s) (stl s) (onx (stp' s) (stl s) q 7) 8)))) := by
  by_cases d : rwv (stp' s) (stl s) q = wdC 7
  · have c := isw_of (by omega) d
    have e1 : onx (stp' s) (stl s) q 7 = nxt s q := by unfold onx; rw [if_pos d]; rfl
    have e2 : ofl (stp' s) (stl s) q 7 = 1 := by unfold ofl; rw [if_pos d]
    rw [e1, e2, res_w h hs c hv (Or.inl rfl) (Or.inl rfl) (n + 2), if_pos ⟨d, rfl, rfl⟩]
    have P := (mw_RP h c).u13 4 (ii 1)
    exact (res_B P.1 hs hW hr (RV.w hv).1 (Or.inl rfl) n).fr ((mw_fl s mm q).ps.tr P.2.ps)
  · have e1 : onx (stp' s) (stl s) q 7 = q := by unfold onx; rw [if_neg d]
    have e2 : ofl (stp' s) (stl s) q 7 = 0 := by unfold ofl; rw [if_neg d]
    rw [e1, e2]
    exact res_B h hs hW hr hv (Or.inr ⟨rfl, d⟩) (n + 1)
theorem r_readResource (h : RP mm s W (nxt s q)) (hs : SW s) (hw : WF W) : Rout (f7_readResource mm (ii q)) mm s (oRes (stp' s) (stl s) W q) := by
  have zb := hw.1.zn
  have zc := zn_c hw.1
  have rb := hw.1.rn
  have rc := rn_c hw.1
  have k0 : RK mm W := h.1.1
  unfold f7_readResource oRes
  rw [l0, l1, rd1 k0 (k := 1) (by omega) (by omega), rd1 k0 (k := 0) (by omega) (by omega), l2, l3, l4, l5, l12, l500, ii_sub]
  by_cases c : W 1 < 12
  · rw [if_pos c, if_neg (ine (by omega) (by omega) (by omega) (by omega) (by omega))]
    refine r_num h hs (n := 0) (by omega) (by omega) (by omega) (fun m1 f1 f2 f3 f4 f5 => ?_)
    dsimp only
    refine r_num f2 hs (n := 1) (by omega) (by omega) (by omega) (fun m2 g1 g2 g3 g4 g5 => ?_)
    dsimp only
    refine r_num g2 hs (n := 2) (by omega) (by omega) (by omega) (fun m3 j1 j2 j3 j4 j5 => ?_)
    dsimp only
    refine r_num j2 hs (n := 3) (by omega) (by omega) (by omega) (fun m4 i1 i2 i3 i4 i5 => ?_)
    dsimp only
    rw [wr13 m4 (k := 4) (by omega) (by omega), wr13 _ (k := 5) (by omega) (by omega)]
    have P1 := i2.u13 4 (ii 0)
    have P2 := P1.1.u13 5 (ii 0)
    refine (res_A P2.1 hs hw (by omega) ⟨?_, ?_, ?_, ?_, ?_, ?_⟩ 19997).fr (P1.2.ps.tr P2.2.ps)
    · rw [up2_k _ _ _ _ (by omega), up2_k _ _ _ _ (by omega), i3 0 (by omega), j3 0 (by omega), g3 0 (by omega)]; exact f4
    · rw [up2_k _ _ _ _ (by omega), up2_k _ _ _ _ (by omega), i3 1 (by omega), j3 1 (by omega)]; exact g4
    · rw [up2_k _ _ _ _ (by omega), up2_k _ _ _ _ (by omega), i3 2 (by omega)]; exact j4
    · rw [up2_k _ _ _ _ (by omega), up2_k _ _ _ _ (by omega)]; exact i4
    · rw [up2_k _ _ _ _ (by omega), up2_at]
    · exact up2_at _ _ _ _
  · rw [if_neg c, if_pos (show ii (W 1) = ii 12 from congrArg ii (by omega))]
    exact r_fail h (Frp.rf mm) 3 q
theorem r_statement (h : RP mm s W q) (hs : SW s) (hw : WF W) : Rout (f7_readStatement mm) mm s (oStm (stp' s) (stl s) W q) := by
  have A := h.at
  have k : ∀ x, x = wdC 0 ∨ x = wdC 1 ∨ x = wdC 2 ∨ x = wdC 3 ∨ x = wdC 4 ∨ x = wdC 5 ∨ x = wdC 6 → x ≠ 0 := by
    intro x hx
    have p : ∀ a, a < 9 → 1 ≤ wdC a := fun a ha => wdC_p ha
    have := p 0 (by omega)
    have := p 1 (by omega)
    have := p 2 (by omega)
    have := p 3 (by omega)
    have := p 4 (by omega)
    have := p 5 (by omega)
    have := p 6 (by omega)
    omega
  unfold f7_readStatement oStm
  rw [h.wrd hs, bd_some]
  dsimp only
  by_cases c : isw (stp' s) (stl s) q
  · have P := mw_RP h c
    have kw : RK (mw s mm q) W := P.1.1
    have g0 := mul_lg q 0 (t := stp' s) (L := stl s) (by omega)
    have g1 := mul_lg q 1 (t := stp' s) (L := stl s) (by omega)
    have g2 := mul_lg q 2 (t := stp' s) (L := stl s) (by omega)
    have g3 := mul_lg q 3 (t := stp' s) (L := stl s) (by omega)
    have g4 := mul_lg q 4 (t := stp' s) (L := stl s) (by omega)
    have g5 := mul_lg q 5 (t := stp' s) (L := stl s) (by omega)
    have g6 := mul_lg q 6 (t := stp' s) (L := stl s) (by omega)
    have e56 : wdC 5 ≠ wdC 6 := by rw [wd_C.2.2.2.2.2.1, wd_C.2.2.2.2.2.2.1]; decide
    rw [wd_C.1] at g0
    rw [wd_C.2.1] at g1
    rw [wd_C.2.2.1] at g2
    rw [wd_C.2.2.2.1] at g3
    rw [wd_C.2.2.2.2.1] at g4
    rw [wd_C.2.2.2.2.2.1] at g5
    rw [wd_C.2.2.2.2.2.2.1] at g6
    rw [if_pos c, l0, if_neg (show ¬ ii 1 = ii 0 by decide), word_ok h hs, bd_some]
    dsimp only
    rw [mw_20, nm_eq, show (523076 : Int64) = ll 523076 by decide, show (2021387 : Int64) = ll 2021387 by decide, show (190504487498 : Int64) = ll 190504487498 by decide, show (8094240 : Int64) = ll 8094240 by decide, show (3436200 : Int64) = ll 3436200 by decide, show (177232852 : Int64) = ll 177232852 by decide, show (1239032113 : Int64) = ll 1239032113 by decide, wd_C.1, wd_C.2.1, wd_C.2.2.1, wd_C.2.2.2.1, wd_C.2.2.2.2.1, wd_C.2.2.2.2.2.1, wd_C.2.2.2.2.2.2.1, l1, l2, l3, l9999, rd1 kw (k := 0) (by omega) (by omega), ii_sub]
    refine Rout.fr ?_ (mw_fl s mm q).ps
    generalize rwv (stp' s) (stl s) q = v at g0 g1 g2 g3 g4 g5 g6 ⊢
    by_cases c0 : v = 523076
    · rw [if_pos (g0.mpr c0), if_pos c0]; exact (r_readZone P hs hw).bk
    · rw [if_neg (fun x => c0 (g0.mp x)), if_neg c0]
      by_cases c1 : v = 2021387
      · rw [if_pos (g1.mpr c1), if_pos c1]; exact (r_readCurve P hs hw).bk
      · rw [if_neg (fun x => c1 (g1.mp x)), if_neg c1]
        by_cases c2 : v = 190504487498
        · rw [if_pos (g2.mpr c2), if_pos c2]; exact (r_readResource P hs hw).bk
        · rw [if_neg (fun x => c2 (g2.mp x)), if_neg c2]
          by_cases c3 : v = 8094240
          · rw [if_pos (g3.mpr c3), if_pos c3]; exact (r_readOffer P hs hw).bk
          · rw [if_neg (fun x => c3 (g3.mp x)), if_neg c3]
            by_cases c4 : v = 3436200
            · rw [if_pos (g4.mpr c4), if_pos c4]; exact (r_readFloor P hs hw).bk
            · rw [if_neg (fun x => c4 (g4.mp x)), if_neg c4]
              by_cases c6 : v = 177232852
              · rw [if_pos (g6.mpr c6), if_neg (show ¬ v = 1239032113 by omega), if_pos c6]; exact (r_readLimits P hs hw).bk
              · rw [if_neg (fun x => c6 (g6.mp x))]
                by_cases c5 : v = 1239032113
                · rw [if_pos (g5.mpr c5), if_pos c5]; exact r_ceil P hs
                · rw [if_neg (fun x => c5 (g5.mp x)), if_neg c5, if_neg c6]
                  exact r_fail P (Frp.rf _) 1 q
  · have z := rwv_n c
    rw [if_neg c, l0, if_pos rfl, z, if_neg (fun x => k _ (Or.inl rfl) x.symm), if_neg (fun x => k _ (Or.inr (Or.inl rfl)) x.symm), if_neg (fun x => k _ (Or.inr (Or.inr (Or.inl rfl))) x.symm), if_neg (fun x => k _ (Or.inr (Or.inr (Or.inr (Or.inl rfl)))) x.symm), if_neg (fun x => k _ (Or.inr (Or.inr (Or.inr (Or.inr (Or.inl rfl))))) x.symm), if_neg (fun x => k _ (Or.inr (Or.inr (Or.inr (Or.inr (Or.inr (Or.inl rfl)))))) x.symm), if_neg (fun x => k _ (Or.inr (Or.inr (Or.inr (Or.inr (Or.inr (Or.inr rfl)))))) x.symm), up2_at, l1]
    exact r_fail A.1 A.2.ps 1 q
end
