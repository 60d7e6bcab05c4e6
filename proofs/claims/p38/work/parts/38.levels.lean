/-! the numbers of a market, with resources gone, without floors -/
def zn (M : WM) : Nat := (M 0).toNat
def rn (M : WM) : Nat := (M 1).toNat
def gb (g : Int32) (r : Nat) : Bool := decide (((g >>> (ii r &&& 31)) &&& ii 1) = ii 1)
def Ug (M : WM) (g : Int32) (i : Nat) : Int := if i < 4 * rn M then (if gb g (i / 4) = true then 0 else lu M (i / 4) (i % 4)) else 0
def Jg (M : WM) (g : Int32) (nf : Bool) (i : Nat) : Int := if Ug M g i = 0 then 0 else li M (i / 4) (i % 4) (if nf = true then 0 else flr M (i / 4))
def Dg (M : WM) (g : Int32) (nf : Bool) : DT := (zn M, fun z => (M (7 + 12 * z)).toNat, fun z => M (8 + 12 * z), fun z => M (9 + 12 * z), fun z p => Wt M z p, rn M, fun r => (M (79 + 13 * r)).toNat, Ug M g, Jg M g nf)
theorem zn_c {M : WM} (hM : WW M) : M 0 = (zn M : Int) := by
  have := hM.zn
  unfold zn
  omega
theorem rn_c {M : WM} (hM : WW M) : M 1 = (rn M : Int) := by
  have := hM.rn
  unfold rn
  omega
theorem zn_bd {M : WM} (hM : WW M) : 1 ≤ zn M ∧ zn M ≤ 6 := by
  have := hM.zn
  unfold zn
  omega
theorem rn_bd {M : WM} (hM : WW M) : rn M ≤ 12 := by
  have := hM.rn
  unfold rn
  omega
theorem wwz {M : WM} (hM : WW M) {z : Nat} (hz : z < zn M) : ZW M z := hM.z (by rw [zn_c hM]; omega)
theorem wwr {M : WM} (hM : WW M) {r : Nat} (hr : r < rn M) : RW M r := hM.r (by rw [rn_c hM]; omega)
theorem lu_nn {M : WM} (hM : WF M) {r : Nat} (hr : r < rn M) (k : Nat) : 0 ≤ lu M r k ∧ lu M r k ≤ 500 := by
  have hw := wwr hM.1 hr
  have a := hM.2 r (by rw [rn_c hM.1]; omega)
  have b := lu_bd hw k
  refine ⟨?_, b.2⟩
  unfold lu
  by_cases c : k = 3
  · rw [if_pos c]
    by_cases d : M (83 + 13 * r) = 1
    · rw [if_pos d]; exact a
    · rw [if_neg d]; omega
  · rw [if_neg c]
    by_cases d : k < stp M r
    · rw [if_pos d]
      have := hw.2.2.2.2.2.2.2 k d
      omega
    · rw [if_neg d]; omega
theorem lu_there {M : WM} {r k : Nat} (h : lu M r k ≠ 0) : k = 3 ∨ k < stp M r := by
  unfold lu at h
  by_cases c : k = 3
  · exact Or.inl c
  · rw [if_neg c] at h
    by_cases d : k < stp M r
    · exact Or.inr d
    · rw [if_neg d] at h; omega
theorem Ug_at {M : WM} {g : Int32} {r k : Nat} (hr : r < rn M) (hk : k < 4) : Ug M g (4 * r + k) = if gb g r = true then 0 else lu M r k := by
  unfold Ug
  have e1 : (4 * r + k) / 4 = r := by omega
  have e2 : (4 * r + k) % 4 = k := by omega
  rw [if_pos (by omega), e1, e2]
theorem Jg_at {M : WM} {g : Int32} {nf : Bool} {r k : Nat} (hr : r < rn M) (hk : k < 4) : Jg M g nf (4 * r + k) = if Ug M g (4 * r + k) = 0 then 0 else li M r k (if nf = true then 0 else flr M r) := by
  unfold Jg
  have e1 : (4 * r + k) / 4 = r := by omega
  have e2 : (4 * r + k) % 4 = k := by omega
  rw [e1, e2]
theorem UJ_bd {M : WM} (hM : WF M) (g : Int32) (nf : Bool) {i : Nat} (hi : i < 4 * rn M) : (0 ≤ Ug M g i ∧ Ug M g i ≤ 500) ∧ (0 ≤ Jg M g nf i ∧ Jg M g nf i ≤ 9999) := by
  have hr : i / 4 < rn M := by omega
  have a := lu_nn hM hr (i % 4)
  have u : 0 ≤ Ug M g i ∧ Ug M g i ≤ 500 := by
    unfold Ug
    rw [if_pos hi]
    by_cases c : gb g (i / 4) = true
    · rw [if_pos c]; omega
    · rw [if_neg c]; exact a
  refine ⟨u, ?_⟩
  unfold Jg
  by_cases c : Ug M g i = 0
  · rw [if_pos c]; omega
  · rw [if_neg c]
    have hw := wwr hM.1 hr
    have f := flr_bd hM.1 hw
    refine li_bd2 hM.1 hw ?_ (lu_there (fun e => c ?_))
    · cases nf
      · exact f
      · rw [if_pos rfl]; omega
    · unfold Ug
      rw [if_pos hi, e]
      by_cases d : gb g (i / 4) = true
      · rw [if_pos d]
      · rw [if_neg d]
theorem Dg_WD {M : WM} (hM : WF M) (g : Int32) (nf : Bool) : WD (Dg M g nf) := by
  have hn := zn_bd hM.1
  refine ⟨hn, fun z h1 h2 => ?_, fun z hz => ?_, fun z hz p => ?_, fun z hz p q hpq => ?_, fun z hz => ?_, rn_bd hM.1, fun i hi => UJ_bd hM g nf hi⟩
  · have a := (wwz hM.1 h2).1 h1
    show (M (7 + 12 * z)).toNat < z
    omega
  · have a := wwz hM.1 hz
    exact ⟨a.2.1, a.2.2.1⟩
  · have a := Wt_bd (wwz hM.1 hz) p
    exact ⟨a.1, a.2.2⟩
  · exact Wt_mono (wwz hM.1 hz) hpq
  · refine Wt_top (wwz hM.1 hz) ?_
    unfold fpr
    by_cases e : npt M z = 0
    · rw [if_pos e]; omega
    · rw [if_neg e]
      have := (wwz hM.1 hz).pt (k := 0) (by omega)
      omega
def RC (mm : Mem) (M : WM) (g : Int32) (nf : Bool) : Prop := RK mm M ∧ mm 0 5 = g ∧ mm 0 6 = ii (if nf = true then 1 else 0)
def ofn (M : WM) (g : Int32) (nf : Bool) (z : Nat) (q : Int) (i : Nat) : Int := if (M (79 + 13 * (i / 4))).toNat = z ∧ Jg M g nf i < q then Ug M g i else 0
section
variable {mm : Mem} {M : WM} {g : Int32} {nf : Bool}
theorem ofn_skip {z : Nat} {q : Int} {r : Nat} (hr : r < rn M) (h : (M (79 + 13 * r)).toNat ≠ z ∨ gb g r = true) : sm (4 * (r + 1)) (ofn M g nf z q) = sm (4 * r) (ofn M g nf z q) := by
  have e : ∀ k, k < 4 → ofn M g nf z q (4 * r + k) = 0 := by
    intro k hk
    have e1 : (4 * r + k) / 4 = r := by omega
    unfold ofn
    rw [e1]
    by_cases c : (M (79 + 13 * r)).toNat = z
    · rcases h with h | h
      · exact absurd c h
      · have := Ug_at (M := M) (g := g) hr hk
        rw [if_pos h] at this
        rw [this]
        by_cases d : (M (79 + 13 * r)).toNat = z ∧ Jg M g nf (4 * r + k) < q
        · rw [if_pos d]
        · rw [if_neg d]
    · rw [if_neg (fun x => c x.1)]
  have e4 : 4 * (r + 1) = 4 * r + 1 + 1 + 1 + 1 := by omega
  rw [e4, sm_s, sm_s, sm_s, sm_s]
  have a0 := e 0 (by omega)
  have a1 := e 1 (by omega)
  have a2 := e 2 (by omega)
  have a3 := e 3 (by omega)
  have b0 : 4 * r + 0 = 4 * r := by omega
  have b2 : 4 * r + 1 + 1 = 4 * r + 2 := by omega
  have b3 : 4 * r + 1 + 1 + 1 = 4 * r + 3 := by omega
  rw [b0] at a0
  rw [b2, show 4 * r + 2 + 1 = 4 * r + 3 from by omega, a0, a1, a2, a3]
  omega
end
