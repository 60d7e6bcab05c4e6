/-! the law's own market: what its cells hold, by roles -/
def zrw (M : WM) (z i : Nat) : Int := if i = 0 then M (7 + 12 * z) else if i = 1 then M (8 + 12 * z) else M (9 + 12 * z)
def ptr (M : WM) (z k i : Nat) : Int := if i = 0 then pu M z k else pp M z k
def rrw (M : WM) (r i : Nat) : Int := M (79 + 13 * r + i)
def str (M : WM) (r k i : Nat) : Int := if i = 0 then su M r k else sp M r k
def MkR (A : AS) (dm : DM) (J : Nat → Nat) (M : WM) : Prop :=
  okd A (J 0) 8 ∧ (dm (J 0) 0 = .ref (J 1) ∧ dm (J 0) 1 = .ref (J 3) ∧ dm (J 0) 2 = .ref (J 5) ∧ dm (J 0) 3 = .ref (J 7) ∧ dm (J 0) 4 = .ref (J 9)) ∧ dm (J 0) 5 = .int (ii (M 2)) ∧
  (LiR A dm (J 1) (J 1001) (zn M) (fun z => J (10 + z)) ∧ LiR A dm (J 3) (J 1003) (zn M) (fun z => J (20 + z)) ∧ LiR A dm (J 5) (J 1005) (rn M) (fun r => J (40 + r)) ∧ LiR A dm (J 7) (J 1007) (rn M) (fun r => J (50 + r))) ∧ NR A dm (J 9) 4 (fun k => M (3 + k)) ∧
  (∀ z, z < zn M → NR A dm (J (10 + z)) 3 (zrw M z) ∧ LiR A dm (J (20 + z)) (J (1000 + (20 + z))) (npt M z) (fun k => J (100 + 10 * z + k)) ∧ ∀ k, k < npt M z → NR A dm (J (100 + 10 * z + k)) 2 (ptr M z k)) ∧
  (∀ r, r < rn M → NR A dm (J (40 + r)) 6 (rrw M r) ∧ LiR A dm (J (50 + r)) (J (1000 + (50 + r))) (stp M r) (fun k => J (200 + 10 * r + k)) ∧ ∀ k, k < stp M r → NR A dm (J (200 + 10 * r + k)) 2 (str M r k))
section
variable {A A1 A0 : AS} {dm m1 dm0 : DM} {J : Nat → Nat} {M : WM}
theorem MkR.o (h : MkR A dm J M) : okd A (J 0) 8 := h.1
theorem MkR.f0 (h : MkR A dm J M) : dm (J 0) 0 = .ref (J 1) := h.2.1.1
theorem MkR.f1 (h : MkR A dm J M) : dm (J 0) 1 = .ref (J 3) := h.2.1.2.1
theorem MkR.f2 (h : MkR A dm J M) : dm (J 0) 2 = .ref (J 5) := h.2.1.2.2.1
theorem MkR.f3 (h : MkR A dm J M) : dm (J 0) 3 = .ref (J 7) := h.2.1.2.2.2.1
theorem MkR.f4 (h : MkR A dm J M) : dm (J 0) 4 = .ref (J 9) := h.2.1.2.2.2.2
theorem MkR.f5 (h : MkR A dm J M) : dm (J 0) 5 = .int (ii (M 2)) := h.2.2.1
theorem MkR.zl (h : MkR A dm J M) : LiR A dm (J 1) (J 1001) (zn M) (fun z => J (10 + z)) := h.2.2.2.1.1
theorem MkR.cl (h : MkR A dm J M) : LiR A dm (J 3) (J 1003) (zn M) (fun z => J (20 + z)) := h.2.2.2.1.2.1
theorem MkR.rl (h : MkR A dm J M) : LiR A dm (J 5) (J 1005) (rn M) (fun r => J (40 + r)) := h.2.2.2.1.2.2.1
theorem MkR.sl (h : MkR A dm J M) : LiR A dm (J 7) (J 1007) (rn M) (fun r => J (50 + r)) := h.2.2.2.1.2.2.2
theorem MkR.fr (h : MkR A dm J M) : NR A dm (J 9) 4 (fun k => M (3 + k)) := h.2.2.2.2.1
theorem MkR.z (h : MkR A dm J M) {z : Nat} (hz : z < zn M) : NR A dm (J (10 + z)) 3 (zrw M z) := (h.2.2.2.2.2.1 z hz).1
theorem MkR.c (h : MkR A dm J M) {z : Nat} (hz : z < zn M) : LiR A dm (J (20 + z)) (J (1000 + (20 + z))) (npt M z) (fun k => J (100 + 10 * z + k)) := (h.2.2.2.2.2.1 z hz).2.1
theorem MkR.p (h : MkR A dm J M) {z : Nat} (hz : z < zn M) {k : Nat} (hk : k < npt M z) : NR A dm (J (100 + 10 * z + k)) 2 (ptr M z k) := (h.2.2.2.2.2.1 z hz).2.2 k hk
theorem MkR.r (h : MkR A dm J M) {r : Nat} (hr : r < rn M) : NR A dm (J (40 + r)) 6 (rrw M r) := (h.2.2.2.2.2.2 r hr).1
theorem MkR.s (h : MkR A dm J M) {r : Nat} (hr : r < rn M) : LiR A dm (J (50 + r)) (J (1000 + (50 + r))) (stp M r) (fun k => J (200 + 10 * r + k)) := (h.2.2.2.2.2.2 r hr).2.1
theorem MkR.t (h : MkR A dm J M) {r : Nat} (hr : r < rn M) {k : Nat} (hk : k < stp M r) : NR A dm (J (200 + 10 * r + k)) 2 (str M r k) := (h.2.2.2.2.2.2 r hr).2.2 k hk
theorem MkR.ext (h : MkR A dm J M) (hx : Ext A dm A1 m1) : MkR A1 m1 J M := by
  have hv : ∀ i, m1 (J 0) i = dm (J 0) i := fun i => hx.v h.o i
  exact ⟨hx.kd h.o, ⟨(hv 0).trans h.f0, (hv 1).trans h.f1, (hv 2).trans h.f2, (hv 3).trans h.f3, (hv 4).trans h.f4⟩, (hv 5).trans h.f5, ⟨h.zl.ext hx, h.cl.ext hx, h.rl.ext hx, h.sl.ext hx⟩, h.fr.ext hx, fun z hz => ⟨(h.z hz).ext hx, (h.c hz).ext hx, fun k hk => (h.p hz hk).ext hx⟩, fun r hr => ⟨(h.r hr).ext hx, (h.s hr).ext hx, fun k hk => (h.t hr hk).ext hx⟩⟩
/-- what is spent -/
def cst (A A' : AS) (c s : Int) : Prop := (A'.1 : Int) ≤ A.1 + c ∧ (A'.2.1 : Int) ≤ A.2.1 + s
theorem cst.rf (A : AS) : cst A A 0 0 := ⟨by omega, by omega⟩
theorem cst.tr {A B C : AS} {a b c d : Int} (h : cst A B a b) (k : cst B C c d) : cst A C (a + c) (b + d) := ⟨by have := h.1; have := k.1; omega, by have := h.2; have := k.2; omega⟩
theorem cst.mo {A B : AS} {a b c d : Int} (h : cst A B a b) (h1 : a ≤ c) (h2 : b ≤ d) : cst A B c d := ⟨by have := h.1; omega, by have := h.2; omega⟩
theorem cst_nw (A : AS) (k len sl : Nat) : cst A (nw A k len sl) 1 sl := ⟨by show ((A.1 + 1 : Nat) : Int) ≤ _; omega, by show ((A.2.1 + sl : Nat) : Int) ≤ _; omega⟩
/-! worths -/
/-- q is a row of its own, filled up to u -/
def Fil (A : AS) (dm : DM) (q n u : Nat) (f : Nat → Int) : Prop := okd A q 20 ∧ (A.2.2.1 q).2 = n ∧ n < 2147483648 ∧ ∀ i, i < u → dm q i = .int (ii (f i))
theorem Fil.up {q n u : Nat} {f : Nat → Int} (h : Fil A dm q n u f) {v : Int} (hv : v = f u) : Fil A (up3 dm q u (.int (ii v))) q n (u + 1) f := by
  refine ⟨h.1, h.2.1, h.2.2.1, fun i hi => ?_⟩
  by_cases e : i = u
  · subst e
    rw [up3_s, hv]
  · rw [up3_k e]
    exact h.2.2.2 i (by omega)
theorem Fil.up0 {q n u : Nat} {f : Nat → Int} (h : Fil A dm q n u f) (v : Value) : Fil A (up3 dm q u v) q n u f :=
  ⟨h.1, h.2.1, h.2.2.1, fun i hi => by rw [up3_k (by omega)]; exact h.2.2.2 i hi⟩
theorem Fil.wr {β : Type} {q n u : Nat} {f : Nat → Int} (h : Fil A dm q n u f) (hu : u < n) (x : Int32) (k : DM → Option β) : gkd A q 20 (gix A q (ii (u : Int)) (nm (up3 dm q (ii (u : Int)).toNatClampNeg (.int x)) k)) = k (up3 dm q u (.int x)) := by
  have := h.2.2.1
  rw [gkd_i h.1, gix_i h.2.1 (by omega) (by omega) h.2.2.1, tn_i (by omega), nm_eq]
theorem Fil.ext {q n u : Nat} {f : Nat → Int} (h : Fil A dm q n u f) (hx : Ext A dm A1 m1) : Fil A1 m1 q n u f :=
  ⟨hx.kd h.1, (hx.ln h.1).trans h.2.1, h.2.2.1, fun i hi => (hx.v h.1 i).trans (h.2.2.2 i hi)⟩
theorem Fil.nr {q n : Nat} {f : Nat → Int} (h : Fil A dm q n n f) : NR A dm q n f := h
abbrev prW : Nat × AS × DM → AS := fun x => x.2.1
theorem wo56 {q n : Nat} (hM : MkR A0 dm0 J M) (hW : WF M) {z : Nat} (hz : z < zn M) (hq : A0.1 < q) (hn : (n : Int) = wan M z) {k47 : Nat → Nat → Int32 → Int32 → AS → DM → Option (Nat × AS × DM)} {P : Nat × AS × DM → Prop} {k : Nat} (hk : k < npt M z)
    (hk47 : ∀ dm', Ext A0 dm0 A dm' → Fil A dm' q n (pu M z k).toNat (wv M z) → Go (k47 (J (20 + z)) q (ii (pu M z k)) (ii ((k : Int) + 1)) A dm') prW A P) :
    ∀ (d f u : Nat) (dm : DM), pu M z k = (u : Int) + d → d < f → Xk M z k ≤ u → Ext A0 dm0 A dm → Fil A dm q n u (wv M z) → Go (bX8_worths_l56 k47 f (J (20 + z)) q (ii (u : Int)) (ii (k : Int)) A dm) prW A P := by
  have hw := wwz hW.1 hz
  have hp := hw.pt hk
  have hpn : pu M z k ≤ wan M z := by
    have h2 : wan M z = pu M z (npt M z - 1) := by unfold wan; rw [if_neg (by omega)]
    rw [h2]
    exact (hw.mono (i := k) (j := npt M z - 1) (by omega) (by omega)).1
  have hnp := npt_le hw
  intro d
  induction d with
  | zero =>
    intro f u dm h1 h2 h3 hx hf
    obtain ⟨f, rfl⟩ : ∃ g, f = g + 1 := ⟨f - 1, by omega⟩
    have hM1 := hM.ext hx
    rw [bX8_worths_l56, gkd_i (hM1.c hz).k, bAL_get_ok (hM1.c hz) rfl hk, bd_some, l0, (hM1.p hz hk).rd2 (a := 0) (i := 0) rfl (by omega), show ptr M z k 0 = pu M z k from rfl, if_neg (by rw [ii_lt (by omega) (by omega) (by omega) (by omega)]; omega), nm_eq, l1, ii_add, show ((u : Nat) : Int) = pu M z k by omega]
    refine hk47 dm hx ?_
    rw [show (pu M z k).toNat = u by omega]
    exact hf
  | succ d ih =>
    intro f u dm h1 h2 h3 hx hf
    obtain ⟨f, rfl⟩ : ∃ g, f = g + 1 := ⟨f - 1, by omega⟩
    have hM1 := hM.ext hx
    have hun : u < n := by omega
    have hwv : wv M z u = seg M z k ((u : Int) + 1) := wor_seg hw hk (by omega) (by omega)
    rw [bX8_worths_l56, gkd_i (hM1.c hz).k, bAL_get_ok (hM1.c hz) rfl hk, bd_some, l0, (hM1.p hz hk).rd2 (a := 0) (i := 0) rfl (by omega), show ptr M z k 0 = pu M z k from rfl, if_pos (by rw [ii_lt (by omega) (by omega) (by omega) (by omega)]; omega), gkd_i (hM1.c hz).k, bd_some, l1, (hM1.p hz hk).rd2 (a := 1) (i := 1) rfl (by omega), show ptr M z k 1 = pp M z k from rfl, hf.wr hun]
    have hx2 : Ext A0 dm0 A (up3 dm q u (.int (ii (pp M z k)))) := hx.up hq _ _
    have hM2 := hM.ext hx2
    by_cases e : k = 0
    · subst e
      rw [if_neg (by decide)]
      unfold bX8_worths_j154
      rw [nm_eq, l1, ii_add]
      refine ih f (u + 1) _ (by omega) (by omega) (by omega) hx2 (hf.up ?_)
      rw [hwv]
      unfold seg
      rw [if_pos rfl]
    · obtain ⟨j, rfl⟩ : ∃ j, k = j + 1 := ⟨k - 1, by omega⟩
      have hnx := hw.nx hk
      have hpj := hw.pt (k := j) (by omega)
      have hX : Xk M z (j + 1) = pu M z j := by unfold Xk; rw [if_neg (by omega)]; rfl
      have c0 : 0 ≤ (pp M z j - pp M z (j + 1)) * ((u : Int) + 1 - pu M z j) := Int.mul_nonneg (by omega) (by omega)
      have c1 : (pp M z j - pp M z (j + 1)) * ((u : Int) + 1 - pu M z j) ≤ 9999 * 2000 := Int.mul_le_mul (by omega) (by omega) (by omega) (by omega)
      rw [if_pos (by rw [ii_lt (by omega) (by omega) (by omega) (by omega)]; omega), gkd_i (hM2.c hz).k, ii_sub, bAL_get_ok (hM2.c hz) (i := j) (by omega) (by omega), bd_some, gkd_i (hM2.p hz (k := j) (by omega)).1, gkd_i (hM2.c hz).k, bAL_get_ok (hM2.c hz) rfl hk, bd_some, gkd_i (hM2.p hz hk).1, (hM2.p hz (k := j) (by omega)).rd (a := 1) (i := 1) rfl (by omega), (hM2.p hz (k := j) (by omega)).rd (a := 1) (i := 1) rfl (by omega), (hM2.p hz hk).rd (a := 1) (i := 1) rfl (by omega), (hM2.p hz (k := j) (by omega)).rd (a := 0) (i := 0) rfl (by omega), (hM2.p hz hk).rd (a := 0) (i := 0) rfl (by omega), (hM2.p hz (k := j) (by omega)).rd (a := 0) (i := 0) rfl (by omega), show ptr M z j 1 = pp M z j from rfl, show ptr M z j 0 = pu M z j from rfl, show ptr M z (j + 1) 1 = pp M z (j + 1) from rfl, show ptr M z (j + 1) 0 = pu M z (j + 1) from rfl, ii_sub, dvz_ii (by omega) (by omega) (by omega), (hf.up0 _).wr hun, ii_sub, ii_add, ii_sub, ii_mul, ii_div c0 (by omega) (by omega) (by omega), ii_sub]
      unfold bX8_worths_j154
      rw [nm_eq, l1, ii_add]
      refine ih f (u + 1) _ (by omega) (by omega) (by omega) (hx2.up hq _ _) ((hf.up0 _).up ?_)
      rw [hwv]
      unfold seg
      rw [if_neg (by omega)]
      simp only [Nat.add_sub_cancel]
theorem wo47 {q n : Nat} (hM : MkR A0 dm0 J M) (hW : WF M) {z : Nat} (hz : z < zn M) (hq : A0.1 < q) (hn : (n : Int) = wan M z) :
    ∀ (d k f : Nat) (dm : DM), k + d = npt M z → d < f → Ext A0 dm0 A dm → Fil A dm q n (Xk M z k).toNat (wv M z) → Go (bX8_worths_l47 f (J (20 + z)) q (ii (Xk M z k)) (ii (k : Int)) A dm) prW A (fun y => y.1 = q ∧ y.2.1 = A ∧ Ext A0 dm0 A y.2.2 ∧ NR A y.2.2 q n (wv M z)) := by
  have hw := wwz hW.1 hz
  have hnp := npt_le hw
  have hXn : Xk M z (npt M z) = wan M z := by unfold Xk wan; rfl
  intro d
  induction d with
  | zero =>
    intro k f dm h1 h2 hx hf
    obtain ⟨f, rfl⟩ : ∃ g, f = g + 1 := ⟨f - 1, by omega⟩
    have hM1 := hM.ext hx
    have hk : k = npt M z := by omega
    subst hk
    rw [bX8_worths_l47, gkd_i (hM1.c hz).k, bAL_size_ok (hM1.c hz), bd_some, if_neg (by rw [ii_lt (by omega) (by omega) (by omega) (by omega)]; omega)]
    refine Go.mk (le2.rf _) ⟨rfl, rfl, hx, ?_⟩
    rw [hXn, ← hn, Int.toNat_natCast] at hf
    exact hf
  | succ d ih =>
    intro k f dm h1 h2 hx hf
    obtain ⟨f, rfl⟩ : ∃ g, f = g + 1 := ⟨f - 1, by omega⟩
    have hM1 := hM.ext hx
    have hk : k < npt M z := by omega
    have hp := hw.pt hk
    have hX0 : 0 ≤ Xk M z k ∧ Xk M z k ≤ pu M z k := by
      unfold Xk
      by_cases e : k = 0
      · subst e; rw [if_pos rfl]; omega
      · rw [if_neg e]
        have := hw.pt (k := k - 1) (by omega)
        have := (hw.mono (i := k - 1) (j := k) (by omega) hk).1
        omega
    have hXs : Xk M z (k + 1) = pu M z k := by unfold Xk; rw [if_neg (by omega)]; rfl
    rw [bX8_worths_l47, gkd_i (hM1.c hz).k, bAL_size_ok (hM1.c hz), bd_some, if_pos (by rw [ii_lt (by omega) (by omega) (by omega) (by omega)]; omega)]
    obtain ⟨u, hu⟩ := Int.eq_ofNat_of_zero_le hX0.1
    rw [hu] at hf ⊢
    rw [Int.toNat_natCast] at hf
    refine wo56 hM hW hz hq hn hk (fun dm' hx' hf' => ?_) (pu M z k - u).toNat FU u dm (by omega) (by have : FU = 20000 := rfl; omega) (by omega) hx hf
    have := ih (k + 1) f dm' (by omega) (by omega) hx' (by rw [hXs]; exact hf')
    rw [hXs] at this
    exact this
/-- what all units of a zone are worth -/
theorem worths_ok (hM : MkR A dm J M) (hW : WF M) {z : Nat} (hz : z < zn M) : Go (bX8_worths A dm (J 0) (ii (z : Int))) prW A (fun y => Ext A dm y.2.1 y.2.2 ∧ NR y.2.1 y.2.2 y.1 (wan M z).toNat (wv M z) ∧ cst A y.2.1 1 (wan M z) ∧ A.1 < y.1) := by
  have hw := wwz hW.1 hz
  have hwb := wan_le hw
  have hnp := npt_le hw
  unfold bX8_worths
  rw [gkd_i hM.o, gtr_i hM.f1, gkd_i hM.cl.k, bAL_get_ok hM.cl rfl hz, bd_some, gkd_i (hM.c hz).k, gkd_i (hM.c hz).k, bAL_isEmpty_ok (hM.c hz), bd_some, l0, l1]
  have go : Go (bX8_worths_j38 (J (20 + z)) (ii (wan M z)) A dm) prW A (fun y => Ext A dm y.2.1 y.2.2 ∧ NR y.2.1 y.2.2 y.1 (wan M z).toNat (wv M z) ∧ cst A y.2.1 1 (wan M z) ∧ A.1 < y.1) := by
    unfold bX8_worths_j38
    rw [gnn_i (by omega) (by omega), ii_tn (by omega) (by omega)]
    refine go_alc ?_
    have hX : Xk M z 0 = 0 := rfl
    have := wo47 (A := nw A 20 (wan M z).toNat (wan M z).toNat) (q := A.1 + 1) (n := (wan M z).toNat) hM hW hz (by omega) (by omega) (npt M z) 0 FU _ (by omega) (by have : FU = 20000 := rfl; omega) (ext_nw A dm 20 (wan M z).toNat (wan M z).toNat (fun _ => .int 0)) ⟨okd_nw _ _ _ _, ln_nw _ _ _ _, by omega, fun i hi => absurd hi (by rw [hX]; exact Nat.not_lt_zero i)⟩
    rw [hX] at this
    refine Go.imp this (fun y hy => ?_)
    obtain ⟨h1, h2, h3, h4⟩ := hy
    rw [h1, h2]
    exact ⟨h3, h4, (cst_nw A 20 _ _).mo (Int.le_refl _) (by omega), by omega⟩
  by_cases e : npt M z = 0
  · rw [if_pos e, if_neg (by decide)]
    have hw0 : wan M z = 0 := by unfold wan; rw [if_pos e]
    rw [hw0] at go ⊢
    exact go
  · have hw1 : wan M z = pu M z (npt M z - 1) := by unfold wan; rw [if_neg e]
    rw [if_neg e, if_pos rfl, gkd_i (hM.c hz).k, bAL_size_ok (hM.c hz), bd_some, gkd_i (hM.c hz).k, ii_sub, bAL_get_ok (hM.c hz) (i := npt M z - 1) (by omega) (by omega), bd_some, (hM.p hz (k := npt M z - 1) (by omega)).rd2 (a := 0) (i := 0) rfl (by omega), show ptr M z (npt M z - 1) 0 = pu M z (npt M z - 1) from rfl, ← hw1]
    exact go
/-! wants -/
theorem cnt_le (W : Int) : ∀ n : Nat, 0 ≤ W → sm n (fun i => if (i : Int) + 1 ≤ W then 1 else 0) = min (n : Int) W := by
  intro n hW
  induction n with
  | zero => rw [sm_0]; omega
  | succ n ih =>
    rw [sm_s, ih]
    by_cases h : (n : Int) + 1 ≤ W
    · rw [if_pos h]; omega
    · rw [if_neg h]; omega
abbrev prI : Int32 × AS × DM → AS := fun x => x.2.1
theorem wa17 {q n : Nat} {f : Nat → Int} (hf : NR A dm q n f) (hb : ∀ i, i < n → -2147483648 ≤ f i ∧ f i < 2147483648) (hn : n ≤ 10000) {p : Int} (h1 : -2147483648 ≤ p) (h2 : p < 2147483648) : ∀ (d i g : Nat), i + d = n → d < g → Go (bX8_wants_l17 g (ii p) (ii (sm i (fun j => if p ≤ f j then 1 else 0))) q (ii (n : Int)) (ii (i : Int)) A dm) prI A (fun y => y = (ii (sm n (fun j => if p ≤ f j then 1 else 0)), A, dm)) := by
  intro d
  induction d with
  | zero =>
    intro i g h3 h4
    obtain ⟨g, rfl⟩ : ∃ k, g = k + 1 := ⟨g - 1, by omega⟩
    have : i = n := by omega
    subst this
    rw [bX8_wants_l17, if_neg (by rw [ii_lt (by omega) (by omega) (by omega) (by omega)]; omega)]
    exact Go.mk (le2.rf _) rfl
  | succ d ih =>
    intro i g h3 h4
    obtain ⟨g, rfl⟩ : ∃ k, g = k + 1 := ⟨g - 1, by omega⟩
    have hi : i < n := by omega
    have hbi := hb i hi
    rw [bX8_wants_l17, if_pos (by rw [ii_lt (by omega) (by omega) (by omega) (by omega)]; omega), hf.rd rfl hi]
    have hs := sm_s i (fun j => if p ≤ f j then (1 : Int) else 0)
    have := ih (i + 1) g (by omega) (by omega)
    by_cases c : f i < p
    · rw [if_pos (by rw [ii_lt (by omega) (by omega) (by omega) (by omega)]; exact c)]
      unfold bX8_wants_j43
      rw [nm_eq, nm_eq, l0, l1, ii_add, ii_add]
      rw [hs, if_neg (by omega)] at this
      exact this
    · rw [if_neg (by rw [ii_lt (by omega) (by omega) (by omega) (by omega)]; exact c)]
      unfold bX8_wants_j43
      rw [nm_eq, nm_eq, l1, ii_add, ii_add]
      rw [hs, if_pos (by omega)] at this
      exact this
theorem wants_cnt {z : Nat} (hw : ZW M z) (p : Int) : sm (wan M z).toNat (fun j => if p ≤ wv M z j then 1 else 0) = Wt M z p := by
  have hb := Wt_bd hw p
  have hwb := wan_le hw
  rw [sm_congr (g := fun i => if (i : Int) + 1 ≤ Wt M z p then 1 else 0), cnt_le _ _ hb.1]
  · omega
  · intro i hi
    have h := Wt_iff hw (u := (i : Int) + 1) p (by omega) (by omega)
    show (if p ≤ wor M z ((i : Int) + 1) then (1 : Int) else 0) = _
    by_cases c : p ≤ wor M z ((i : Int) + 1)
    · rw [if_pos c, if_pos (h.mp c)]
    · rw [if_neg c, if_neg (fun q => c (h.mpr q))]
theorem wv_bd {z : Nat} (hw : ZW M z) {i : Nat} (hi : i < (wan M z).toNat) : 0 ≤ wv M z i ∧ wv M z i ≤ 9999 := by
  have hwb := wan_le hw
  have h := wor_bd hw (u := (i : Int) + 1) (by omega) (by omega)
  have hn : 0 < npt M z := by
    rcases Nat.eq_zero_or_pos (npt M z) with e | e
    · exfalso
      have : wan M z = 0 := by unfold wan; rw [if_pos e]
      omega
    · exact e
  have := hw.pt hn
  exact ⟨h.1, by have := h.2; show wor M z _ ≤ _; omega⟩
theorem wants_ok (hM : MkR A dm J M) (hW : WF M) {z : Nat} (hz : z < zn M) {p : Int} (h1 : -2147483648 ≤ p) (h2 : p < 2147483648) : Go (bX8_wants A dm (J 0) (ii (z : Int)) (ii p)) prI A (fun y => y.1 = ii (Wt M z p) ∧ Ext A dm y.2.1 y.2.2 ∧ cst A y.2.1 1 (wan M z)) := by
  have hw := wwz hW.1 hz
  have hwb := wan_le hw
  unfold bX8_wants
  rw [gkd_i hM.o]
  refine Go.call (worths_ok hM hW hz) (fun x hx _ => ?_)
  obtain ⟨g1, g2, g3, -⟩ := hx
  rw [gal_i (Or.inl g2.1), nm_eq, lenA_pos g2.1, g2.2.1, ii_nI, l0]
  have := wa17 g2 (fun i hi => by have := wv_bd hw hi; omega) (by omega) h1 h2 (wan M z).toNat 0 FU (by omega) (by have : FU = 20000 := rfl; omega)
  refine Go.imp this (fun y hy => ?_)
  subst hy
  exact ⟨by rw [wants_cnt hw], g1, g3⟩
/-! line -/
/-- its of a line, as the law reads it: 0 without units -/
def lj (M : WM) (r k : Nat) : Int := if k < stp M r then li M r k (flr M r) else 0
def lrw (M : WM) (r k i : Nat) : Int := if i = 0 then lu M r k else lj M r k
theorem rrw_e (M : WM) (r : Nat) : rrw M r 1 = M (80 + 13 * r) ∧ rrw M r 2 = M (81 + 13 * r) ∧ rrw M r 3 = M (82 + 13 * r) ∧ rrw M r 4 = M (83 + 13 * r) ∧ rrw M r 5 = M (84 + 13 * r) := ⟨congrArg M (by omega), congrArg M (by omega), congrArg M (by omega), congrArg M (by omega), congrArg M (by omega)⟩
theorem rrw_c {r : Nat} (hw : RW M r) : (0 ≤ rrw M r 0 ∧ rrw M r 0 < M 0) ∧ (1 ≤ rrw M r 1 ∧ rrw M r 1 ≤ 500) ∧ (0 ≤ rrw M r 2 ∧ rrw M r 2 ≤ 3) ∧ (0 ≤ rrw M r 3 ∧ rrw M r 3 ≤ 5) ∧ (0 ≤ rrw M r 4 ∧ rrw M r 4 ≤ 1) ∧ (0 ≤ rrw M r 5 ∧ rrw M r 5 ≤ 1) := by
  obtain ⟨e1, e2, e3, e4, e5⟩ := rrw_e M r
  rw [e1, e2, e3, e4, e5]
  exact ⟨hw.1, hw.2.1, hw.2.2.1, hw.2.2.2.1, hw.2.2.2.2.1, hw.2.2.2.2.2.1⟩
theorem sp_bd {r : Nat} (hw : RW M r) {k : Nat} (hk : k < stp M r) : 0 ≤ sp M r k ∧ sp M r k ≤ 9999 := ⟨(hw.2.2.2.2.2.2.2 k hk).2.2.1, (hw.2.2.2.2.2.2.2 k hk).2.2.2⟩
theorem li113 {q v w : Int} {qq : Nat} (h : NR A dm qq 2 (fun i => if i = 0 then q else w)) : bX8_line_j113 (ii v) (ii 1) qq qq A dm = some (qq, A, up3 dm qq 1 (.int (ii v))) := by
  unfold bX8_line_j113
  rw [h.wr (a := 1) (i := 1) rfl (by omega)]
theorem li184 {v : Int} {qq : Nat} (h : NR A dm qq 2 (fun _ => 0)) : bX8_line_j184 (ii v) (ii 0) qq qq A dm = some (qq, A, up3 (up3 dm qq 0 (.int (ii v))) qq 1 (.int (ii 0))) := by
  unfold bX8_line_j184
  rw [h.wr (a := 0) (i := 0) rfl (by omega), l1, l0, (h.up 0 v).wr (a := 1) (i := 1) rfl (by omega)]
theorem NR2 {q : Nat} {a b : Int} {f g : Nat → Int} (h : NR A dm q 2 f) (ha : f 0 = g 0) (hb : f 1 = g 1) : NR A dm q 2 g :=
  ⟨h.1, h.2.1, h.2.2.1, fun i hi => by
    rw [h.2.2.2 i hi]
    rcases (show i = 0 ∨ i = 1 by omega) with rfl | rfl
    · rw [ha]
    · rw [hb]⟩
theorem NR_new (A : AS) (dm : DM) (n : Nat) (hn : n < 2147483648) : NR (nw A 20 n n) (nwm A dm (fun _ => .int 0)) (A.1 + 1) n (fun _ => 0) :=
  ⟨okd_nw _ _ _ _, ln_nw _ _ _ _, hn, fun i _ => by rw [nwm_s]; rfl⟩
theorem NR_new0 (A : AS) (dm : DM) (n : Nat) (hn : n < 2147483648) : NR (nw A 20 n n) (nwm A dm (fun _ => .int (ii 0))) (A.1 + 1) n (fun _ => 0) :=
  ⟨okd_nw _ _ _ _, ln_nw _ _ _ _, hn, fun i _ => by rw [nwm_s]⟩
theorem ln71 (hM : MkR A dm J M) (hW : WF M) {r k : Nat} (hr : r < rn M) (hk : k < stp M r) {v : Int} (hv : v = lif M r k (flr M r)) : Go (bX8_line_j71 (J 0) (ii (k : Int)) (J (40 + r)) (J (50 + r)) (ii v) A dm) prW A (fun y => Ext A dm y.2.1 y.2.2 ∧ NR y.2.1 y.2.2 y.1 2 (lrw M r k) ∧ cst A y.2.1 1 2 ∧ A.1 < y.1) := by
  have hw := wwr hW.1 hr
  have hc := rrw_c hw
  have hst := stp_le hw
  have hce := hW.1.ce
  have hfl : 0 ≤ flr M r ∧ flr M r ≤ 9999 := by
    have h3 := hw.2.2.1
    unfold flr
    exact hW.1.fl (by omega)
  have hsp := hw.2.2.2.2.2.2.2
  unfold bX8_line_j71
  rw [l2, gnn_i (by omega) (by omega), show (ii 2).toNatClampNeg = 2 by decide]
  refine go_alc ?_
  have hx := ext_nw A dm 20 2 2 (fun _ => .int 0)
  have hM1 := hM.ext hx
  have hnr := NR_new A dm 2 (by decide)
  have hx2 := hx.up (c := A.1 + 1) (by omega) 0 (.int (ii (str M r k 0)))
  have hM2 := hM.ext hx2
  generalize hmN : nwm A dm (fun _ => Value.int 0) = mN at hx hM1 hnr hx2 hM2 ⊢
  rw [gkd_i (hM1.s hr).k, bAL_get_ok (hM1.s hr) rfl hk, bd_some, l0, (hM1.t hr hk).rd2 (a := 0) (i := 0) rfl (by omega), hnr.wr (a := 0) (i := 0) rfl (by omega), l4, (hM2.r hr).rd (a := 4) (i := 4) rfl (by omega), l1]
  have hvb : -2147483648 ≤ v ∧ v < 2147483648 := by
    have := li_bd2 hW.1 hw (k := k) hfl (Or.inr hk)
    unfold li at this
    rw [if_neg (by omega)] at this
    have hs := sp_bd hw hk
    rw [hv]
    unfold lif
    by_cases c : M (84 + 13 * r) = 0
    · rw [if_pos c]; omega
    · rw [if_neg c]; omega
  have hfin : ∀ w : Int, w = li M r k (flr M r) → Go (bX8_line_j113 (ii w) (ii 1) (A.1 + 1) (A.1 + 1) (nw A 20 2 2) (up3 mN (A.1 + 1) 0 (.int (ii (str M r k 0))))) prW (nw A 20 2 2) (fun y => Ext A dm y.2.1 y.2.2 ∧ NR y.2.1 y.2.2 y.1 2 (lrw M r k) ∧ cst A y.2.1 1 2 ∧ A.1 < y.1) := by
    intro w hwv
    rw [li113 (q := str M r k 0) (w := 0) (NR2 (a := 0) (b := 0) (hnr.up 0 (str M r k 0)) rfl rfl)]
    refine Go.mk (le2.rf _) ⟨hx2.up (by omega) _ _, ?_, (cst_nw A 20 2 2), by omega⟩
    refine NR2 (a := 0) (b := 0) ((hnr.up 0 (str M r k 0)).up 1 w) ?_ ?_
    · show str M r k 0 = lu M r k
      unfold lu
      rw [if_neg (by omega), if_pos hk]
      rfl
    · show w = lj M r k
      unfold lj
      rw [if_pos hk, hwv]
  have e4 : rrw M r 4 = M (83 + 13 * r) := congrArg M (by omega)
  by_cases c : M (83 + 13 * r) = 1
  · rw [if_pos (by rw [e4, c]), gkd_i hM2.o, gti_i hM2.f5, nm_eq, mni_ii hvb.1 hvb.2 (by omega) (by omega)]
    refine hfin _ ?_
    unfold li
    rw [if_neg (by omega), if_pos c, hv]
  · rw [if_neg (by rw [e4, ii_eq (by omega) (by omega) (by omega) (by omega)]; exact c)]
    refine hfin _ ?_
    unfold li
    rw [if_neg (by omega), if_neg c, hv]
theorem ln127 (hW : WF M) {r k : Nat} (hr : r < rn M) (hk : ¬ k < stp M r) (hk4 : k < 4) (hM : MkR A0 dm0 J M) {it : Nat} (hit : A0.1 < it) (hA : A = nw A0 10 0 4) : ∀ (d i f : Nat) (dm : DM), i + d = stp M r → d < f → Ext A0 dm0 A dm → ITR A dm it (J (50 + r)) i → Go (bX8_line_l127 f (ii (k : Int)) (J (40 + r)) (ii (rrw M r 1 - sm i (su M r))) it A dm) prW A (fun y => Ext A0 dm0 y.2.1 y.2.2 ∧ NR y.2.1 y.2.2 y.1 2 (lrw M r k) ∧ cst A0 y.2.1 2 6 ∧ A0.1 < y.1) := by
  have hw := wwr hW.1 hr
  have hc := rrw_c hw
  have hst := stp_le hw
  intro d
  induction d with
  | zero =>
    intro i f dm h1 h2 hx hi
    obtain ⟨f, rfl⟩ : ∃ g, f = g + 1 := ⟨f - 1, by omega⟩
    have hM1 := hM.ext hx
    have e : i = stp M r := by omega
    subst e
    have hrs : rrw M r 1 - sm (stp M r) (su M r) = rest M r := by unfold rest rrw; congr 2; omega
    rw [bX8_line_l127, gkd_i hi.1, bIT_hasNext_ok (hM1.s hr) hi (Nat.le_refl _), bd_some, if_pos rfl, l0, if_pos rfl, l2, gnn_i (by omega) (by omega), show (ii 2).toNatClampNeg = 2 by decide]
    refine go_alc ?_
    have hx1 := ext_nw A dm 20 2 2 (fun _ => .int (ii 0))
    have hx2 := hx.tr hx1
    have hM2 := hM.ext hx2
    have hnr := NR_new0 A dm 2 (by decide)
    generalize hmN : nwm A dm (fun _ => Value.int (ii 0)) = mN at hx1 hx2 hM2 hnr ⊢
    have hAl : A.1 = A0.1 + 1 := by rw [hA]; rfl
    have hfin : ∀ w : Int, w = lu M r k → Go (bX8_line_j184 (ii w) (ii 0) (A.1 + 1) (A.1 + 1) (nw A 20 2 2) mN) prW (nw A 20 2 2) (fun y => Ext A0 dm0 y.2.1 y.2.2 ∧ NR y.2.1 y.2.2 y.1 2 (lrw M r k) ∧ cst A0 y.2.1 2 6 ∧ A0.1 < y.1) := by
      intro w hwv
      rw [li184 hnr]
      refine Go.mk (le2.rf _) ⟨(hx2.up (by omega) _ _).up (by omega) _ _, ?_, ?_, by omega⟩
      · refine NR2 (a := 0) (b := 0) ((hnr.up 0 w).up 1 0) ?_ ?_
        · show w = lu M r k
          exact hwv
        · show (0 : Int) = lj M r k
          unfold lj
          rw [if_neg hk]
      · have h1 := cst_nw A0 10 0 4
        rw [← hA] at h1
        exact (h1.tr (cst_nw A 20 2 2)).mo (by omega) (by omega)
    have e4 : rrw M r 4 = M (83 + 13 * r) := congrArg M (by omega)
    rw [l3, ifeq (by omega) (by omega) (by omega) (by omega)]
    by_cases c3 : (k : Int) = 3
    · rw [if_pos c3, l4, (hM2.r hr).rd (a := 4) (i := 4) rfl (by omega), l1, ifeq (by omega) (by omega) (by omega) (by omega), e4]
      have hk3 : k = 3 := by omega
      by_cases c : M (83 + 13 * r) = 1
      · rw [if_pos c, hrs]
        refine hfin _ ?_
        unfold lu
        rw [if_pos hk3, if_pos c]
      · rw [if_neg c]
        unfold bX8_line_j183
        rw [l0]
        refine hfin _ ?_
        unfold lu
        rw [if_pos hk3, if_neg c]
    · rw [if_neg c3]
      unfold bX8_line_j183
      rw [l0]
      refine hfin _ ?_
      unfold lu
      rw [if_neg (by omega), if_neg hk]
  | succ d ih =>
    intro i f dm h1 h2 hx hi
    obtain ⟨f, rfl⟩ : ∃ g, f = g + 1 := ⟨f - 1, by omega⟩
    have hM1 := hM.ext hx
    have hin : i < stp M r := by omega
    have hne : it ≠ J (50 + r) := by have := (hM.s hr).1.1.2; omega
    have hne2 : it ≠ J (1000 + (50 + r)) := by have := ((hM.s hr).dk (by omega)).1.1.2; omega
    obtain ⟨m', e1, e2, e3⟩ := bIT_next_ok (hM1.s hr) hi hin hne hne2
    have hx2 : Ext A0 dm0 A m' := ⟨hx.1, hx.2.1, fun c hc => ⟨(hx.2.2 c hc).1, (e2 c (by omega)).trans (hx.2.2 c hc).2⟩⟩
    have hM2 := hM.ext hx2
    rw [bX8_line_l127, gkd_i hi.1, bIT_hasNext_ok (hM1.s hr) hi (by omega), bd_some, if_neg (show ¬ i = stp M r by omega), l0, if_neg (by decide), gkd_i hi.1, e1, bd_some]
    dsimp only
    rw [(hM2.t hr hin).rd2 (a := 0) (i := 0) rfl (by omega), nm_eq, ii_sub, show str M r i 0 = su M r i from rfl, show rrw M r 1 - sm i (su M r) - su M r i = rrw M r 1 - sm (i + 1) (su M r) by rw [sm_s]; omega]
    exact ih (i + 1) f m' (by omega) (by omega) hx2 e3
/-- units and its of a line -/
theorem line_ok (hM : MkR A dm J M) (hW : WF M) {r k : Nat} (hr : r < rn M) (hk : k < 4) : Go (bX8_line A dm (J 0) (ii (r : Int)) (ii (k : Int))) prW A (fun y => Ext A dm y.2.1 y.2.2 ∧ NR y.2.1 y.2.2 y.1 2 (lrw M r k) ∧ cst A y.2.1 2 6 ∧ A.1 < y.1) := by
  have hw := wwr hW.1 hr
  have hc := rrw_c hw
  have hst := stp_le hw
  unfold bX8_line
  rw [gkd_i hM.o, gtr_i hM.f2, gkd_i hM.rl.k, bAL_get_ok hM.rl rfl hr, bd_some, gkd_i (hM.r hr).1, gkd_i hM.o, gtr_i hM.f3, gkd_i hM.sl.k, bAL_get_ok hM.sl rfl hr, bd_some, gkd_i (hM.s hr).k, gkd_i (hM.s hr).k, bAL_size_ok (hM.s hr), bd_some, iflt (by omega) (by omega) (by omega) (by omega)]
  by_cases c : k < stp M r
  · have hs := sp_bd hw c
    rw [if_pos (by omega), gkd_i (hM.s hr).k, bAL_get_ok (hM.s hr) rfl c, bd_some, l1, (hM.t hr c).rd2 (a := 1) (i := 1) rfl (by omega), l5, (hM.r hr).rd (a := 5) (i := 5) rfl (by omega), l0, ifeq (by omega) (by omega) (by omega) (by omega), show str M r k 1 = sp M r k from rfl]
    have e5 : rrw M r 5 = M (84 + 13 * r) := congrArg M (by omega)
    have e2 : rrw M r 2 = M (81 + 13 * r) := congrArg M (by omega)
    by_cases c5 : rrw M r 5 = 0
    · have hf : M (3 + (rrw M r 2).toNat) = flr M r := by
        rw [e2]
        rfl
      have hfb := hW.1.fl (k := (rrw M r 2).toNat) (by omega)
      rw [hf] at hfb
      rw [if_pos c5, gkd_i hM.o, gtr_i hM.f4, l2, (hM.r hr).rd (a := 2) (i := 2) rfl (by omega), hM.fr.rd (i := (rrw M r 2).toNat) (by omega) (by omega), hf, nm_eq, mxi_ii (by omega) (by omega) (by omega) (by omega)]
      exact Go.imp (ln71 hM hW hr c (by unfold lif; rw [if_pos (by omega)])) (fun y hy => ⟨hy.1, hy.2.1, hy.2.2.1.mo (by omega) (by omega), hy.2.2.2⟩)
    · rw [if_neg c5]
      exact Go.imp (ln71 hM hW hr c (by unfold lif; rw [if_neg (by omega)])) (fun y hy => ⟨hy.1, hy.2.1, hy.2.2.1.mo (by omega) (by omega), hy.2.2.2⟩)
  · rw [if_neg (by omega), l1, (hM.r hr).rd (a := 1) (i := 1) rfl (by omega), gkd_i (hM.s hr).k]
    obtain ⟨m', e1, e2, e3⟩ := bAL_iterator_ok (hM.s hr)
    refine Go.call (Q := fun x => x = (A.1 + 1, nw A 10 0 4, m')) ⟨_, e1, le2_nw _ _ _ _, rfl⟩ (fun x hx _ => ?_)
    subst hx
    have := ln127 hW hr c hk hM (it := A.1 + 1) (by omega) rfl (stp M r) 0 FU m' (by omega) (by have : FU = 20000 := rfl; omega) e2 e3
    rw [sm_0, Int.sub_zero] at this
    exact this
/-! cut -/
theorem cut_ok (hM : MkR A dm J M) (hW : WF M) {z : Nat} (hz : z < zn M) {v : Int} (h1 : -2147483648 ≤ v) (h2 : v < 2147483648) : bX8_cut A dm (J 0) (ii (z : Int)) (ii v) = some (ii (cu (Dc M) z v)) := by
  have hw := wwz hW.1 hz
  have hb1 := hw.2.1
  have hb2 := hw.2.2.1
  unfold bX8_cut
  rw [gkd_i hM.o, gtr_i hM.f0, gkd_i hM.zl.k, bAL_get_ok hM.zl rfl hz, bd_some, l1, (hM.z hz).rd2 (a := 1) (i := 1) rfl (by omega), gkd_i hM.o, gtr_i hM.f0, gkd_i hM.zl.k, bAL_get_ok hM.zl rfl hz, bd_some, l2, (hM.z hz).rd2 (a := 2) (i := 2) rfl (by omega), nm_eq, show zrw M z 1 = M (8 + 12 * z) from rfl, show zrw M z 2 = M (9 + 12 * z) from rfl, mni_ii (by omega) (by omega) h1 h2, nm_eq, ii_neg, mxi_ii (by omega) (by omega) (by omega) (by omega)]
  rfl
end
