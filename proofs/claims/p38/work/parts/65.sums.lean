/-! clearing: all of it; what is taken, what is left over -/
/-- nothing of what was there has changed, but objects of a kind -/
def ExtK (k : Nat) (A : AS) (dm : DM) (A' : AS) (dm' : DM) : Prop := le2 A A' ∧ A'.2.2.2 = A.2.2.2 ∧ ∀ c, c ≤ A.1 → A'.2.2.1 c = A.2.2.1 c ∧ ((A.2.2.1 c).1 ≠ k → dm' c = dm c)
section
variable {A A1 A2 A0 : AS} {dm m1 m2 m0 : DM} {J : Nat → Nat} {M : WM} {kk : Nat}
theorem ExtK.rf (A : AS) (dm : DM) : ExtK kk A dm A dm := ⟨le2.rf A, rfl, fun _ _ => ⟨rfl, fun _ => rfl⟩⟩
theorem ExtK.tr (h : ExtK kk A dm A1 m1) (k : ExtK kk A1 m1 A2 m2) : ExtK kk A dm A2 m2 :=
  ⟨h.1.tr k.1, k.2.1.trans h.2.1, fun c hc => ⟨(k.2.2 c (Nat.le_trans hc h.1.1)).1.trans (h.2.2 c hc).1, fun e => ((k.2.2 c (Nat.le_trans hc h.1.1)).2 (by rw [(h.2.2 c hc).1]; exact e)).trans ((h.2.2 c hc).2 e)⟩⟩
theorem Ext.k (h : Ext A dm A1 m1) : ExtK kk A dm A1 m1 := ⟨h.1, h.2.1, fun c hc => ⟨(h.2.2 c hc).1, fun _ => (h.2.2 c hc).2⟩⟩
theorem ExtK.kd (h : ExtK kk A dm A1 m1) {c k : Nat} (hk : okd A c k) : okd A1 c k := ⟨⟨hk.1.1, Nat.le_trans hk.1.2 h.1.1⟩, by rw [(h.2.2 c hk.1.2).1]; exact hk.2⟩
theorem ExtK.ln (h : ExtK kk A dm A1 m1) {c k : Nat} (hk : okd A c k) : (A1.2.2.1 c).2 = (A.2.2.1 c).2 := by rw [(h.2.2 c hk.1.2).1]
theorem ExtK.v (h : ExtK kk A dm A1 m1) {c k : Nat} (hk : okd A c k) (e : k ≠ kk) (i : Nat) : m1 c i = dm c i := by rw [(h.2.2 c hk.1.2).2 (by rw [hk.2]; exact e)]
theorem NR.ek {q n : Nat} {f : Nat → Int} (h : NR A dm q n f) (hx : ExtK kk A dm A1 m1) (e : 20 ≠ kk) : NR A1 m1 q n f :=
  ⟨hx.kd h.1, (hx.ln h.1).trans h.2.1, h.2.2.1, fun i hi => (hx.v h.1 e i).trans (h.2.2.2 i hi)⟩
theorem LiR.ek {q d n : Nat} {e : Nat → Nat} (h : LiR A dm q d n e) (hx : ExtK kk A dm A1 m1) (e9 : 9 ≠ kk) (e21 : 21 ≠ kk) : LiR A1 m1 q d n e := by
  obtain ⟨h1, h2, h3, h4, h5, h6, h7⟩ := h
  refine ⟨hx.kd h1, h2, (hx.v h1 e9 2).trans h3, by rw [hx.v h1 e9 0]; exact h4, (hx.v h1 e9 1).trans h5, ?_, fun i hi => ?_⟩
  · rcases h6 with h6 | h6
    · exact Or.inl h6
    · exact Or.inr ⟨hx.kd h6.1, (hx.ln h6.1).trans h6.2⟩
  · rcases h6 with h6 | h6
    · omega
    · exact (hx.v h6.1 e21 i).trans (h7 i hi)
theorem MkR.k7 (h : MkR A dm J M) (hx : ExtK 7 A dm A1 m1) : MkR A1 m1 J M := by
  have hv : ∀ i, m1 (J 0) i = dm (J 0) i := fun i => hx.v h.o (by decide) i
  exact ⟨hx.kd h.o, ⟨(hv 0).trans h.f0, (hv 1).trans h.f1, (hv 2).trans h.f2, (hv 3).trans h.f3, (hv 4).trans h.f4⟩, (hv 5).trans h.f5, ⟨h.zl.ek hx (by decide) (by decide), h.cl.ek hx (by decide) (by decide), h.rl.ek hx (by decide) (by decide), h.sl.ek hx (by decide) (by decide)⟩, h.fr.ek hx (by decide), fun z hz => ⟨(h.z hz).ek hx (by decide), (h.c hz).ek hx (by decide) (by decide), fun k hk => (h.p hz hk).ek hx (by decide)⟩, fun r hr => ⟨(h.r hr).ek hx (by decide), (h.s hr).ek hx (by decide) (by decide), fun k hk => (h.t hr hk).ek hx (by decide)⟩⟩
theorem MkR.o9 (h : MkR A dm J M) (hx : ExtK 8 A dm A m1) (hv : ∀ i, i ≤ 5 → m1 (J 0) i = dm (J 0) i) : MkR A m1 J M := by
  exact ⟨h.o, ⟨(hv 0 (by omega)).trans h.f0, (hv 1 (by omega)).trans h.f1, (hv 2 (by omega)).trans h.f2, (hv 3 (by omega)).trans h.f3, (hv 4 (by omega)).trans h.f4⟩, (hv 5 (by omega)).trans h.f5, ⟨h.zl.ek hx (by decide) (by decide), h.cl.ek hx (by decide) (by decide), h.rl.ek hx (by decide) (by decide), h.sl.ek hx (by decide) (by decide)⟩, h.fr.ek hx (by decide), fun z hz => ⟨(h.z hz).ek hx (by decide), (h.c hz).ek hx (by decide) (by decide), fun k hk => (h.p hz hk).ek hx (by decide)⟩, fun r hr => ⟨(h.r hr).ek hx (by decide), (h.s hr).ek hx (by decide) (by decide), fun k hk => (h.t hr hk).ek hx (by decide)⟩⟩
theorem up3_cg {a c i : Nat} {v : Value} (h : m1 c = m2 c) : up3 m1 a i v c = up3 m2 a i v c := by
  funext j
  unfold up3
  rw [h]
theorem Ext.up2 (h : Ext A dm A1 m1) (a i : Nat) (v : Value) : Ext A (up3 dm a i v) A1 (up3 m1 a i v) := ⟨h.1, h.2.1, fun c hc => ⟨(h.2.2 c hc).1, up3_cg (h.2.2 c hc).2⟩⟩
theorem ExtK.up {a k : Nat} (ha : okd A a kk) (h : ExtK kk A dm A m1) (i : Nat) (v : Value) : ExtK kk A dm A (up3 m1 a i v) :=
  ⟨h.1, h.2.1, fun c hc => ⟨(h.2.2 c hc).1, fun e => (up3_ne (fun q => e (by rw [q]; exact ha.2))).trans ((h.2.2 c hc).2 e)⟩⟩
theorem ne_k {q a k k' : Nat} (h : okd A q k) (h' : okd A a k') (e : k ≠ k') : q ≠ a := by
  intro e9
  subst e9
  exact e (h.2.symm.trans h'.2)
theorem grd_rows (A : AS) (dm : DM) (N : Nat) : ∀ j, Ext A dm (grd A dm N j).1 (grd A dm N j).2 ∧ (okd (grd A dm N j).1 (A.1 + 1) 22 ∧ ((grd A dm N j).1.2.2.1 (A.1 + 1)).2 = N ∧ ∀ r, r < N → (grd A dm N j).2 (A.1 + 1) r = .ref (A.1 + 2 + r)) ∧ ∀ r, r < j → NR (grd A dm N j).1 (grd A dm N j).2 (A.1 + 2 + r) 4 (fun _ => 0) := by
  intro j
  induction j with
  | zero =>
    refine ⟨ext_nw A dm 22 N N _, ⟨okd_nw _ _ _ _, ln_nw _ _ _ _, fun r hr => ?_⟩, fun r hr => absurd hr (by omega)⟩
    show nwm A dm (fun i => if i < N then Value.ref (A.1 + 2 + i) else Value.null) (A.1 + 1) r = _
    rw [nwm_s]
    exact if_pos hr
  | succ j ih =>
    obtain ⟨i1, ⟨i2, i3, i4⟩, i5⟩ := ih
    have x := ext_nw (grd A dm N j).1 (grd A dm N j).2 20 4 4 (fun _ => .int 0)
    have hs := (grd_sz A dm N j).1
    refine ⟨i1.tr x, ⟨x.kd i2, (x.ln i2).trans i3, fun r hr => (x.v i2 r).trans (i4 r hr)⟩, fun r hr => ?_⟩
    by_cases e : r < j
    · exact (i5 r e).ext x
    · have e2 : A.1 + 2 + r = (grd A dm N j).1.1 + 1 := by omega
      rw [e2]
      exact NR_new _ _ 4 (by decide)
theorem gclear_ok (hM : MkR A dm J M) (hW : WF M) (hs : Sml M) : Go (bX8_clear A dm (J 0)) prW A (fun y => y.1 = J 0 ∧ MkR y.2.1 y.2.2 J M ∧ CLR y.2.1 y.2.2 (J 0) A.1 M ∧ ExtK 8 A dm y.2.1 y.2.2 ∧ cst A y.2.1 5184 141057) := by
  have hzb := hW.1.zn
  have hzc := zn_c hW.1
  have hrb := hW.1.rn
  have hrc := rn_c hW.1
  have h5 := hs.1
  have h6 := hs.2.1
  have ho := hM.o
  have hq : ∀ {c}, A.1 < c → c ≠ J 0 := fun h => by have := ho.1.2; omega
  unfold bX8_clear
  rw [gkd_i hM.o, gtr_i hM.f0, gkd_i hM.zl.k, bAL_size_ok hM.zl, bd_some, gnn_i (by omega) (by omega), tn_i (by omega)]
  refine go_alc ?_
  have x1 := ext_nw A dm 20 (zn M) (zn M) (fun _ => .int 0)
  have r1 := NR_new A dm (zn M) (by omega)
  have c1 := cst_nw A 20 (zn M) (zn M)
  have s1 : (nw A 20 (zn M) (zn M)).1 = A.1 + 1 := rfl
  generalize nw A 20 (zn M) (zn M) = A1 at x1 r1 c1 s1 ⊢
  generalize nwm A dm (fun _ => Value.int 0) = m1 at x1 r1 ⊢
  rw [gkd_i (x1.kd ho), nm_eq, gnn_i (by omega) (by omega)]
  have x1 := x1.up2 (J 0) 6 (.ref (A.1 + 1))
  have r1 := r1.ne (c := J 0) (i := 6) (v := .ref (A.1 + 1)) (hq (by omega))
  generalize up3 m1 (J 0) 6 (.ref (A.1 + 1)) = m1 at x1 r1 ⊢
  refine go_alc ?_
  have x2 := ext_nw A1 m1 20 (zn M) (zn M) (fun _ => .int 0)
  have r2 := NR_new A1 m1 (zn M) (by omega)
  have c2 := cst_nw A1 20 (zn M) (zn M)
  have s2 : (nw A1 20 (zn M) (zn M)).1 = A1.1 + 1 := rfl
  generalize nw A1 20 (zn M) (zn M) = A2 at x2 r2 c2 s2 ⊢
  generalize nwm A1 m1 (fun _ => Value.int 0) = m2 at x2 r2 ⊢
  rw [gkd_i (x2.kd (x1.kd ho)), nm_eq, gnn_i (by omega) (by omega)]
  have r1 := (r1.ext x2).ne (c := J 0) (i := 7) (v := .ref (A1.1 + 1)) (hq (by omega))
  have x2 := (x1.tr x2).up2 (J 0) 7 (.ref (A1.1 + 1))
  have r2 := r2.ne (c := J 0) (i := 7) (v := .ref (A1.1 + 1)) (hq (by omega))
  generalize up3 m2 (J 0) 7 (.ref (A1.1 + 1)) = m2 at x2 r1 r2 ⊢
  refine go_alc ?_
  have x3 := ext_nw A2 m2 20 (zn M) (zn M) (fun _ => .int 0)
  have r3 := NR_new A2 m2 (zn M) (by omega)
  have c3 := cst_nw A2 20 (zn M) (zn M)
  have s3 : (nw A2 20 (zn M) (zn M)).1 = A2.1 + 1 := rfl
  generalize nw A2 20 (zn M) (zn M) = A3 at x3 r3 c3 s3 ⊢
  generalize nwm A2 m2 (fun _ => Value.int 0) = m3 at x3 r3 ⊢
  have r1 := (r1.ext x3).ne (c := J 0) (i := 8) (v := .ref (A2.1 + 1)) (hq (by omega))
  have r2 := (r2.ext x3).ne (c := J 0) (i := 8) (v := .ref (A2.1 + 1)) (hq (by omega))
  have r3 := r3.ne (c := J 0) (i := 8) (v := .ref (A2.1 + 1)) (hq (by omega))
  have x3 := (x2.tr x3).up2 (J 0) 8 (.ref (A2.1 + 1))
  rw [gkd_i (x3.kd ho), nm_eq]
  generalize up3 m3 (J 0) 8 (.ref (A2.1 + 1)) = m3 at x3 r1 r2 r3 ⊢
  have k1 := (((ExtK.rf A dm).up (k := 0) ho 6 (.ref (A.1 + 1))).up (k := 0) ho 7 (.ref (A1.1 + 1))).up (k := 0) ho 8 (.ref (A2.1 + 1))
  have hv1 : ∀ i, i ≤ 5 → up3 (up3 (up3 dm (J 0) 6 (.ref (A.1 + 1))) (J 0) 7 (.ref (A1.1 + 1))) (J 0) 8 (.ref (A2.1 + 1)) (J 0) i = dm (J 0) i := fun i hi => by rw [up3_k (by omega), up3_k (by omega), up3_k (by omega)]
  have hM3 := (hM.o9 k1 hv1).ext x3
  rw [gkd_i (x3.kd ho), gtr_i hM3.f2, gkd_i hM3.rl.k, bAL_size_ok hM3.rl, bd_some, gnn_i (by omega) (by omega), tn_i (by omega)]
  refine go_alg ?_
  obtain ⟨x4, r4, r5⟩ := grd_rows A3 m3 (rn M) (rn M)
  have s4 := grd_sz A3 m3 (rn M) (rn M)
  generalize grd A3 m3 (rn M) (rn M) = G at x4 r4 r5 s4 ⊢
  obtain ⟨A4, m4⟩ := G
  have x4 : Ext A3 m3 A4 m4 := x4
  have r4 : okd A4 (A3.1 + 1) 22 ∧ (A4.2.2.1 (A3.1 + 1)).2 = rn M ∧ ∀ r, r < rn M → m4 (A3.1 + 1) r = .ref (A3.1 + 2 + r) := r4
  have r5 : ∀ r, r < rn M → NR A4 m4 (A3.1 + 2 + r) 4 (fun _ => 0) := r5
  have s4 : A4.1 = A3.1 + (1 + rn M) ∧ A4.2.1 = A3.2.1 + (rn M + rn M * 4) ∧ A4.2.2.2 = A3.2.2.2 := s4
  show Go (gkd A4 (J 0) 8 (nm (up3 m4 (J 0) 9 (.ref (A3.1 + 1))) (fun m20 => bX8_clear_l47 FU (J 0) (ii (zn M : Int)) (0 : Int32) A4 m20))) prW A4 _
  have r1 := (r1.ext x4).ne (c := J 0) (i := 9) (v := .ref (A3.1 + 1)) (hq (by omega))
  have r2 := (r2.ext x4).ne (c := J 0) (i := 9) (v := .ref (A3.1 + 1)) (hq (by omega))
  have r3 := (r3.ext x4).ne (c := J 0) (i := 9) (v := .ref (A3.1 + 1)) (hq (by omega))
  have x5 := (x3.tr x4).up2 (J 0) 9 (.ref (A3.1 + 1))
  have k2 := k1.up (k := 0) ho 9 (.ref (A3.1 + 1))
  rw [gkd_i (x5.kd ho), nm_eq, show (0 : Int32) = ii ((0 : Nat) : Int) by decide]
  have hM0 := hM.o9 k2 (fun i hi => by rw [up3_k (by omega)]; exact hv1 i hi)
  have hF0 : FD A.1 (up3 (up3 (up3 (up3 dm (J 0) 6 (.ref (A.1 + 1))) (J 0) 7 (.ref (A1.1 + 1))) (J 0) 8 (.ref (A2.1 + 1))) (J 0) 9 (.ref (A3.1 + 1))) (J 0) := by
    refine ⟨?_, ?_, ?_, ?_⟩
    · rw [up3_k (by omega), up3_k (by omega), up3_k (by omega), up3_s]
    · rw [up3_k (by omega), up3_k (by omega), up3_s, s1]
    · rw [up3_k (by omega), up3_s, s2, s1]
    · rw [up3_s, s3, s2, s1]
  have hCS : CS A.1 A4 (up3 m4 (J 0) 9 (.ref (A3.1 + 1))) (zn M) (rn M) (fun _ => 0) (fun _ => 0) (fun _ => 0) (fun _ _ => 0) := by
    refine ⟨r1, ?_, ?_, ?_, ?_⟩
    · rw [show A.1 + 2 = A1.1 + 1 by omega]
      exact r2
    · rw [show A.1 + 3 = A2.1 + 1 by omega]
      exact r3
    · rw [show A.1 + 4 = A3.1 + 1 by omega]
      refine ⟨r4.1, r4.2.1, fun r hr => ?_⟩
      rw [up3_c (hq (by omega)), r4.2.2 r hr, show A3.1 + 2 + r = A.1 + 5 + r by omega]
    · intro r hr
      have := (r5 r hr).ne (c := J 0) (i := 9) (v := .ref (A3.1 + 1)) (hq (by omega))
      rw [show A3.1 + 2 + r = A.1 + 5 + r by omega] at this
      exact this
  have hc4 : cst A A4 10 45 := ⟨by omega, by have a1 := c1.2; have a2 := c2.2; have a3 := c3.2; omega⟩
  have hN0 : Nz (Dc M) 0 = 0 := (PN_0 (Dc M)).2
  have hch1 := chs_sum hW hs (v := 106) (by omega)
  have hch2 := chs_sum hW hs (v := 2988) (by omega)
  refine Go.imp (cl47 hW hs hM0 hF0 (c := 10) (s := 45) (zn M) 0 FU A4 _ _ _ _ _ (by omega) (by have : FU = 20000 := rfl; omega) x5 hCS ⟨fun y hy h => absurd h (by omega), fun y hy h => ?_, fun r k hr hk h => ?_⟩ (hc4.mo (by rw [sm_0]; omega) (by rw [sm_0]; omega))) (fun y hy => ?_)
  · rcases h with h | h | h
    · rw [h, hN0]
    · omega
    · omega
  · have := (wwr hW.1 hr).1
    omega
  · obtain ⟨g1, g2, g3, g4⟩ := hy
    exact ⟨g1, hM0.ext g2, ⟨g2.fd ho hF0, g3⟩, k2.tr g2.k, g4.mo (by omega) (by omega)⟩
theorem taken_ok (ho : okd A (J 0) 8) {b : Nat} (hC : CLR A dm (J 0) b M) (hrb : rn M ≤ 12) {r : Nat} (hr : r < rn M) : bX8_taken A dm (J 0) (ii (r : Int)) = some (ii (tko (Dc M) r)) := by
  have hrow := hC.2.2.2.2.2 r hr
  have ht := hC.2.2.2.2.1
  unfold bX8_taken
  rw [gkd_i ho, gtr_i hC.1.2.2.2, gkd_i ht.1, gix_i ht.2.1 (by omega) (by omega) (by omega), tn_i (by omega), gtr_i (ht.2.2 r hr), l0, hrow.rd (a := 0) (i := 0) rfl (by omega)]
  rw [gkd_i ho, gtr_i hC.1.2.2.2, gkd_i ht.1, gix_i ht.2.1 (by omega) (by omega) (by omega), gtr_i (ht.2.2 r hr), l1, hrow.rd (a := 1) (i := 1) rfl (by omega)]
  rw [gkd_i ho, gtr_i hC.1.2.2.2, gkd_i ht.1, gix_i ht.2.1 (by omega) (by omega) (by omega), gtr_i (ht.2.2 r hr), l2, hrow.rd (a := 2) (i := 2) rfl (by omega)]
  rw [gkd_i ho, gtr_i hC.1.2.2.2, gkd_i ht.1, gix_i ht.2.1 (by omega) (by omega) (by omega), gtr_i (ht.2.2 r hr), l3, hrow.rd (a := 3) (i := 3) rfl (by omega), ii_add, ii_add, ii_add]
  rfl
abbrev prL : Int64 × AS × DM → AS := fun x => x.2.1
theorem gsu73 (hM : MkR A0 dm J M) (hW : WF M) {b : Nat} (hC : CLR A0 dm (J 0) b M) {r : Nat} (hr : r < rn M) {S c s : Int} {k59 : Nat → Int64 → Int32 → AS → DM → Option (Int64 × AS × DM)} {P : Int64 × AS × DM → Prop}
    (hk : ∀ (A' : AS) (dm' : DM), Ext A0 dm A' dm' → cst A0 A' (c + 8) (s + 24) → Go (k59 (J 0) (ll (S - sm (4 * (r + 1)) (fun i => dJ (Dc M) i * Tz (Dc M) i))) (ii ((r : Int) + 1)) A' dm') prL A' P) :
    ∀ (d k f : Nat) (A : AS) (m : DM), k + d = 4 → d < f → Ext A0 dm A m → cst A0 A (c + 2 * k) (s + 6 * k) → Go (bX8_surplus_l73 k59 f (J 0) (ll (S - sm (4 * r + k) (fun i => dJ (Dc M) i * Tz (Dc M) i))) (ii (r : Int)) (ii (k : Int)) A m) prL A P := by
  have hrb := hW.1.rn
  have hrc := rn_c hW.1
  have hzb := hW.1.zn
  have hzc := zn_c hW.1
  have hD : WD (Dc M) := Dg_WD hW (ii 0) false
  intro d
  induction d with
  | zero =>
    intro k f A m h1 h2 hx hc
    obtain ⟨f, rfl⟩ : ∃ g, f = g + 1 := ⟨f - 1, by omega⟩
    have e : k = 4 := by omega
    subst e
    rw [bX8_surplus_l73, l4, if_neg (by rw [ii_lt (by omega) (by omega) (by omega) (by omega)]; omega), nm_eq, l1, ii_add]
    exact hk A m hx (hc.mo (by omega) (by omega))
  | succ d ih =>
    intro k f A m h1 h2 hx hc
    obtain ⟨f, rfl⟩ : ∃ g, f = g + 1 := ⟨f - 1, by omega⟩
    have hM1 := hM.ext hx
    have hC1 := hC.ext hM.o hx
    have hk4 : k < 4 := by omega
    have hrow := hC1.2.2.2.2.2 r hr
    have ht := hC1.2.2.2.2.1
    have hlb := lj_bd hW hr k
    have hzr := (wwr hW.1 hr).1
    have hT := T_bd hD (i := 4 * r + k) (by show 4 * r + k < 4 * rn M; omega) (by
      rw [show (4 * r + k) / 4 = r by omega]
      show (M (79 + 13 * r)).toNat < zn M
      omega)
    obtain ⟨hJ, hU⟩ := dJ_lj hW hr hk4
    rw [bX8_surplus_l73, l4, if_pos (by rw [ii_lt (by omega) (by omega) (by omega) (by omega)]; omega), gkd_i hM1.o, gtr_i hC1.1.2.2.2, gkd_i ht.1, gix_i ht.2.1 (by omega) (by omega) (by omega), tn_i (by omega), gtr_i (ht.2.2 r hr), hrow.rd rfl hk4, gkd_i hM1.o]
    refine Go.call (line_ok hM1 hW hr hk4) (fun x hx9 _ => ?_)
    obtain ⟨g1, g2, g3, -⟩ := hx9
    have hnext := ih (k + 1) f x.2.1 x.2.2 (by omega) (by omega) (hx.tr g1) ((hc.tr g3).mo (by omega) (by omega))
    rw [l1, g2.rd (a := 1) (i := 1) rfl (by omega), show lrw M r k 1 = lj M r k from rfl, show (fun r k => Tz (Dc M) (4 * r + k)) r k = Tz (Dc M) (4 * r + k) from rfl, ii_ll (by omega) (by omega), ii_ll (by omega) (by omega), ll_mul, ll_sub, nm_eq, nm_eq, ii_add]
    rw [← Nat.add_assoc, sm_s, hJ, Int.mul_comm (lj M r k)] at hnext
    rw [show S - sm (4 * r + k) (fun i => dJ (Dc M) i * Tz (Dc M) i) - Tz (Dc M) (4 * r + k) * lj M r k = S - (sm (4 * r + k) (fun i => dJ (Dc M) i * Tz (Dc M) i) + Tz (Dc M) (4 * r + k) * lj M r k) by omega]
    exact hnext
theorem gsu59 (hM : MkR A0 dm J M) (hW : WF M) {b : Nat} (hC : CLR A0 dm (J 0) b M) {S c s : Int} :
    ∀ (d r f : Nat) (A : AS) (m : DM), r + d = rn M → d < f → Ext A0 dm A m → cst A0 A (c + 8 * r) (s + 24 * r) → Go (bX8_surplus_l59 f (J 0) (ll (S - sm (4 * r) (fun i => dJ (Dc M) i * Tz (Dc M) i))) (ii (r : Int)) A m) prL A (fun y => y.1 = ll (S - sm (4 * rn M) (fun i => dJ (Dc M) i * Tz (Dc M) i)) ∧ Ext A0 dm y.2.1 y.2.2 ∧ cst A0 y.2.1 (c + 8 * rn M) (s + 24 * rn M)) := by
  have hrb := hW.1.rn
  have hrc := rn_c hW.1
  intro d
  induction d with
  | zero =>
    intro r f A m h1 h2 hx hc
    obtain ⟨f, rfl⟩ : ∃ g, f = g + 1 := ⟨f - 1, by omega⟩
    have hM1 := hM.ext hx
    have e : r = rn M := by omega
    subst e
    rw [bX8_surplus_l59, gkd_i hM1.o, gtr_i hM1.f2, gkd_i hM1.rl.k, bAL_size_ok hM1.rl, bd_some, if_neg (by rw [ii_lt (by omega) (by omega) (by omega) (by omega)]; omega)]
    exact Go.mk (le2.rf _) ⟨rfl, hx, hc⟩
  | succ d ih =>
    intro r f A m h1 h2 hx hc
    obtain ⟨f, rfl⟩ : ∃ g, f = g + 1 := ⟨f - 1, by omega⟩
    have hM1 := hM.ext hx
    have hr : r < rn M := by omega
    rw [bX8_surplus_l59, gkd_i hM1.o, gtr_i hM1.f2, gkd_i hM1.rl.k, bAL_size_ok hM1.rl, bd_some, if_pos (by rw [ii_lt (by omega) (by omega) (by omega) (by omega)]; omega), l0]
    exact gsu73 hM hW hC hr (c := c + 8 * r) (s := s + 24 * r) (k59 := fun x0 x1 x3 A9 dm9 => bX8_surplus_l59 f x0 x1 x3 A9 dm9) (fun A' m' hx' hc' => ih (r + 1) f A' m' (by omega) (by omega) hx' (hc'.mo (by omega) (by omega))) 4 0 FU A m (by omega) (by have : FU = 20000 := rfl; omega) hx (hc.mo (by omega) (by omega))
theorem gsu25 (hM : MkR A0 dm J M) (hW : WF M) {b : Nat} (hC : CLR A0 dm (J 0) b M) {z : Nat} (hz : z < zn M) {S : Int} {q : Nat} (hx : Ext A0 dm A m1) (hq : NR A m1 q (wan M z).toNat (wv M z)) {k4 : Nat → Int64 → Int32 → AS → DM → Option (Int64 × AS × DM)} {P : Int64 × AS × DM → Prop}
    (hk : Go (k4 (J 0) (ll (S + wsm M z (Sz (Dc M) z))) (ii ((z : Int) + 1)) A m1) prL A P) :
    ∀ (d u f : Nat), u + d = (Sz (Dc M) z).toNat → d < f → Go (bX8_surplus_l25 k4 f (J 0) (ll (S + sm u (wv M z))) (ii (z : Int)) q (ii (u : Int)) A m1) prL A P := by
  have hzb := hW.1.zn
  have hzc := zn_c hW.1
  have hD : WD (Dc M) := Dg_WD hW (ii 0) false
  have hM1 := hM.ext hx
  have hC1 := hC.ext hM.o hx
  have hw := wwz hW.1 hz
  have hwan := wan_le hw
  have hS := S_bd hD (z := z) hz
  have hWt := Wt_bd hw (Pz (Dc M) z : Int)
  have hS2 : Sz (Dc M) z ≤ Wt M z (Pz (Dc M) z : Int) := hS.1
  intro d
  induction d with
  | zero =>
    intro u f h1 h2
    obtain ⟨f, rfl⟩ : ∃ g, f = g + 1 := ⟨f - 1, by omega⟩
    rw [bX8_surplus_l25, gkd_i hM1.o, gtr_i hC1.1.2.2.1, hC1.2.2.2.1.rd rfl hz, if_neg (by rw [ii_lt (by omega) (by omega) (by omega) (by omega)]; omega), nm_eq, l1, ii_add]
    have e : sm u (wv M z) = wsm M z (Sz (Dc M) z) := by unfold wsm; rw [show u = (Sz (Dc M) z).toNat by omega]
    rw [e]
    exact hk
  | succ d ih =>
    intro u f h1 h2
    obtain ⟨f, rfl⟩ : ∃ g, f = g + 1 := ⟨f - 1, by omega⟩
    have hwb := wv_bd hw (i := u) (by omega)
    rw [bX8_surplus_l25, gkd_i hM1.o, gtr_i hC1.1.2.2.1, hC1.2.2.2.1.rd rfl hz, if_pos (by rw [ii_lt (by omega) (by omega) (by omega) (by omega)]; omega), hq.rd rfl (by omega), ii_ll (by omega) (by omega), ll_add, nm_eq, nm_eq, l1, ii_add, show S + sm u (wv M z) + wv M z u = S + sm (u + 1) (wv M z) by rw [sm_s]; omega]
    exact ih (u + 1) f (by omega) (by omega)
theorem gsu4 (hM : MkR A0 dm J M) (hW : WF M) (hs : Sml M) {b : Nat} (hC : CLR A0 dm (J 0) b M) :
    ∀ (d z f : Nat) (A : AS) (m : DM), z + d = zn M → d < f → Ext A0 dm A m → cst A0 A z (270 * z) → Go (bX8_surplus_l4 f (J 0) (ll (sm z (fun z => wsm M z (Sz (Dc M) z)))) (ii (z : Int)) A m) prL A (fun y => y.1 = ll (sur M (Dc M)) ∧ Ext A0 dm y.2.1 y.2.2 ∧ cst A0 y.2.1 53 1494) := by
  have hrb := hW.1.rn
  have hrc := rn_c hW.1
  have hzb := hW.1.zn
  have hzc := zn_c hW.1
  have h5 := hs.1
  have h6 := hs.2.1
  have hD : WD (Dc M) := Dg_WD hW (ii 0) false
  intro d
  induction d with
  | zero =>
    intro z f A m h1 h2 hx hc
    obtain ⟨f, rfl⟩ : ∃ g, f = g + 1 := ⟨f - 1, by omega⟩
    have hM1 := hM.ext hx
    have e : z = zn M := by omega
    subst e
    rw [bX8_surplus_l4, gkd_i hM1.o, gtr_i hM1.f0, gkd_i hM1.zl.k, bAL_size_ok hM1.zl, bd_some, if_neg (by rw [ii_lt (by omega) (by omega) (by omega) (by omega)]; omega)]
    have := gsu59 hM hW hC (S := sm (zn M) (fun z => wsm M z (Sz (Dc M) z))) (c := zn M) (s := 270 * zn M) (rn M) 0 FU A m (by omega) (by have : FU = 20000 := rfl; omega) hx (hc.mo (by omega) (by omega))
    rw [show (4 * 0 : Nat) = 0 from rfl, sm_0, Int.sub_zero] at this
    exact Go.imp this (fun y hy => ⟨hy.1, hy.2.1, hy.2.2.mo (by omega) (by omega)⟩)
  | succ d ih =>
    intro z f A m h1 h2 hx hc
    obtain ⟨f, rfl⟩ : ∃ g, f = g + 1 := ⟨f - 1, by omega⟩
    have hM1 := hM.ext hx
    have hz : z < zn M := by omega
    have hS := S_bd hD (z := z) hz
    have hwan := hs.2.2 z hz
    have hWt := Wt_bd (wwz hW.1 hz) (Pz (Dc M) z : Int)
    have hS2 : Sz (Dc M) z ≤ Wt M z (Pz (Dc M) z : Int) := hS.1
    rw [bX8_surplus_l4, gkd_i hM1.o, gtr_i hM1.f0, gkd_i hM1.zl.k, bAL_size_ok hM1.zl, bd_some, if_pos (by rw [ii_lt (by omega) (by omega) (by omega) (by omega)]; omega), gkd_i hM1.o]
    refine Go.call (worths_ok hM1 hW hz) (fun x hx9 _ => ?_)
    obtain ⟨g1, g2, g3, -⟩ := hx9
    have hx2 := hx.tr g1
    have h25 := gsu25 hM hW hC hz (S := sm z (fun z => wsm M z (Sz (Dc M) z))) hx2 g2 (k4 := fun x0 x1 x3 A9 dm9 => bX8_surplus_l4 f x0 x1 x3 A9 dm9) (P := fun y => y.1 = ll (sur M (Dc M)) ∧ Ext A0 dm y.2.1 y.2.2 ∧ cst A0 y.2.1 53 1494) (by
      have := ih (z + 1) f x.2.1 x.2.2 (by omega) (by omega) hx2 ((hc.tr g3).mo (by omega) (by omega))
      rw [sm_s] at this
      exact this) (Sz (Dc M) z).toNat 0 FU (by omega) (by have : FU = 20000 := rfl; omega)
    rw [sm_0, Int.add_zero] at h25
    rw [l0]
    exact h25
theorem surplus_ok (hM : MkR A dm J M) (hW : WF M) (hs : Sml M) {b : Nat} (hC : CLR A dm (J 0) b M) : Go (bX8_surplus A dm (J 0)) prL A (fun y => y.1 = ll (sur M (Dc M)) ∧ Ext A dm y.2.1 y.2.2 ∧ cst A y.2.1 53 1494) := by
  unfold bX8_surplus
  rw [l0, L0]
  have := gsu4 hM hW hs hC (zn M) 0 FU A dm (by omega) (by have := hs.1; have : FU = 20000 := rfl; omega) (Ext.rf A dm) ((cst.rf A).mo (by omega) (by omega))
  rw [sm_0] at this
  exact this
end
