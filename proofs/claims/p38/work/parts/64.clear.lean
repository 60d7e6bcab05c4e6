/-! clearing, by hand -/
def CS (b : Nat) (A : AS) (dm : DM) (n m : Nat) (fP fN fS : Nat → Int) (fT : Nat → Nat → Int) : Prop := NR A dm (b + 1) n fP ∧ NR A dm (b + 2) n fN ∧ NR A dm (b + 3) n fS ∧ (okd A (b + 4) 22 ∧ (A.2.2.1 (b + 4)).2 = m ∧ ∀ r, r < m → dm (b + 4) r = .ref (b + 5 + r)) ∧ ∀ r, r < m → NR A dm (b + 5 + r) 4 (fT r)
def fu (f : Nat → Int) (i : Nat) (v : Int) : Nat → Int := fun j => if j = i then v else f j
def fu2 (f : Nat → Nat → Int) (r k : Nat) (v : Int) : Nat → Nat → Int := fun a j => if a = r ∧ j = k then v else f a j
def FD (b : Nat) (dm : DM) (a : Nat) : Prop := dm a 6 = .ref (b + 1) ∧ dm a 7 = .ref (b + 2) ∧ dm a 8 = .ref (b + 3) ∧ dm a 9 = .ref (b + 4)
section
variable {A A1 A0 : AS} {dm m1 m0 : DM} {J : Nat → Nat} {M : WM} {b n m : Nat} {fP fN fS : Nat → Int} {fT : Nat → Nat → Int}
theorem NR.cg {q : Nat} {f g : Nat → Int} (h : NR A dm q n f) (e : ∀ i, i < n → f i = g i) : NR A dm q n g := ⟨h.1, h.2.1, h.2.2.1, fun i hi => by rw [h.2.2.2 i hi, e i hi]⟩
theorem NR.ne {q c i : Nat} {v : Value} {f : Nat → Int} (h : NR A dm q n f) (hc : q ≠ c) : NR A (up3 dm c i v) q n f := h.frm (Nat.le_refl _) rfl (up3_ne hc)
theorem CS.ext (h : CS b A dm n m fP fN fS fT) (hx : Ext A dm A1 m1) : CS b A1 m1 n m fP fN fS fT :=
  ⟨h.1.ext hx, h.2.1.ext hx, h.2.2.1.ext hx, ⟨hx.kd h.2.2.2.1.1, (hx.ln h.2.2.2.1.1).trans h.2.2.2.1.2.1, fun r hr => (hx.v h.2.2.2.1.1 r).trans (h.2.2.2.1.2.2 r hr)⟩, fun r hr => (h.2.2.2.2 r hr).ext hx⟩
theorem CS.gne (h : CS b A dm n m fP fN fS fT) {c i : Nat} {v : Value} (hc : b + 4 ≠ c) : okd A (b + 4) 22 ∧ (A.2.2.1 (b + 4)).2 = m ∧ ∀ r, r < m → up3 dm c i v (b + 4) r = .ref (b + 5 + r) := ⟨h.2.2.2.1.1, h.2.2.2.1.2.1, fun r hr => by rw [up3_c hc]; exact h.2.2.2.1.2.2 r hr⟩
theorem CS.P (h : CS b A dm n m fP fN fS fT) (i : Nat) (v : Int) : CS b A (up3 dm (b + 1) i (.int (ii v))) n m (fu fP i v) fN fS fT :=
  ⟨h.1.up i v, h.2.1.ne (by omega), h.2.2.1.ne (by omega), h.gne (by omega), fun r hr => (h.2.2.2.2 r hr).ne (by omega)⟩
theorem CS.N (h : CS b A dm n m fP fN fS fT) (i : Nat) (v : Int) : CS b A (up3 dm (b + 2) i (.int (ii v))) n m fP (fu fN i v) fS fT :=
  ⟨h.1.ne (by omega), h.2.1.up i v, h.2.2.1.ne (by omega), h.gne (by omega), fun r hr => (h.2.2.2.2 r hr).ne (by omega)⟩
theorem CS.S (h : CS b A dm n m fP fN fS fT) (i : Nat) (v : Int) : CS b A (up3 dm (b + 3) i (.int (ii v))) n m fP fN (fu fS i v) fT :=
  ⟨h.1.ne (by omega), h.2.1.ne (by omega), h.2.2.1.up i v, h.gne (by omega), fun r hr => (h.2.2.2.2 r hr).ne (by omega)⟩
theorem CS.T (h : CS b A dm n m fP fN fS fT) (r k : Nat) (v : Int) : CS b A (up3 dm (b + 5 + r) k (.int (ii v))) n m fP fN fS (fu2 fT r k v) := by
  refine ⟨h.1.ne (by omega), h.2.1.ne (by omega), h.2.2.1.ne (by omega), h.gne (by omega), fun a ha => ?_⟩
  by_cases e : a = r
  · subst e
    refine ((h.2.2.2.2 a ha).up k v).cg (fun j hj => ?_)
    unfold fu2
    by_cases e2 : j = k
    · rw [if_pos e2, if_pos ⟨rfl, e2⟩]
    · rw [if_neg e2, if_neg (fun q => e2 q.2)]
  · refine ((h.2.2.2.2 a ha).ne (by omega)).cg (fun j hj => ?_)
    unfold fu2
    rw [if_neg (fun q => e q.1)]
theorem Ext.fd (hx : Ext A0 m0 A dm) {a : Nat} (hk : okd A0 a 8) (h : FD b m0 a) : FD b dm a := ⟨(hx.v hk 6).trans h.1, (hx.v hk 7).trans h.2.1, (hx.v hk 8).trans h.2.2.1, (hx.v hk 9).trans h.2.2.2⟩
/-- what is taken, so far -/
def TI (M : WM) (z r k : Nat) (fT : Nat → Nat → Int) : Prop := ∀ r' k', r' < rn M → k' < 4 → (M (79 + 13 * r') < z ∨ (M (79 + 13 * r') = z ∧ (r' < r ∨ (r' = r ∧ k' < k)))) → fT r' k' = Tz (Dc M) (4 * r' + k')
theorem dJ_lj (hW : WF M) {r k : Nat} (hr : r < rn M) (hk : k < 4) : dJ (Dc M) (4 * r + k) = lj M r k ∧ dU (Dc M) (4 * r + k) = lu M r k := by
  have hw := wwr hW.1 hr
  have hst := stp_le hw
  have hU : dU (Dc M) (4 * r + k) = lu M r k := by
    show Ug M (ii 0) (4 * r + k) = _
    rw [Ug_at hr hk, gb_0, if_neg (by decide)]
  refine ⟨?_, hU⟩
  have hJ : dJ (Dc M) (4 * r + k) = if lu M r k = 0 then 0 else li M r k (flr M r) := by
    show Jg M (ii 0) false (4 * r + k) = _
    rw [Jg_at hr hk, Ug_at hr hk, gb_0, if_neg (show ¬ false = true by decide), if_neg (show ¬ false = true by decide)]
  rw [hJ]
  unfold lj
  by_cases c : k < stp M r
  · have hs := (hw.2.2.2.2.2.2.2 k c).1
    have : lu M r k = su M r k := by unfold lu; rw [if_neg (by omega), if_pos c]
    rw [if_pos c, if_neg (by omega)]
  · rw [if_neg c]
    by_cases h0 : lu M r k = 0
    · rw [if_pos h0]
    · rw [if_neg h0]
      rcases lu_there h0 with h3 | h3
      · unfold li
        rw [if_pos h3]
      · exact absurd h3 c
theorem cl162 (hW : WF M) {z : Nat} (hz : z < zn M) (hM : MkR A0 m0 J M) (hF : FD A0.1 m0 (J 0)) {r : Nat} (hr : r < rn M) {c s : Int} (hzr : M (79 + 13 * r) = z) {x1 : Int32} {k47 : Nat → Int32 → Int32 → AS → DM → Option (Nat × AS × DM)} {k147 : Nat → Int32 → Int32 → Int32 → Int32 → Int32 → AS → DM → Option (Nat × AS × DM)} {P : Nat × AS × DM → Prop}
    (hk147 : ∀ (A' : AS) (dm' : DM) (fT' : Nat → Nat → Int), Ext A0 m0 A' dm' → CS A0.1 A' dm' n (rn M) fP fN fS fT' → TI M z (r + 1) 0 fT' → cst A0 A' (c + 8) (s + 24) → Go (k147 (J 0) x1 (ii (z : Int)) (ii (Pz (Dc M) z : Int)) (ii (lq (Dc M) z (4 * (r + 1)))) (ii ((r : Int) + 1)) A' dm') prW A' P) :
    ∀ (d k f : Nat) (A : AS) (dm : DM) (fT : Nat → Nat → Int), k + d = 4 → d < f → Ext A0 m0 A dm → CS A0.1 A dm n (rn M) fP fN fS fT → TI M z r k fT → cst A0 A (c + 2 * k) (s + 6 * k) → Go (bX8_clear_l162 k47 k147 f (J 0) x1 (ii (z : Int)) (ii (Pz (Dc M) z : Int)) (ii (lq (Dc M) z (4 * r + k))) (ii (r : Int)) (ii (k : Int)) A dm) prW A P := by
  have hrb := hW.1.rn
  have hrc := rn_c hW.1
  have hzb := hW.1.zn
  have hzc := zn_c hW.1
  have hD : WD (Dc M) := Dg_WD hW (ii 0) false
  have hP9 := (PN_9 hD (z := z) hz).2.2
  have hP9' : Pz (Dc M) z ≤ 9999 := hP9
  intro d
  induction d with
  | zero =>
    intro k f A dm fT h1 h2 hx hC hT hc
    obtain ⟨f, rfl⟩ : ∃ g, f = g + 1 := ⟨f - 1, by omega⟩
    have e : k = 4 := by omega
    subst e
    rw [bX8_clear_l162, l4, if_neg (by rw [ii_lt (by omega) (by omega) (by omega) (by omega)]; omega)]
    unfold bX8_clear_j274
    rw [nm_eq, l1, ii_add]
    refine hk147 A dm fT hx hC (fun r' k' g1 g2 g3 => hT r' k' g1 g2 (by omega)) (hc.mo (by omega) (by omega))
  | succ d ih =>
    intro k f A dm fT h1 h2 hx hC hT hc
    obtain ⟨f, rfl⟩ : ∃ g, f = g + 1 := ⟨f - 1, by omega⟩
    have hM1 := hM.ext hx
    have hk : k < 4 := by omega
    have hlb := lj_bd hW hr k
    have hlu := lu_nn hW hr k
    have hlq := lq_bd hD (z := z) hz (i := 4 * r + k) (by show 4 * r + k ≤ 4 * rn M; omega)
    have hlq' : 0 ≤ lq (Dc M) z (4 * r + k) ∧ lq (Dc M) z (4 * r + k) ≤ 200000 := hlq
    obtain ⟨hJ, hU⟩ := dJ_lj hW hr hk
    have hdz : dz (Dc M) ((4 * r + k) / 4) = z := by
      rw [show (4 * r + k) / 4 = r by omega]
      show (M (79 + 13 * r)).toNat = z
      omega
    have hTz := lq_T (D := Dc M) (4 * r + k) hdz
    have hls := lq_s (Dc M) z (4 * r + k)
    rw [hJ, hU] at hTz hls
    rw [bX8_clear_l162, l4, if_pos (by rw [ii_lt (by omega) (by omega) (by omega) (by omega)]; omega), gkd_i hM1.o, gtr_i hM1.f2, gkd_i hM1.rl.k, bAL_get_ok hM1.rl rfl hr, bd_some, l0, (hM1.r hr).rd2 (a := 0) (i := 0) rfl (by omega), show rrw M r 0 = M (79 + 13 * r) from rfl, if_pos (by rw [hzr]), gkd_i hM1.o]
    refine Go.call (line_ok hM1 hW hr hk) (fun x hx9 _ => ?_)
    obtain ⟨g1, g2, g3, -⟩ := hx9
    have hx2 := hx.tr g1
    have hM2 := hM.ext hx2
    have hF2 := hx2.fd hM.o hF
    have hC2 := hC.ext g1
    have hc2 : cst A0 x.2.1 (c + 2 * (k + 1 : Nat)) (s + 6 * (k + 1 : Nat)) := (hc.tr g3).mo (by omega) (by omega)
    -- what is got is put down
    have hput : ∀ (got sub : Int), got = Tz (Dc M) (4 * r + k) → lq (Dc M) z (4 * r + k) - sub = lq (Dc M) z (4 * r + k + 1) → Go (bX8_clear_j253 k47 k147 (fun x0 x1 x2 x4 x5 x6 x7 A9 dm9 => bX8_clear_l162 k47 k147 f x0 x1 x2 x4 x5 x6 x7 A9 dm9) (J 0) x1 (ii (z : Int)) (ii (Pz (Dc M) z : Int)) (ii (r : Int)) (ii (k : Int)) (ii got) (ii sub) (ii (lq (Dc M) z (4 * r + k))) x.2.1 x.2.2) prW x.2.1 P := by
      intro got sub hgot hsub
      unfold bX8_clear_j253
      have hrow := hC2.2.2.2.2 r hr
      rw [nm_eq, gkd_i hM2.o, gtr_i hF2.2.2.2, gkd_i hC2.2.2.2.1.1, gix_i hC2.2.2.2.1.2.1 (by omega) (by omega) (by omega), tn_i (by omega), gtr_i (hC2.2.2.2.1.2.2 r hr), hrow.wr rfl hk, nm_eq, l1, ii_add, ii_sub, hsub]
      refine ih (k + 1) f x.2.1 _ (fu2 fT r k got) (by omega) (by omega) (hx2.up (by omega) _ _) (hC2.T r k got) (fun r' k' q1 q2 q3 => ?_) hc2
      unfold fu2
      by_cases e : r' = r ∧ k' = k
      · rw [if_pos e, hgot, e.1, e.2]
      · rw [if_neg e]
        exact hT r' k' q1 q2 (by omega)
    have h234 : ∀ got : Int, got = Tz (Dc M) (4 * r + k) → Go (bX8_clear_j234 k47 k147 (fun x0 x1 x2 x4 x5 x6 x7 A9 dm9 => bX8_clear_l162 k47 k147 f x0 x1 x2 x4 x5 x6 x7 A9 dm9) (J 0) x1 (ii (z : Int)) (ii (Pz (Dc M) z : Int)) (ii (lq (Dc M) z (4 * r + k))) (ii (r : Int)) (ii (k : Int)) x.1 (ii got) x.2.1 x.2.2) prW x.2.1 P := by
      intro got hgot
      unfold bX8_clear_j234
      rw [l1, g2.rd (a := 1) (i := 1) rfl (by omega), show lrw M r k 1 = lj M r k from rfl, ifeq (by omega) (by omega) (by omega) (by omega), l0]
      by_cases c1 : lj M r k = (Pz (Dc M) z : Int)
      · rw [if_pos c1]
        refine hput got got hgot ?_
        rw [hls, hgot, hTz]
        by_cases c0 : lu M r k = 0
        · rw [if_pos c0, if_neg (fun q => q.2.1 c0)]
          omega
        · rw [if_neg c0, if_neg (by omega), if_pos c1, if_pos ⟨hdz, c0, c1⟩]
      · rw [if_neg c1]
        refine hput got 0 hgot ?_
        rw [hls, if_neg (fun q => c1 q.2.2)]
        omega
    rw [l1, g2.rd (a := 1) (i := 1) rfl (by omega), show lrw M r k 1 = lj M r k from rfl, iflt (by omega) (by omega) (by omega) (by omega)]
    by_cases c1 : lj M r k < (Pz (Dc M) z : Int)
    · rw [if_pos c1, g2.rd (a := 0) (i := 0) rfl (by omega), show lrw M r k 0 = lu M r k from rfl]
      refine h234 _ ?_
      rw [hTz]
      by_cases c0 : lu M r k = 0
      · rw [if_pos c0, c0]
      · rw [if_neg c0, if_pos c1]
    · rw [if_neg c1, g2.rd (a := 1) (i := 1) rfl (by omega), show lrw M r k 1 = lj M r k from rfl, iflt (by omega) (by omega) (by omega) (by omega)]
      by_cases c2 : (Pz (Dc M) z : Int) < lj M r k
      · rw [if_pos c2]
        refine h234 _ ?_
        rw [hTz]
        by_cases c0 : lu M r k = 0
        · rw [if_pos c0]
        · rw [if_neg c0, if_neg c1, if_neg (by omega)]
      · rw [if_neg c2, g2.rd (a := 0) (i := 0) rfl (by omega), show lrw M r k 0 = lu M r k from rfl, mni_ii (by omega) (by omega) (by omega) (by omega), nm_eq]
        refine h234 _ ?_
        rw [hTz]
        by_cases c0 : lu M r k = 0
        · rw [if_pos c0]
          omega
        · rw [if_neg c0, if_neg c1, if_pos (by omega)]
          omega
theorem cl147 (hW : WF M) {z : Nat} (hz : z < zn M) (hM : MkR A0 m0 J M) (hF : FD A0.1 m0 (J 0)) {c s : Int} {x1 : Int32} {k47 : Nat → Int32 → Int32 → AS → DM → Option (Nat × AS × DM)} {P : Nat × AS × DM → Prop}
    (hk : ∀ (A' : AS) (dm' : DM) (fT' : Nat → Nat → Int), Ext A0 m0 A' dm' → CS A0.1 A' dm' n (rn M) fP fN fS fT' → TI M (z + 1) 0 0 fT' → cst A0 A' (c + 8 * rn M) (s + 24 * rn M) → Go (bX8_clear_l285 k47 FU (J 0) x1 (ii (z : Int)) (ii (Pz (Dc M) z : Int)) (ii (lbq (Dc M) z (z + 1))) (ii ((z : Int) + 1)) A' dm') prW A' P) :
    ∀ (d r f : Nat) (A : AS) (dm : DM) (fT : Nat → Nat → Int), r + d = rn M → d < f → Ext A0 m0 A dm → CS A0.1 A dm n (rn M) fP fN fS fT → TI M z r 0 fT → cst A0 A (c + 8 * r) (s + 24 * r) → Go (bX8_clear_l147 k47 f (J 0) x1 (ii (z : Int)) (ii (Pz (Dc M) z : Int)) (ii (lq (Dc M) z (4 * r))) (ii (r : Int)) A dm) prW A P := by
  have hrb := hW.1.rn
  have hrc := rn_c hW.1
  have hzb := hW.1.zn
  have hzc := zn_c hW.1
  intro d
  induction d with
  | zero =>
    intro r f A dm fT h1 h2 hx hC hT hc
    obtain ⟨f, rfl⟩ : ∃ g, f = g + 1 := ⟨f - 1, by omega⟩
    have hM1 := hM.ext hx
    have e : r = rn M := by omega
    subst e
    rw [bX8_clear_l147, gkd_i hM1.o, gtr_i hM1.f2, gkd_i hM1.rl.k, bAL_size_ok hM1.rl, bd_some, if_neg (by rw [ii_lt (by omega) (by omega) (by omega) (by omega)]; omega), nm_eq, l1, ii_add]
    have := hk A dm fT hx hC (fun r' k' g1 g2 g3 => hT r' k' g1 g2 (by omega)) hc
    rw [lbq_up z (Nat.le_refl _)] at this
    exact this
  | succ d ih =>
    intro r f A dm fT h1 h2 hx hC hT hc
    obtain ⟨f, rfl⟩ : ∃ g, f = g + 1 := ⟨f - 1, by omega⟩
    have hM1 := hM.ext hx
    have hr : r < rn M := by omega
    have hzr := (wwr hW.1 hr).1
    rw [bX8_clear_l147, gkd_i hM1.o, gtr_i hM1.f2, gkd_i hM1.rl.k, bAL_size_ok hM1.rl, bd_some, if_pos (by rw [ii_lt (by omega) (by omega) (by omega) (by omega)]; omega), l0]
    by_cases e : M (79 + 13 * r) = z
    · exact cl162 hW hz hM hF hr (c := c + 8 * r) (s := s + 24 * r) e (x1 := x1) (k47 := k47) (k147 := fun x0 x1 x2 x4 x5 x6 A9 dm9 => bX8_clear_l147 k47 f x0 x1 x2 x4 x5 x6 A9 dm9) (P := P) (fun A' dm' fT' hx' hC' hT' hc' => ih (r + 1) f A' dm' fT' (by omega) (by omega) hx' hC' hT' (hc'.mo (by omega) (by omega))) 4 0 FU A dm fT (by omega) (by have : FU = 20000 := rfl; omega) hx hC hT (hc.mo (by omega) (by omega))
    · rw [show FU = 19999 + 1 from rfl, bX8_clear_l162, l4, if_pos (by decide), gkd_i hM1.o, gtr_i hM1.f2, gkd_i hM1.rl.k, bAL_get_ok hM1.rl rfl hr, bd_some, l0, (hM1.r hr).rd2 (a := 0) (i := 0) rfl (by omega), show rrw M r 0 = M (79 + 13 * r) from rfl, if_neg (by rw [ii_eq (by omega) (by omega) (by omega) (by omega)]; exact e)]
      unfold bX8_clear_j274
      rw [nm_eq, l1, ii_add]
      have := ih (r + 1) f A dm fT (by omega) (by omega) hx hC (fun r' k' g1 g2 g3 => hT r' k' g1 g2 (by
        rcases g3 with g3 | ⟨g3, g4⟩
        · exact Or.inl g3
        · refine Or.inr ⟨g3, ?_⟩
          by_cases e9 : r' = r
          · subst e9
            exact absurd g3 e
          · omega)) (hc.mo (by omega) (by omega))
      rw [show lq (Dc M) z (4 * (r + 1)) = lq (Dc M) z (4 * r) from lq_skip hr (Or.inl (by omega))] at this
      exact this
/-- nets, so far -/
def NI (M : WM) (z c : Nat) (fN : Nat → Int) : Prop := ∀ y, y < zn M → (y = 0 ∨ ouz M y < z ∨ (ouz M y = z ∧ y < c)) → fN y = Nz (Dc M) y
def chs (M : WM) (z n : Nat) (v : Int) : Int := sm n (fun c => if z < c ∧ ouz M c = z then v else 0)
theorem cl285 (hW : WF M) (hs : Sml M) {z : Nat} (hz : z < zn M) (hM : MkR A0 m0 J M) (hF : FD A0.1 m0 (J 0)) {c s : Int} {k47 : Nat → Int32 → Int32 → AS → DM → Option (Nat × AS × DM)} {P : Nat × AS × DM → Prop}
    (hk47 : ∀ (A' : AS) (dm' : DM) (fN' fS' : Nat → Int), Ext A0 m0 A' dm' → CS A0.1 A' dm' (zn M) (rn M) fP fN' fS' fT → NI M (z + 1) 0 fN' → (∀ y, fS' y = if y = z then Sz (Dc M) z else fS y) → cst A0 A' (c + chs M z (zn M) 106 + 1) (s + chs M z (zn M) 2988 + 270) → Go (k47 (J 0) (ii (zn M : Int)) (ii ((z : Int) + 1)) A' dm') prW A' P) :
    ∀ (d y f : Nat) (A : AS) (dm : DM) (fN : Nat → Int), y + d = zn M → d < f → z < y → Ext A0 m0 A dm → CS A0.1 A dm (zn M) (rn M) fP fN fS fT → NI M z y fN → cst A0 A (c + chs M z y 106) (s + chs M z y 2988) → Go (bX8_clear_l285 k47 f (J 0) (ii (zn M : Int)) (ii (z : Int)) (ii (Pz (Dc M) z : Int)) (ii (lbq (Dc M) z y)) (ii (y : Int)) A dm) prW A P := by
  have hrb := hW.1.rn
  have hrc := rn_c hW.1
  have hzb := hW.1.zn
  have hzc := zn_c hW.1
  have hD : WD (Dc M) := Dg_WD hW (ii 0) false
  have hP9 : Pz (Dc M) z ≤ 9999 := (PN_9 hD (z := z) hz).2.2
  intro d
  induction d with
  | zero =>
    intro y f A dm fN h1 h2 h3 hx hC hN hc
    obtain ⟨f, rfl⟩ : ∃ g, f = g + 1 := ⟨f - 1, by omega⟩
    have hM1 := hM.ext hx
    have hF1 := hx.fd hM.o hF
    have e : y = zn M := by omega
    subst e
    have hWt := Wt_bd (wwz hW.1 hz) (Pz (Dc M) z : Int)
    have hlb := lbq_bd hD (z := z) hz (c := zn M) (Nat.le_refl _)
    have hlb' : 0 ≤ lbq (Dc M) z (zn M) ∧ lbq (Dc M) z (zn M) ≤ 200000 := hlb
    have hwan := hs.2.2 z hz
    rw [bX8_clear_l285, if_neg (by rw [ii_lt (by omega) (by omega) (by omega) (by omega)]; omega), gkd_i hM1.o, gtr_i hF1.2.2.1, gkd_i hM1.o]
    refine Go.call (wants_ok hM1 hW hz (p := (Pz (Dc M) z : Int)) (by omega) (by omega)) (fun x hx9 _ => ?_)
    obtain ⟨g1, g2, g3⟩ := hx9
    have hx2 := hx.tr g2
    have hC2 := hC.ext g2
    rw [g1, ii_sub, hC2.2.2.1.wr rfl hz, nm_eq, l1, ii_add]
    refine hk47 x.2.1 _ fN (fu fS z (Wt M z (Pz (Dc M) z : Int) - lbq (Dc M) z (zn M))) (hx2.up (by omega) _ _) (hC2.S z _) (fun y hy h => hN y hy (by
      rcases h with h | h | h
      · exact Or.inl h
      · by_cases e9 : ouz M y = z
        · exact Or.inr (Or.inr ⟨e9, hy⟩)
        · exact Or.inr (Or.inl (by omega))
      · omega)) (fun y => by
      unfold fu
      by_cases e9 : y = z
      · rw [if_pos e9, if_pos e9]
        exact (lbq_S (Dc M) z).symm
      · rw [if_neg e9, if_neg e9]) ((hc.tr g3).mo (by omega) (by omega))
  | succ d ih =>
    intro y f A dm fN h1 h2 h3 hx hC hN hc
    obtain ⟨f, rfl⟩ : ∃ g, f = g + 1 := ⟨f - 1, by omega⟩
    have hM1 := hM.ext hx
    have hy : y < zn M := by omega
    have hou := ou_lt hW (c := y) (by omega) hy
    have hls := lbq_s (Dc M) z y
    have hdou : dou (Dc M) y = ouz M y := rfl
    rw [bX8_clear_l285, if_pos (by rw [ii_lt (by omega) (by omega) (by omega) (by omega)]; omega), gkd_i hM1.o, gtr_i hM1.f0, gkd_i hM1.zl.k, bAL_get_ok hM1.zl rfl hy, bd_some, l0, (hM1.z hy).rd2 (a := 0) (i := 0) rfl (by omega), show zrw M y 0 = M (7 + 12 * y) from rfl, ifeq (by omega) (by omega) (by omega) (by omega)]
    by_cases e : M (7 + 12 * y) = z
    · have hou2 : ouz M y = z := by unfold ouz; omega
      rw [if_pos e, gkd_i hM1.o]
      refine Go.call (level6 hW hs (p := (Pz (Dc M) z : Int)) (h := 0) (by omega) (Or.inl rfl) hM1 hy) (fun x hx9 _ => ?_)
      obtain ⟨g1, g2, g3⟩ := hx9
      have hx2 := hx.tr g2
      have hM2 := hM.ext hx2
      have hLb := Lz_bd hD (z := y) hy (Pz (Dc M) z : Int)
      have hLb2 := Lz_bd hD (z := y) hy ((Pz (Dc M) z : Int) + 1)
      rw [gkd_i hM2.o, g1, Int.add_zero, cut_ok hM2 hW hy (by omega) (by omega), bd_some, gkd_i hM2.o, l1]
      refine Go.call (level6 hW hs (p := (Pz (Dc M) z : Int)) (h := 1) (by omega) (Or.inr rfl) hM2 hy) (fun w hw9 _ => ?_)
      obtain ⟨k1, k2, k3⟩ := hw9
      have hx3 := hx2.tr k2
      have hM3 := hM.ext hx3
      have hF3 := hx3.fd hM.o hF
      have hC3 := (hC.ext g2).ext k2
      have hcb := cu_bd hD (z := y) hy (Lz (Dc M) y (Pz (Dc M) z : Int))
      have hcb2 := cu_bd hD (z := y) hy (Lz (Dc M) y ((Pz (Dc M) z : Int) + 1))
      have hlb := lbq_bd hD (z := z) hz (c := y) (by show y ≤ zn M; omega)
      have hNz := lbq_N hD (z := z) (c := y) hy ⟨h3, hou2⟩
      rw [gkd_i hM3.o, k1, cut_ok hM3 hW hy (by omega) (by omega), bd_some, ii_sub, mni_ii (by omega) (by omega) (by omega) (by omega), nm_eq, gkd_i hM3.o, gtr_i hF3.2.1, ii_add, hC3.2.1.wr rfl hy, nm_eq, ii_sub]
      have hroom : cu (Dc M) y (Lz (Dc M) y ((Pz (Dc M) z : Int) + 1)) - cu (Dc M) y (Lz (Dc M) y (Pz (Dc M) z : Int)) = room (Dc M) y (Pz (Dc M) z : Int) := rfl
      rw [hroom, ← hNz, show lbq (Dc M) z y - min (lbq (Dc M) z y) (room (Dc M) y (Pz (Dc M) z : Int)) = lbq (Dc M) z (y + 1) by rw [hls, if_pos ⟨h3, hou2⟩]]
      unfold bX8_clear_j370
      rw [nm_eq, l1, ii_add]
      refine ih (y + 1) f w.2.1 _ (fu fN y (Nz (Dc M) y)) (by omega) (by omega) (by omega) (hx3.up (by omega) _ _) (hC3.N y _) (fun q hq h => ?_) ?_
      · unfold fu
        by_cases e9 : q = y
        · rw [if_pos e9, e9]
        · rw [if_neg e9]
          exact hN q hq (by omega)
      · unfold chs at hc ⊢
        rw [sm_s, sm_s, if_pos ⟨h3, hou2⟩, if_pos ⟨h3, hou2⟩]
        exact ((hc.tr g3).tr k3).mo (by omega) (by omega)
    · have hou2 : ouz M y ≠ z := by unfold ouz; omega
      rw [if_neg e]
      unfold bX8_clear_j370
      rw [nm_eq, l1, ii_add]
      have := ih (y + 1) f A dm fN (by omega) (by omega) (by omega) hx hC (fun q hq h => hN q hq (by
        rcases h with h | h | ⟨h, h5⟩
        · exact Or.inl h
        · exact Or.inr (Or.inl h)
        · refine Or.inr (Or.inr ⟨h, ?_⟩)
          by_cases e9 : q = y
          · subst e9
            exact absurd h hou2
          · omega)) (by
        unfold chs at hc ⊢
        rw [sm_s, sm_s, if_neg (fun q => hou2 q.2), if_neg (fun q => hou2 q.2)]
        exact hc.mo (by omega) (by omega))
      rw [hls, if_neg (fun q => hou2 q.2)] at this
      exact this
/-- how far the clearing is -/
def CInv (M : WM) (z : Nat) (fP fN fS : Nat → Int) (fT : Nat → Nat → Int) : Prop := (∀ y, y < zn M → y < z → fP y = (Pz (Dc M) y : Int) ∧ fS y = Sz (Dc M) y) ∧ NI M z 0 fN ∧ TI M z 0 0 fT
theorem cl47 (hW : WF M) (hs : Sml M) (hM : MkR A0 m0 J M) (hF : FD A0.1 m0 (J 0)) {c s : Int} :
    ∀ (d z f : Nat) (A : AS) (dm : DM) (fP fN fS : Nat → Int) (fT : Nat → Nat → Int), z + d = zn M → d < f → Ext A0 m0 A dm → CS A0.1 A dm (zn M) (rn M) fP fN fS fT → CInv M z fP fN fS fT → cst A0 A (c + 950 * z + sm z (fun y => chs M y (zn M) 106)) (s + 25812 * z + sm z (fun y => chs M y (zn M) 2988)) → Go (bX8_clear_l47 f (J 0) (ii (zn M : Int)) (ii (z : Int)) A dm) prW A (fun y => y.1 = J 0 ∧ Ext A0 m0 y.2.1 y.2.2 ∧ CS A0.1 y.2.1 y.2.2 (zn M) (rn M) (fun z => (Pz (Dc M) z : Int)) (Nz (Dc M)) (Sz (Dc M)) (fun r k => Tz (Dc M) (4 * r + k)) ∧ cst A0 y.2.1 (c + 950 * zn M + sm (zn M) (fun y => chs M y (zn M) 106)) (s + 25812 * zn M + sm (zn M) (fun y => chs M y (zn M) 2988))) := by
  have hrb := hW.1.rn
  have hrc := rn_c hW.1
  have hzb := hW.1.zn
  have hzc := zn_c hW.1
  have hD : WD (Dc M) := Dg_WD hW (ii 0) false
  intro d
  induction d with
  | zero =>
    intro z f A dm fP fN fS fT h1 h2 hx hC hI hc
    obtain ⟨f, rfl⟩ : ∃ g, f = g + 1 := ⟨f - 1, by omega⟩
    have e : z = zn M := by omega
    subst e
    rw [bX8_clear_l47, if_neg (by rw [ii_lt (by omega) (by omega) (by omega) (by omega)]; omega)]
    refine Go.mk (le2.rf _) ⟨rfl, hx, ⟨hC.1.cg (fun i hi => (hI.1 i hi hi).1), hC.2.1.cg (fun i hi => hI.2.1 i hi ?_), hC.2.2.1.cg (fun i hi => (hI.1 i hi hi).2), hC.2.2.2.1, fun r hr => (hC.2.2.2.2 r hr).cg (fun k hk => hI.2.2 r k hr hk (Or.inl ?_))⟩, hc⟩
    · rcases Nat.eq_zero_or_pos i with h | h
      · exact Or.inl h
      · have := (ou_lt hW (c := i) h hi).2
        exact Or.inr (Or.inl (by omega))
    · have := (wwr hW.1 hr).1
      omega
  | succ d ih =>
    intro z f A dm fP fN fS fT h1 h2 hx hC hI hc
    obtain ⟨f, rfl⟩ : ∃ g, f = g + 1 := ⟨f - 1, by omega⟩
    have hM1 := hM.ext hx
    have hF1 := hx.fd hM.o hF
    have hz : z < zn M := by omega
    have hP9 := PN_9 hD (z := z) hz
    have hPb : Pz (Dc M) z ≤ 9999 := hP9.2.2
    have hNb := N_bd hD (z := z) hz
    have hNz : fN z = Nz (Dc M) z := hI.2.1 z hz (by
      rcases Nat.eq_zero_or_pos z with h | h
      · exact Or.inl h
      · exact Or.inr (Or.inl (ou_lt hW (c := z) h hz).2))
    have hrs := hs.2.1
    -- the price is found: it goes on
    have h124 : ∀ (A' : AS) (dm' : DM), Ext A0 m0 A' dm' → CS A0.1 A' dm' (zn M) (rn M) fP fN fS fT → cst A0 A' (c + 950 * z + sm z (fun y => chs M y (zn M) 106) + 848) (s + 25812 * z + sm z (fun y => chs M y (zn M) 2988) + 23904) → Go (bX8_clear_j124 (fun x0 x1 x2 A9 dm9 => bX8_clear_l47 f x0 x1 x2 A9 dm9) (J 0) (ii (zn M : Int)) (ii (z : Int)) (ii (Nz (Dc M) z)) (ii (Pz (Dc M) z : Int)) A' dm') prW A' (fun y => y.1 = J 0 ∧ Ext A0 m0 y.2.1 y.2.2 ∧ CS A0.1 y.2.1 y.2.2 (zn M) (rn M) (fun z => (Pz (Dc M) z : Int)) (Nz (Dc M)) (Sz (Dc M)) (fun r k => Tz (Dc M) (4 * r + k)) ∧ cst A0 y.2.1 (c + 950 * zn M + sm (zn M) (fun y => chs M y (zn M) 106)) (s + 25812 * zn M + sm (zn M) (fun y => chs M y (zn M) 2988))) := by
      intro A' dm' hx' hC' hc'
      have hM' := hM.ext hx'
      have hF' := hx'.fd hM.o hF
      have hx2 : Ext A0 m0 A' (up3 dm' (A0.1 + 1) z (.int (ii (Pz (Dc M) z : Int)))) := hx'.up (by omega) _ _
      have hM2 := hM.ext hx2
      have hC2 := hC'.P z (Pz (Dc M) z : Int)
      unfold bX8_clear_j124
      rw [gkd_i hM'.o, gtr_i hF'.1, hC'.1.wr rfl hz, gkd_i hM2.o, l0]
      refine Go.call (level6 hW hs (p := (Pz (Dc M) z : Int)) (h := 0) (by omega) (Or.inl rfl) hM2 hz) (fun x hx9 _ => ?_)
      obtain ⟨g1, g2, g3⟩ := hx9
      rw [nm_eq, g1, ii_sub, Int.add_zero, ← lq_0]
      have h147 := cl147 (n := zn M) (fP := fu fP z (Pz (Dc M) z : Int)) (fN := fN) (fS := fS) hW hz hM hF (c := c + 950 * z + sm z (fun y => chs M y (zn M) 106) + 901) (s := s + 25812 * z + sm z (fun y => chs M y (zn M) 2988) + 25398) (x1 := ii (zn M : Int)) (k47 := fun x0 x1 x2 A9 dm9 => bX8_clear_l47 f x0 x1 x2 A9 dm9) (P := fun y => y.1 = J 0 ∧ Ext A0 m0 y.2.1 y.2.2 ∧ CS A0.1 y.2.1 y.2.2 (zn M) (rn M) (fun z => (Pz (Dc M) z : Int)) (Nz (Dc M)) (Sz (Dc M)) (fun r k => Tz (Dc M) (4 * r + k)) ∧ cst A0 y.2.1 (c + 950 * zn M + sm (zn M) (fun y => chs M y (zn M) 106)) (s + 25812 * zn M + sm (zn M) (fun y => chs M y (zn M) 2988))) (fun A3 dm3 fT3 hx3 hC3 hT3 hc3 => ?_) (rn M) 0 FU x.2.1 x.2.2 fT (by omega) (by have : FU = 20000 := rfl; omega) (hx2.tr g2) (hC2.ext g2) hI.2.2 ((hc'.tr g3).mo (by omega) (by omega))
      · exact h147
      · refine cl285 hW hs hz hM hF (c := c + 950 * z + sm z (fun y => chs M y (zn M) 106) + 949) (s := s + 25812 * z + sm z (fun y => chs M y (zn M) 2988) + 25542) (fun A4 dm4 fN4 fS4 hx4 hC4 hN4 hS4 hc4 => ?_) (zn M - (z + 1)) (z + 1) FU A3 dm3 fN (by omega) (by have : FU = 20000 := rfl; omega) (by omega) hx3 hC3 (fun y hy h => hI.2.1 y hy (by
          rcases h with h | h | ⟨h, h5⟩
          · exact Or.inl h
          · exact Or.inr (Or.inl h)
          · rcases Nat.eq_zero_or_pos y with h6 | h6
            · exact Or.inl h6
            · have := (ou_lt hW (c := y) h6 hy).2
              omega)) ?_
        · refine ih (z + 1) f A4 dm4 _ fN4 fS4 fT3 (by omega) (by omega) hx4 hC4 ⟨fun y hy h => ?_, hN4, hT3⟩ (hc4.mo (by rw [sm_s]; omega) (by rw [sm_s]; omega))
          rw [hS4 y]
          unfold fu
          by_cases e9 : y = z
          · rw [if_pos e9, if_pos e9, e9]
            exact ⟨rfl, rfl⟩
          · rw [if_neg e9, if_neg e9]
            exact hI.1 y hy (by omega)
        · have e0 : ∀ v, chs M z (z + 1) v = 0 := fun v => sm_zero (fun c hc => if_neg (by omega))
          rw [e0, e0]
          exact hc3.mo (by omega) (by omega)
    have h116 : ∀ (A' : AS) (dm' : DM), Ext A0 m0 A' dm' → CS A0.1 A' dm' (zn M) (rn M) fP fN fS fT → cst A0 A' (c + 950 * z + sm z (fun y => chs M y (zn M) 106) + 106) (s + 25812 * z + sm z (fun y => chs M y (zn M) 2988) + 2988) → Pz (Dc M) z = lp (Dc M) z (Nz (Dc M) z) → Go (bX8_clear_j116 (fun x0 x1 x2 A9 dm9 => bX8_clear_l47 f x0 x1 x2 A9 dm9) (J 0) (ii (zn M : Int)) (ii (z : Int)) (ii (Nz (Dc M) z)) A' dm') prW A' (fun y => y.1 = J 0 ∧ Ext A0 m0 y.2.1 y.2.2 ∧ CS A0.1 y.2.1 y.2.2 (zn M) (rn M) (fun z => (Pz (Dc M) z : Int)) (Nz (Dc M)) (Sz (Dc M)) (fun r k => Tz (Dc M) (4 * r + k)) ∧ cst A0 y.2.1 (c + 950 * zn M + sm (zn M) (fun y => chs M y (zn M) 106)) (s + 25812 * zn M + sm (zn M) (fun y => chs M y (zn M) 2988))) := by
      intro A' dm' hx' hC' hc' hp
      have hM' := hM.ext hx'
      unfold bX8_clear_j116
      rw [gkd_i hM'.o]
      refine Go.call (least_ok hW hs hz (by omega) hM') (fun x hx9 _ => ?_)
      obtain ⟨g1, g2, g3⟩ := hx9
      rw [g1, ← hp]
      exact h124 x.2.1 x.2.2 (hx'.tr g2) (hC'.ext g2) ((hc'.tr g3).mo (by omega) (by omega))
    rw [bX8_clear_l47, if_pos (by rw [ii_lt (by omega) (by omega) (by omega) (by omega)]; omega), gkd_i hM1.o, gtr_i hF1.2.1, hC.2.1.rd rfl hz, hNz, l0, ifeq (by omega) (by omega) (by omega) (by omega)]
    by_cases e0 : (z : Int) = 0
    · have e1 : z = 0 := by omega
      subst e1
      rw [if_pos e0]
      unfold bX8_clear_j85
      rw [if_pos (by decide)]
      refine h116 A dm hx hC (hc.mo (by omega) (by omega)) ?_
      obtain ⟨q1, q2⟩ := PN_0 (Dc M)
      rw [q2]
      exact q1
    · have hou := ou_lt hW (c := z) (by omega) hz
      have hoz : ouz M z < zn M := by omega
      have hPo := PN_9 hD (z := ouz M z) hoz
      have hPob : Pz (Dc M) (ouz M z) ≤ 9999 := hPo.2.2
      obtain ⟨-, q2⟩ := PN_s hD (z := z) (by omega) hz
      have q2 : Pz (Dc M) z = if Lz (Dc M) z (Pz (Dc M) (ouz M z)) ≤ Nz (Dc M) z ∧ Nz (Dc M) z ≤ Lz (Dc M) z ((Pz (Dc M) (ouz M z) : Int) + 1) then Pz (Dc M) (ouz M z) else lp (Dc M) z (Nz (Dc M) z) := q2
      have hLb := Lz_bd hD (z := z) hz (Pz (Dc M) (ouz M z) : Int)
      have hLb2 := Lz_bd hD (z := z) hz ((Pz (Dc M) (ouz M z) : Int) + 1)
      rw [if_neg e0, gkd_i hM1.o, gtr_i hF1.1, gkd_i hM1.o, gtr_i hM1.f0, gkd_i hM1.zl.k, bAL_get_ok hM1.zl rfl hz, bd_some, (hM1.z hz).rd2 (a := 0) (i := 0) rfl (by omega), show zrw M z 0 = M (7 + 12 * z) from rfl, hC.1.rd (i := ouz M z) (by unfold ouz; omega) hoz, (hI.1 (ouz M z) hoz hou.2).1]
      unfold bX8_clear_j85
      rw [l0, if_neg (by rw [ii_lt (by omega) (by omega) (by omega) (by omega)]; omega), gkd_i hM1.o]
      refine Go.call (level6 hW hs (p := (Pz (Dc M) (ouz M z) : Int)) (h := 0) (by omega) (Or.inl rfl) hM1 hz) (fun x hx9 _ => ?_)
      obtain ⟨g1, g2, g3⟩ := hx9
      have hx2 := hx.tr g2
      have hM2 := hM.ext hx2
      rw [g1, Int.add_zero, iflt (by omega) (by omega) (by omega) (by omega)]
      by_cases c1 : Nz (Dc M) z < Lz (Dc M) z (Pz (Dc M) (ouz M z) : Int)
      · rw [if_pos c1]
        refine h116 x.2.1 x.2.2 hx2 (hC.ext g2) ((hc.tr g3).mo (by omega) (by omega)) ?_
        rw [q2, if_neg (by omega)]
      · rw [if_neg c1, gkd_i hM2.o, l1]
        refine Go.call (level6 hW hs (p := (Pz (Dc M) (ouz M z) : Int)) (h := 1) (by omega) (Or.inr rfl) hM2 hz) (fun w hw9 _ => ?_)
        obtain ⟨k1, k2, k3⟩ := hw9
        rw [k1, iflt (by omega) (by omega) (by omega) (by omega)]
        by_cases c2 : Lz (Dc M) z ((Pz (Dc M) (ouz M z) : Int) + 1) < Nz (Dc M) z
        · rw [if_pos c2]
          refine h116 w.2.1 w.2.2 (hx2.tr k2) ((hC.ext g2).ext k2) (((hc.tr g3).tr k3).mo (by omega) (by omega)) ?_
          rw [q2, if_neg (by omega)]
        · rw [if_neg c2]
          have e9 : Pz (Dc M) (ouz M z) = Pz (Dc M) z := by rw [q2, if_pos (by omega)]
          rw [e9]
          exact h124 w.2.1 w.2.2 (hx2.tr k2) ((hC.ext g2).ext k2) (((hc.tr g3).tr k3).mo (by omega) (by omega))
theorem chs_sum (hW : WF M) (hs : Sml M) {v : Int} (hv : 0 ≤ v) : sm (zn M) (fun y => chs M y (zn M) v) ≤ 4 * v := by
  unfold chs
  rw [sm_swap]
  have h1 : sm (zn M) (fun c => sm (zn M) (fun y => if y < c ∧ ouz M c = y then v else 0)) ≤ sm (zn M) (fun c => if c = 0 then 0 else v) := by
    refine sm_le (fun c hc => ?_)
    rcases Nat.eq_zero_or_pos c with h | h
    · subst h
      rw [sm_zero (fun y _ => if_neg (by omega)), if_pos rfl]
      exact Int.le_refl _
    · have hou := (ou_lt hW h hc).2
      rw [sm_one (k := ouz M c) (by omega) _ (fun y _ hy => if_neg (by omega)), if_pos ⟨hou, rfl⟩, if_neg (by omega)]
      exact Int.le_refl _
  have h2 : ∀ n : Nat, sm (n + 1) (fun c => if c = 0 then (0 : Int) else v) = n * v := by
    intro n
    induction n with
    | zero => rw [sm_s, sm_0, if_pos rfl]; simp
    | succ n ih =>
      rw [sm_s, ih, if_neg (by omega), Int.natCast_add, Int.add_mul]
      simp
  have hzb := hW.1.zn
  have hzc := zn_c hW.1
  have h5 := hs.1
  obtain ⟨n, hn⟩ : ∃ n, zn M = n + 1 := ⟨zn M - 1, by omega⟩
  rw [hn] at h1 ⊢
  rw [h2] at h1
  have : (n : Int) * v ≤ 4 * v := Int.mul_le_mul_of_nonneg_right (by omega) hv
  omega
/-- what the market holds once cleared -/
def CLR (A : AS) (dm : DM) (a b : Nat) (M : WM) : Prop := FD b dm a ∧ CS b A dm (zn M) (rn M) (fun z => (Pz (Dc M) z : Int)) (Nz (Dc M)) (Sz (Dc M)) (fun r k => Tz (Dc M) (4 * r + k))
theorem CLR.ext {a : Nat} (h : CLR A dm a b M) (hk : okd A a 8) (hx : Ext A dm A1 m1) : CLR A1 m1 a b M := ⟨hx.fd hk h.1, h.2.ext hx⟩
end
