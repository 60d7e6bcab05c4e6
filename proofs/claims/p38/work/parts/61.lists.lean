/-! the law's own side: what its cells hold; forward steps through its pure functions -/
def le2 (A B : AS) : Prop := A.1 ≤ B.1 ∧ A.2.1 ≤ B.2.1
theorem le2.rf (A : AS) : le2 A A := ⟨Nat.le_refl _, Nat.le_refl _⟩
theorem le2.tr {A B C : AS} (h : le2 A B) (k : le2 B C) : le2 A C := ⟨Nat.le_trans h.1 k.1, Nat.le_trans h.2 k.2⟩
theorem le2_nw (A : AS) (k len sl : Nat) : le2 A (nw A k len sl) := ⟨Nat.le_succ _, Nat.le_add_right _ _⟩
/-- comes to its end with P, and no less made than at A -/
def Go {β : Type} (o : Option β) (pr : β → AS) (A : AS) (P : β → Prop) : Prop := ∃ y, o = some y ∧ le2 A (pr y) ∧ P y
section
variable {α β : Type} {pr : β → AS} {pa : α → AS} {A B : AS} {dm : DM} {P : β → Prop}
theorem Go.mk {y : β} (h : le2 A (pr y)) (hP : P y) : Go (some y) pr A P := ⟨y, rfl, h, hP⟩
theorem Go.eq {o o' : Option β} (h : o = o') (k : Go o' pr A P) : Go o pr A P := h ▸ k
theorem Go.imp {o : Option β} {Q : β → Prop} (k : Go o pr A Q) (h : ∀ y, Q y → P y) : Go o pr A P := by
  obtain ⟨y, h1, h2, h3⟩ := k
  exact ⟨y, h1, h2, h y h3⟩
theorem Go.low {o : Option β} (h : le2 A B) (k : Go o pr B P) : Go o pr A P := by
  obtain ⟨y, h1, h2, h3⟩ := k
  exact ⟨y, h1, h.tr h2, h3⟩
theorem Go.call {a : Option α} {Q : α → Prop} {f : α → Option β} (ha : Go a pa A Q) (k : ∀ x, Q x → le2 A (pa x) → Go (f x) pr (pa x) P) : Go (bdg pr A a pa f) pr A P := by
  obtain ⟨x, h1, h2, h3⟩ := ha
  obtain ⟨y, g1, g2, g3⟩ := k x h3 h2
  refine ⟨y, ?_, h2.tr g2, g3⟩
  unfold bdg
  rw [h1]
  dsimp only
  rw [g1]
  dsimp only
  rw [if_pos ⟨h2, g2⟩]
theorem go_alc {k len sl : Nat} {f : Nat → Value} {t : Nat → AS → DM → Option β} (h : Go (t (A.1 + 1) (nw A k len sl) (nwm A dm f)) pr (nw A k len sl) P) : Go (alc pr A dm k len sl f t) pr A P := by
  obtain ⟨y, g1, g2, g3⟩ := h
  refine ⟨y, ?_, (le2_nw A k len sl).tr g2, g3⟩
  unfold alc
  rw [g1]
  dsimp only
  rw [if_pos (show A.1 + 1 ≤ (pr y).1 ∧ A.2.1 + sl ≤ (pr y).2.1 from g2)]
theorem go_alg {n : Nat} {t : Nat → AS → DM → Option β} (h : Go (t (A.1 + 1) (grd A dm n n).1 (grd A dm n n).2) pr (grd A dm n n).1 P) : Go (alg pr A dm n t) pr A P := by
  obtain ⟨y, g1, g2, g3⟩ := h
  obtain ⟨e1, e2, e3⟩ := grd_sz A dm n n
  refine ⟨y, ?_, ⟨by have := g2.1; omega, by have := g2.2; omega⟩, g3⟩
  unfold alg
  rw [g1]
  dsimp only
  rw [if_pos ⟨by have := g2.1; omega, by have := g2.2; omega⟩]
end
theorem ifeq {β : Type} {a b : Int} (h1 : -2147483648 ≤ a) (h2 : a < 2147483648) (h3 : -2147483648 ≤ b) (h4 : b < 2147483648) (x y : β) : (if ii a = ii b then x else y) = if a = b then x else y := by
  have h := ii_eq h1 h2 h3 h4
  by_cases c : a = b
  · rw [if_pos c, if_pos (h ▸ c)]
  · rw [if_neg c, if_neg (fun q => c (h ▸ q))]
theorem iflt {β : Type} {a b : Int} (h1 : -2147483648 ≤ a) (h2 : a < 2147483648) (h3 : -2147483648 ≤ b) (h4 : b < 2147483648) (x y : β) : (if ii a < ii b then x else y) = if a < b then x else y := by
  have h := ii_lt h1 h2 h3 h4
  by_cases c : a < b
  · rw [if_pos c, if_pos (h ▸ c)]
  · rw [if_neg c, if_neg (fun q => c (h ▸ q))]
theorem gkd_i {β : Type} {A : AS} {c k : Nat} (h : okd A c k) (t : Option β) : gkd A c k t = t := by
  unfold gkd
  rw [if_pos (okb_iff.mpr h)]
theorem gti_i {β : Type} {v : Value} {x : Int32} (h : v = .int x) (k : Int32 → Option β) : gti v k = k x := by
  subst h
  rfl
theorem gtr_i {β : Type} {v : Value} {x : Nat} (h : v = .ref x) (k : Nat → Option β) : gtr v k = k x := by
  subst h
  rfl
theorem gix_i {β : Type} {A : AS} {c n : Nat} (hl : (A.2.2.1 c).2 = n) {a : Int} (h1 : 0 ≤ a) (h2 : a < n) (h3 : n < 2147483648) (t : Option β) : gix A c (ii a) t = t := by
  unfold gix
  rw [hl, if_pos (ii_inb h1 h2 h3)]
theorem gal_i {β : Type} {A : AS} {c : Nat} (h : okd A c 20 ∨ okd A c 21 ∨ c = 0) (t : Option β) : gal A c t = t := by
  unfold gal
  rw [if_pos (by rw [okb_iff, okb_iff]; exact h)]
theorem gst_i {β : Type} {A : AS} {c : Nat} (h : okd A c 20 ∨ okd A c 9) (t : Option β) : gst A c t = t := by
  unfold gst
  rw [if_pos (by rw [okb_iff, okb_iff]; exact h)]
theorem gob_i {β : Type} {A : AS} {c : Nat} (h : c = A.2.2.2) (t : Option β) : gob A c t = t := by
  unfold gob
  rw [if_pos h]
theorem gnn_i {β : Type} {a : Int} (h1 : 0 ≤ a) (h2 : a ≤ 10000) (t : Option β) : gnn (ii a) t = t := by
  unfold gnn
  rw [l0, ii_tn (by omega) (by omega), if_pos ⟨by rw [ii_lt (by omega) (by omega) (by omega) (by omega)]; omega, by omega⟩]
theorem tn_i {i : Nat} (h : i < 2147483648) : (ii (i : Int)).toNatClampNeg = i := by
  rw [ii_tn (by omega) (by omega)]
  omega
theorem up3_s {dm : DM} {c i : Nat} {v : Value} : up3 dm c i v c i = v := by simp [up3]
theorem up3_k {dm : DM} {c i j : Nat} {v : Value} (h : j ≠ i) : up3 dm c i v c j = dm c j := by simp [up3, h]
theorem up3_c {dm : DM} {c i a : Nat} {v : Value} (h : a ≠ c) (j : Nat) : up3 dm c i v a j = dm a j := by simp [up3, h]
/-- nothing of what was there has changed -/
def Ext (A : AS) (dm : DM) (A' : AS) (dm' : DM) : Prop := le2 A A' ∧ A'.2.2.2 = A.2.2.2 ∧ ∀ c, c ≤ A.1 → A'.2.2.1 c = A.2.2.1 c ∧ dm' c = dm c
section
variable {A A1 A2 : AS} {dm m1 m2 : DM}
theorem Ext.rf (A : AS) (dm : DM) : Ext A dm A dm := ⟨le2.rf A, rfl, fun _ _ => ⟨rfl, rfl⟩⟩
theorem Ext.tr (h : Ext A dm A1 m1) (k : Ext A1 m1 A2 m2) : Ext A dm A2 m2 :=
  ⟨h.1.tr k.1, k.2.1.trans h.2.1, fun c hc => ⟨(k.2.2 c (Nat.le_trans hc h.1.1)).1.trans (h.2.2 c hc).1, (k.2.2 c (Nat.le_trans hc h.1.1)).2.trans (h.2.2 c hc).2⟩⟩
theorem ext_nw (A : AS) (dm : DM) (k len sl : Nat) (f : Nat → Value) : Ext A dm (nw A k len sl) (nwm A dm f) := by
  refine ⟨le2_nw A k len sl, rfl, fun c hc => ⟨?_, ?_⟩⟩
  · show (if c = A.1 + 1 then (k, len) else A.2.2.1 c) = _
    rw [if_neg (by omega)]
  · show (if c = A.1 + 1 then f else dm c) = _
    rw [if_neg (by omega)]
theorem Ext.up (h : Ext A dm A1 m1) {c : Nat} (hc : A.1 < c) (i : Nat) (v : Value) : Ext A dm A1 (up3 m1 c i v) :=
  ⟨h.1, h.2.1, fun a ha => ⟨(h.2.2 a ha).1, (up3_ne (by omega)).trans (h.2.2 a ha).2⟩⟩
theorem Ext.kd (h : Ext A dm A1 m1) {c k : Nat} (hk : okd A c k) : okd A1 c k := ⟨⟨hk.1.1, Nat.le_trans hk.1.2 h.1.1⟩, by rw [(h.2.2 c hk.1.2).1]; exact hk.2⟩
theorem Ext.ln (h : Ext A dm A1 m1) {c k : Nat} (hk : okd A c k) : (A1.2.2.1 c).2 = (A.2.2.1 c).2 := by rw [(h.2.2 c hk.1.2).1]
theorem Ext.v (h : Ext A dm A1 m1) {c k : Nat} (hk : okd A c k) (i : Nat) : m1 c i = dm c i := by rw [(h.2.2 c hk.1.2).2]
theorem okd_nw (A : AS) (k len sl : Nat) : okd (nw A k len sl) (A.1 + 1) k := by
  refine ⟨⟨by omega, Nat.le_refl _⟩, ?_⟩
  show (if A.1 + 1 = A.1 + 1 then (k, len) else A.2.2.1 (A.1 + 1)).1 = k
  rw [if_pos rfl]
theorem ln_nw (A : AS) (k len sl : Nat) : ((nw A k len sl).2.2.1 (A.1 + 1)).2 = len := by
  show (if A.1 + 1 = A.1 + 1 then (k, len) else A.2.2.1 (A.1 + 1)).2 = len
  rw [if_pos rfl]
theorem nwm_s (A : AS) (dm : DM) (f : Nat → Value) : nwm A dm f (A.1 + 1) = f := by
  show (if A.1 + 1 = A.1 + 1 then f else dm (A.1 + 1)) = f
  rw [if_pos rfl]
end
/-- a row of numbers -/
def NR (A : AS) (dm : DM) (q n : Nat) (f : Nat → Int) : Prop := okd A q 20 ∧ (A.2.2.1 q).2 = n ∧ n < 2147483648 ∧ ∀ i, i < n → dm q i = .int (ii (f i))
theorem NR.ext {A A1 : AS} {dm m1 : DM} {q n : Nat} {f : Nat → Int} (h : NR A dm q n f) (hx : Ext A dm A1 m1) : NR A1 m1 q n f :=
  ⟨hx.kd h.1, (hx.ln h.1).trans h.2.1, h.2.2.1, fun i hi => (hx.v h.1 i).trans (h.2.2.2 i hi)⟩
theorem NR.rd {β : Type} {A : AS} {dm : DM} {q n : Nat} {f : Nat → Int} (h : NR A dm q n f) {a : Int} {i : Nat} (ha : a = i) (hi : i < n) (k : Int32 → Option β) : gkd A q 20 (gix A q (ii a) (gti (dm q (ii a).toNatClampNeg) k)) = k (ii (f i)) := by
  have := h.2.2.1
  rw [gkd_i h.1, gix_i h.2.1 (by omega) (by omega) h.2.2.1, ha, tn_i (by omega), gti_i (h.2.2.2 i hi)]
theorem NR.rd2 {β : Type} {A : AS} {dm : DM} {q n : Nat} {f : Nat → Int} (h : NR A dm q n f) {a : Int} {i : Nat} (ha : a = i) (hi : i < n) (k : Int32 → Option β) : gkd A q 20 (gkd A q 20 (gix A q (ii a) (gti (dm q (ii a).toNatClampNeg) k))) = k (ii (f i)) := by
  rw [gkd_i h.1, h.rd ha hi]
theorem NR.wr {β : Type} {A : AS} {dm : DM} {q n : Nat} {f : Nat → Int} (h : NR A dm q n f) {a : Int} {i : Nat} (ha : a = i) (hi : i < n) (v : Int) (k : DM → Option β) : gkd A q 20 (gix A q (ii a) (nm (up3 dm q (ii a).toNatClampNeg (.int (ii v))) k)) = k (up3 dm q i (.int (ii v))) := by
  have := h.2.2.1
  rw [gkd_i h.1, gix_i h.2.1 (by omega) (by omega) h.2.2.1, ha, tn_i (by omega), nm_eq]
theorem NR.up {A : AS} {dm : DM} {q n : Nat} {f : Nat → Int} (h : NR A dm q n f) (i : Nat) (v : Int) : NR A (up3 dm q i (.int (ii v))) q n (fun j => if j = i then v else f j) := by
  refine ⟨h.1, h.2.1, h.2.2.1, fun j hj => ?_⟩
  show _ = Value.int (ii (if j = i then v else f j))
  by_cases e : j = i
  · subst e
    rw [up3_s, if_pos rfl]
  · rw [up3_k e, if_neg e]
    exact h.2.2.2 j hj
theorem NR.frm {A A1 : AS} {dm m1 : DM} {q n : Nat} {f : Nat → Int} (h : NR A dm q n f) (hk : A.1 ≤ A1.1) (hh : A1.2.2.1 q = A.2.2.1 q) (hv : m1 q = dm q) : NR A1 m1 q n f :=
  ⟨⟨⟨h.1.1.1, Nat.le_trans h.1.1.2 hk⟩, by rw [hh]; exact h.1.2⟩, by rw [hh]; exact h.2.1, h.2.2.1, fun i hi => by rw [hv]; exact h.2.2.2 i hi⟩
/-- a list: its object, its places, how many -/
def LiR (A : AS) (dm : DM) (q d n : Nat) (e : Nat → Nat) : Prop := okd A q 9 ∧ n ≤ 10 ∧ dm q 2 = .int (ii n) ∧ (∃ mc, dm q 0 = .int mc) ∧ dm q 1 = .ref d ∧ ((n = 0 ∧ d = 0) ∨ (okd A d 21 ∧ (A.2.2.1 d).2 = 10)) ∧ ∀ i, i < n → dm d i = .ref (e i)
section
variable {A A1 : AS} {dm m1 : DM} {q d n : Nat} {e : Nat → Nat}
theorem LiR.k (h : LiR A dm q d n e) : okd A q 9 := h.1
theorem LiR.sz (h : LiR A dm q d n e) : dm q 2 = .int (ii n) := h.2.2.1
theorem LiR.dt (h : LiR A dm q d n e) : dm q 1 = .ref d := h.2.2.2.2.1
theorem LiR.dk (h : LiR A dm q d n e) (hn : 0 < n) : okd A d 21 ∧ (A.2.2.1 d).2 = 10 := by
  rcases h.2.2.2.2.2.1 with h | h
  · omega
  · exact h
theorem LiR.frm (h : LiR A dm q d n e) (hk : A.1 ≤ A1.1) (hh : A1.2.2.1 q = A.2.2.1 q) (hv : m1 q = dm q) (hhd : A1.2.2.1 d = A.2.2.1 d) (hvd : m1 d = dm d) : LiR A1 m1 q d n e := by
  obtain ⟨h1, h2, h3, h4, h5, h6, h7⟩ := h
  refine ⟨⟨⟨h1.1.1, Nat.le_trans h1.1.2 hk⟩, by rw [hh]; exact h1.2⟩, h2, by rw [hv]; exact h3, by rw [hv]; exact h4, by rw [hv]; exact h5, ?_, fun i hi => by rw [hvd]; exact h7 i hi⟩
  rcases h6 with h6 | h6
  · exact Or.inl h6
  · exact Or.inr ⟨⟨⟨h6.1.1.1, Nat.le_trans h6.1.1.2 hk⟩, by rw [hhd]; exact h6.1.2⟩, by rw [hhd]; exact h6.2⟩
theorem LiR.ext (h : LiR A dm q d n e) (hx : Ext A dm A1 m1) : LiR A1 m1 q d n e := by
  obtain ⟨h1, h2, h3, h4, h5, h6, h7⟩ := h
  refine ⟨hx.kd h1, h2, (hx.v h1 2).trans h3, by rw [hx.v h1 0]; exact h4, (hx.v h1 1).trans h5, ?_, fun i hi => ?_⟩
  · rcases h6 with h6 | h6
    · exact Or.inl h6
    · exact Or.inr ⟨hx.kd h6.1, (hx.ln h6.1).trans h6.2⟩
  · rcases h6 with h6 | h6
    · omega
    · exact (hx.v h6.1 i).trans (h7 i hi)
theorem bAL_size_ok (h : LiR A dm q d n e) : bAL_size A dm q = some (ii n) := by
  unfold bAL_size
  rw [gkd_i h.k, gti_i h.sz]
theorem bAL_isEmpty_ok (h : LiR A dm q d n e) : bAL_isEmpty A dm q = some (ii (if n = 0 then 1 else 0)) := by
  have := h.2.1
  unfold bAL_isEmpty
  rw [gkd_i h.k, gti_i h.sz, l0, ifeq (by omega) (by omega) (by omega) (by omega), l1]
  by_cases hn : n = 0
  · rw [if_pos (by omega), if_pos hn]
  · rw [if_neg (by omega), if_neg hn]
theorem checkIndex_ok {a b : Int} (h1 : 0 ≤ a) (h2 : a < b) (h3 : b < 2147483648) : bOB_checkIndex A dm (ii a) (ii b) = some (ii a) := by
  unfold bOB_checkIndex bPC_checkIndex
  rw [l0, if_neg (by rw [ii_lt (by omega) (by omega) (by omega) (by omega)]; omega), if_pos (by rw [ii_lt (by omega) (by omega) (by omega) (by omega)]; omega), bd_some]
theorem bAL_get_ok (h : LiR A dm q d n e) {a : Int} {i : Nat} (ha : a = i) (hi : i < n) : bAL_get A dm q (ii a) = some (e i) := by
  have hn := h.2.1
  obtain ⟨h1, h2⟩ := h.dk (by omega)
  unfold bAL_get bAL_elementData
  rw [gkd_i h.k, gti_i h.sz, checkIndex_ok (by omega) (by omega) (by omega), bd_some, gkd_i h.k, gkd_i h.k, gtr_i h.dt, gkd_i h1, gix_i h2 (by omega) (by omega) (by omega), ha, tn_i (by omega), gtr_i (h.2.2.2.2.2.2 i hi), bd_some]
/-- an iterator that stands at the i-th -/
def ITR (A : AS) (dm : DM) (it q i : Nat) : Prop := okd A it 10 ∧ dm it 0 = .int (ii i) ∧ dm it 3 = .ref q ∧ ∃ mc, dm it 2 = .int mc ∧ dm q 0 = .int mc
theorem bAL_iterator_ok (h : LiR A dm q d n e) : ∃ m', bAL_iterator A dm q = some (A.1 + 1, nw A 10 0 4, m') ∧ Ext A dm (nw A 10 0 4) m' ∧ ITR (nw A 10 0 4) m' (A.1 + 1) q 0 := by
  obtain ⟨mc, hmc⟩ := h.2.2.2.1
  have hx := ext_nw A dm 10 0 4 dfl10
  have hq : q ≠ A.1 + 1 := by have := h.1.1.2; omega
  have hk := okd_nw A 10 0 4
  refine ⟨up3 (up3 (up3 (nwm A dm dfl10) (A.1 + 1) 3 (.ref q)) (A.1 + 1) 1 (.int (-1))) (A.1 + 1) 2 (.int mc), ?_, ((hx.up (by omega) _ _).up (by omega) _ _).up (by omega) _ _, hk, ?_, ?_, mc, up3_s, ?_⟩
  · unfold bAL_iterator
    have : Go (alc (fun (x : Nat × AS × DM) => x.2.1) A dm 10 0 4 dfl10 (fun q1 A2 m3 => bd (bIT_init A2 m3 q1 q) (fun r4 => some (q1, A2, r4)))) (fun (x : Nat × AS × DM) => x.2.1) A (fun y => y = (A.1 + 1, nw A 10 0 4, up3 (up3 (up3 (nwm A dm dfl10) (A.1 + 1) 3 (.ref q)) (A.1 + 1) 1 (.int (-1))) (A.1 + 1) 2 (.int mc))) := by
      refine go_alc ?_
      have : bIT_init (nw A 10 0 4) (nwm A dm dfl10) (A.1 + 1) q = some (up3 (up3 (up3 (nwm A dm dfl10) (A.1 + 1) 3 (.ref q)) (A.1 + 1) 1 (.int (-1))) (A.1 + 1) 2 (.int mc)) := by
        unfold bIT_init
        rw [gkd_i hk, nm_eq, gkd_i hk, nm_eq, gkd_i hk, gtr_i (x := q) (by rw [up3_k (by omega), up3_s]), gkd_i (hx.kd h.k), gti_i (x := mc) (by rw [up3_c hq, up3_c hq, hx.v h.k]; exact hmc), gkd_i hk, nm_eq]
      rw [this, bd_some]
      exact Go.mk (le2.rf _) rfl
    obtain ⟨y, e1, -, rfl⟩ := this
    exact e1
  · rw [up3_k (by omega), up3_k (by omega), up3_k (by omega), nwm_s]
    rfl
  · rw [up3_k (by omega), up3_k (by omega), up3_s]
  · rw [up3_c hq, up3_c hq, up3_c hq, hx.v h.k]
    exact hmc
theorem bIT_hasNext_ok {it i : Nat} (h : LiR A dm q d n e) (hi : ITR A dm it q i) (hin : i ≤ n) : bIT_hasNext A dm it = some (ii (if i = n then 0 else 1)) := by
  have := h.2.1
  unfold bIT_hasNext
  rw [gkd_i hi.1, gti_i hi.2.1, gkd_i hi.1, gtr_i hi.2.2.1, gkd_i h.k, gti_i h.sz, l0, l1, ifeq (by omega) (by omega) (by omega) (by omega)]
  by_cases hn : i = n
  · rw [if_pos (by omega), if_pos hn]
  · rw [if_neg (by omega), if_neg hn]
theorem bIT_next_ok {it i : Nat} (h : LiR A dm q d n e) (hi : ITR A dm it q i) (hin : i < n) (hd : it ≠ q) (hdd : it ≠ d) : ∃ m', bIT_next A dm it = some (e i, m') ∧ (∀ c, c ≠ it → m' c = dm c) ∧ ITR A m' it q (i + 1) := by
  have hn := h.2.1
  obtain ⟨h1, h2⟩ := h.dk (by omega)
  obtain ⟨hk, hc, ht, mc, hm, hq⟩ := hi
  have hf : ∀ c, c ≠ it → up3 (up3 dm it 0 (.int (ii (i + 1)))) it 1 (.int (ii i)) c = dm c := fun c hc => (up3_ne hc).trans (up3_ne hc)
  refine ⟨up3 (up3 dm it 0 (.int (ii (i + 1)))) it 1 (.int (ii i)), ?_, hf, hk, ?_, ?_, mc, ?_, ?_⟩
  · unfold bIT_next bIT_checkForComodification
    have hl : lenA A d = 10 := by rw [lenA_pos h1, h2]
    rw [gkd_i hk, gkd_i hk, gtr_i ht, gkd_i h.k, gti_i hq, gkd_i hk, gti_i hm, if_pos rfl, bd_some, gkd_i hk, gti_i hc, gkd_i hk, gtr_i ht, gkd_i h.k, gti_i h.sz, if_pos (by rw [ii_lt (by omega) (by omega) (by omega) (by omega)]; omega), gkd_i hk, gtr_i ht, gkd_i h.k, gtr_i h.dt, gal_i (Or.inr (Or.inl h1)), hl, ii_nI, if_pos (by rw [ii_lt (by omega) (by omega) (by omega) (by omega)]; omega), gkd_i hk, nm_eq, gkd_i hk, nm_eq, gkd_i h1, gix_i h2 (by omega) (by omega) (by omega), tn_i (by omega), l1, ii_add, gtr_i (x := e i) (by rw [hf d (Ne.symm hdd)]; exact h.2.2.2.2.2.2 i hin)]
  · rw [up3_k (by omega), up3_s]
    congr 2
  · rw [up3_k (by omega), up3_k (by omega)]
    exact ht
  · rw [up3_k (by omega), up3_k (by omega)]
    exact hm
  · rw [hf q (Ne.symm hd)]
    exact hq
/-- one more: the places are made at the first -/
theorem bAL_add_ok (h : LiR A dm q d n e) (hn : n < 10) {v : Nat} (hv : okd A v 20 ∨ okd A v 9) : ∃ A' m' d', bAL_add A dm q v = some (ii 1, A', m') ∧ le2 A A' ∧ A'.1 ≤ A.1 + 1 ∧ A'.2.1 ≤ A.2.1 + 10 ∧ A'.2.2.2 = A.2.2.2 ∧ (∀ c, c ≤ A.1 → A'.2.2.1 c = A.2.2.1 c) ∧ (∀ c, c ≤ A.1 → c ≠ q → c ≠ d → m' c = dm c) ∧ LiR A' m' q d' (n + 1) (fun i => if i = n then v else e i) ∧ ((d' = d ∧ d ≠ 0) ∨ (d = 0 ∧ d' = A.1 + 1)) := by
  obtain ⟨mc, hmc⟩ := h.2.2.2.1
  obtain ⟨hk, hn10, hsz, -, hdt, hdd, hel⟩ := h
  rcases hdd with ⟨h0, hd0⟩ | ⟨hd1, hd2⟩
  · subst h0 hd0
    -- the first: ten places are made
    have hx := ext_nw A (up3 dm q 0 (.int (mc + 1))) 21 10 10 (fun _ => .null)
    have hkd := okd_nw A 21 10 10
    have hq : q ≠ A.1 + 1 := by have := hk.1.2; omega
    refine ⟨nw A 21 10 10, up3 (up3 (up3 (nwm A (up3 dm q 0 (.int (mc + 1))) (fun _ => .null)) q 1 (.ref (A.1 + 1))) (A.1 + 1) 0 (.ref v)) q 2 (.int (ii 1)), A.1 + 1, ?_, hx.1, Nat.le_refl _, Nat.le_refl _, rfl, fun c hc => (hx.2.2 c hc).1, fun c hc h1 h2 => ?_, ⟨hx.kd hk, by omega, up3_s, ⟨mc + 1, ?_⟩, ?_, Or.inr ⟨hkd, ln_nw A 21 10 10⟩, fun i hi => ?_⟩, Or.inr ⟨rfl, rfl⟩⟩
    · unfold bAL_add
      have hadd : Go (bAL_add2 A (up3 dm q 0 (.int (mc + 1))) q v 0 (ii (0 : Nat))) (fun (x : AS × DM) => x.1) A (fun y => y = (nw A 21 10 10, up3 (up3 (up3 (nwm A (up3 dm q 0 (.int (mc + 1))) (fun _ => .null)) q 1 (.ref (A.1 + 1))) (A.1 + 1) 0 (.ref v)) q 2 (.int (ii 1)))) := by
        unfold bAL_add2
        rw [gal_i (Or.inr (Or.inr rfl)), show lenA A 0 = 0 from rfl, ii_nI, if_pos rfl, gkd_i hk]
        refine Go.call (Q := fun x => x = (A.1 + 1, nw A 21 10 10, up3 (nwm A (up3 dm q 0 (.int (mc + 1))) (fun _ => .null)) q 1 (.ref (A.1 + 1)))) ?_ (fun x hx2 _ => ?_)
        · unfold bAL_grow
          rw [gkd_i hk, gti_i (x := ii (0 : Nat)) (by rw [up3_k (by omega)]; exact hsz), gkd_i hk]
          refine Go.call (Q := fun x => x = (A.1 + 1, nw A 21 10 10, up3 (nwm A (up3 dm q 0 (.int (mc + 1))) (fun _ => .null)) q 1 (.ref (A.1 + 1)))) ?_ (fun x hx2 _ => ?_)
          · unfold bAL_grow1
            rw [gkd_i hk, gtr_i (x := 0) (by rw [up3_k (by omega)]; exact hdt), gal_i (Or.inr (Or.inr rfl)), show lenA A 0 = 0 from rfl, nm_eq, ii_nI, if_neg (by decide), gkd_i hk, gtr_i (x := 0) (by rw [up3_k (by omega)]; exact hdt), if_pos rfl, nm_eq, show mxi (10 : Int32) (ii ((0 : Nat) : Int) + (1 : Int32)) = ii 10 by decide, gnn_i (by omega) (by omega), show (ii 10).toNatClampNeg = 10 by decide]
            refine go_alc ?_
            rw [gkd_i (hx.kd hk), nm_eq]
            exact Go.mk (le2.rf _) rfl
          · subst hx2
            exact Go.mk (le2.rf _) rfl
        · subst hx2
          unfold bAL_add2_j11
          dsimp only
          rw [gkd_i hkd, gix_i (ln_nw A 21 10 10) (by omega) (by omega) (by omega), gst_i (hv.imp hx.kd hx.kd), nm_eq, gkd_i (hx.kd hk), nm_eq, tn_i (by omega), l1, ii_add]
          exact Go.mk (le2.rf _) rfl
      rw [gkd_i hk, gti_i hmc, gkd_i hk, nm_eq, gkd_i hk, gtr_i (x := 0) (by rw [up3_k (by omega)]; exact hdt), gkd_i hk, gti_i (x := ii (0 : Nat)) (by rw [up3_k (by omega)]; exact hsz), gkd_i hk]
      have : Go (bdg (fun (x : Int32 × AS × DM) => x.2.1) A (bAL_add2 A (up3 dm q 0 (.int (mc + 1))) q v 0 (ii (0 : Nat))) (fun (x : AS × DM) => x.1) (fun r5 => some ((1 : Int32), r5.1, r5.2))) (fun (x : Int32 × AS × DM) => x.2.1) A (fun y => y = (ii 1, nw A 21 10 10, up3 (up3 (up3 (nwm A (up3 dm q 0 (.int (mc + 1))) (fun _ => .null)) q 1 (.ref (A.1 + 1))) (A.1 + 1) 0 (.ref v)) q 2 (.int (ii 1)))) := by
        refine Go.call hadd (fun x hx2 _ => ?_)
        subst hx2
        exact Go.mk (le2.rf _) rfl
      obtain ⟨y, e1, -, rfl⟩ := this
      exact e1
    · rw [up3_ne h1, up3_ne (by omega), up3_ne h1]
      exact ((ext_nw A (up3 dm q 0 (.int (mc + 1))) 21 10 10 (fun _ => .null)).2.2 c hc).2.trans (up3_ne h1)
    · rw [up3_k (by omega), up3_c hq, up3_k (by omega)]
      exact (congrFun ((ext_nw A (up3 dm q 0 (.int (mc + 1))) 21 10 10 (fun _ => .null)).2.2 q hk.1.2).2 0).trans up3_s
    · rw [up3_k (by omega), up3_c hq, up3_s]
    · have : i = 0 := by omega
      subst this
      rw [up3_c (Ne.symm hq), up3_s]
      rfl
  · -- there is room
    have hqd : q ≠ d := by
      intro e9
      subst e9
      have h1 := hk.2
      have h2 := hd1.2
      omega
    have hd0 : d ≠ 0 := by have := hd1.1.1; omega
    refine ⟨A, up3 (up3 (up3 dm q 0 (.int (mc + 1))) d n (.ref v)) q 2 (.int (ii (n + 1 : Nat))), d, ?_, le2.rf A, by omega, by omega, rfl, fun _ _ => rfl, fun c hc h1 h2 => ?_, ⟨hk, by omega, up3_s, ⟨mc + 1, ?_⟩, ?_, Or.inr ⟨hd1, hd2⟩, fun i hi => ?_⟩, Or.inl ⟨rfl, hd0⟩⟩
    · unfold bAL_add
      have hl : lenA A d = 10 := by rw [lenA_pos hd1, hd2]
      have hadd : Go (bAL_add2 A (up3 dm q 0 (.int (mc + 1))) q v d (ii n)) (fun (x : AS × DM) => x.1) A (fun y => y = (A, up3 (up3 (up3 dm q 0 (.int (mc + 1))) d n (.ref v)) q 2 (.int (ii (n + 1 : Nat))))) := by
        unfold bAL_add2
        rw [gal_i (Or.inr (Or.inl hd1)), hl, ii_nI, if_neg (by rw [ii_eq (by omega) (by omega) (by omega) (by omega)]; omega)]
        unfold bAL_add2_j11
        rw [gkd_i hd1, gix_i hd2 (by omega) (by omega) (by omega), gst_i hv, nm_eq, gkd_i hk, nm_eq, tn_i (by omega), l1, ii_add]
        exact Go.mk (le2.rf _) rfl
      rw [gkd_i hk, gti_i hmc, gkd_i hk, nm_eq, gkd_i hk, gtr_i (x := d) (by rw [up3_k (by omega)]; exact hdt), gkd_i hk, gti_i (x := ii n) (by rw [up3_k (by omega)]; exact hsz), gkd_i hk]
      have : Go (bdg (fun (x : Int32 × AS × DM) => x.2.1) A (bAL_add2 A (up3 dm q 0 (.int (mc + 1))) q v d (ii n)) (fun (x : AS × DM) => x.1) (fun r5 => some ((1 : Int32), r5.1, r5.2))) (fun (x : Int32 × AS × DM) => x.2.1) A (fun y => y = (ii 1, A, up3 (up3 (up3 dm q 0 (.int (mc + 1))) d n (.ref v)) q 2 (.int (ii (n + 1 : Nat))))) := by
        refine Go.call hadd (fun x hx2 _ => ?_)
        subst hx2
        exact Go.mk (le2.rf _) rfl
      obtain ⟨y, e1, -, rfl⟩ := this
      exact e1
    · rw [up3_ne h1, up3_ne h2, up3_ne h1]
    · rw [up3_k (by omega), up3_c hqd, up3_s]
    · rw [up3_k (by omega), up3_c hqd, up3_k (by omega)]
      exact hdt
    · rw [up3_c (Ne.symm hqd)]
      show _ = Value.ref (if i = n then v else e i)
      by_cases hi2 : i = n
      · subst hi2
        rw [up3_s, if_pos rfl]
      · rw [up3_k hi2, up3_c (Ne.symm hqd), if_neg hi2]
        exact hel i (by omega)
theorem clr27 (hd1 : okd A d 21) (hd2 : (A.2.2.1 d).2 = 10) {n : Nat} (hn : n ≤ 10) : ∀ (k i f : Nat) (dm : DM), i + k = n → k < f → ∃ m', bAL_clear_l27 A f d (ii n) (ii i) dm = some m' ∧ ∀ c, c ≠ d → m' c = dm c := by
  intro k
  induction k with
  | zero =>
    intro i f dm h1 h2
    obtain ⟨f, rfl⟩ : ∃ g, f = g + 1 := ⟨f - 1, by omega⟩
    refine ⟨dm, ?_, fun _ _ => rfl⟩
    rw [bAL_clear_l27, if_neg (by rw [ii_lt (by omega) (by omega) (by omega) (by omega)]; omega)]
  | succ k ih =>
    intro i f dm h1 h2
    obtain ⟨f, rfl⟩ : ∃ g, f = g + 1 := ⟨f - 1, by omega⟩
    obtain ⟨m', e1, e2⟩ := ih (i + 1) f (up3 dm d i .null) (by omega) (by omega)
    refine ⟨m', ?_, fun c hc => (e2 c hc).trans (up3_ne hc)⟩
    rw [bAL_clear_l27, if_pos (by rw [ii_lt (by omega) (by omega) (by omega) (by omega)]; omega), gkd_i hd1, gix_i hd2 (by omega) (by omega) (by omega), nm_eq, nm_eq, l1, ii_add, tn_i (by omega)]
    exact e1
theorem bAL_clear_ok (h : LiR A dm q d n e) : ∃ m', bAL_clear A dm q = some m' ∧ (∀ c, c ≠ q → c ≠ d → m' c = dm c) ∧ LiR A m' q d 0 e := by
  obtain ⟨mc, hmc⟩ := h.2.2.2.1
  obtain ⟨hk, hn10, hsz, -, hdt, hdd, hel⟩ := h
  have hgo : ∀ m5 : DM, ∃ m', bAL_clear_l27 A FU d (ii n) (ii (0 : Nat)) m5 = some m' ∧ ∀ c, c ≠ d → m' c = m5 c := by
    intro m5
    rcases hdd with ⟨h0, hd0⟩ | ⟨hd1, hd2⟩
    · subst h0 hd0
      exact ⟨m5, by rw [show FU = 19999 + 1 from rfl, bAL_clear_l27, if_neg (by decide)], fun _ _ => rfl⟩
    · exact clr27 hd1 hd2 hn10 n 0 FU m5 (by omega) (by have : FU = 20000 := rfl; omega)
  obtain ⟨m', e1, e2⟩ := hgo (up3 (up3 dm q 0 (.int (mc + 1))) q 2 (.int (ii (0 : Nat))))
  have hqd : q ≠ d := by
    intro e9
    subst e9
    rcases hdd with ⟨-, h2⟩ | ⟨h2, -⟩
    · have := hk.1.1; omega
    · have h1 := hk.2
      have h3 := h2.2
      omega
  refine ⟨m', ?_, fun c h1 h2 => (e2 c h2).trans ((up3_ne h1).trans (up3_ne h1)), hk, by omega, ?_, ⟨mc + 1, ?_⟩, ?_, ?_, fun i hi => absurd hi (by omega)⟩
  · unfold bAL_clear
    rw [gkd_i hk, gti_i hmc, gkd_i hk, nm_eq, gkd_i hk, gtr_i (x := d) (by rw [up3_k (by omega)]; exact hdt), gkd_i hk, gti_i (x := ii n) (by rw [up3_k (by omega)]; exact hsz), gkd_i hk, nm_eq]
    exact e1
  · rw [e2 q hqd, up3_s]
  · rw [e2 q hqd, up3_k (by omega), up3_s]
  · rw [e2 q hqd, up3_k (by omega), up3_k (by omega)]
    exact hdt
  · rcases hdd with ⟨h0, hd0⟩ | hd
    · exact Or.inl ⟨rfl, hd0⟩
    · exact Or.inr hd
end
