/-! the law's market as it grows -/
/-- no cell has two roles -/
def Sep (A : AS) (J : Nat → Nat) : Prop := (∀ i, J i ≤ A.1) ∧ ∀ i j, J i = J j → J i ≠ 0 → i = j
/-- list x is changed, e is its new one -/
def FR (x e : Nat) (A : AS) (dm : DM) (J : Nat → Nat) (A' : AS) (dm' : DM) (J' : Nat → Nat) : Prop := A.1 ≤ A'.1 ∧ (∀ c, c ≤ A.1 → A'.2.2.1 c = A.2.2.1 c) ∧ (∀ i, i ≠ e → i ≠ 1000 + x → i ≠ 1000 + e → J' i = J i) ∧ ∀ c, c ≤ A.1 → c ≠ J x → c ≠ J (1000 + x) → dm' c = dm c
/-- nothing of what was there has changed, but lists -/
def ExtL (A : AS) (dm : DM) (A' : AS) (dm' : DM) : Prop := le2 A A' ∧ A'.2.2.2 = A.2.2.2 ∧ ∀ c, c ≤ A.1 → A'.2.2.1 c = A.2.2.1 c ∧ (1 ≤ c → (A.2.2.1 c).1 ≠ 9 → (A.2.2.1 c).1 ≠ 21 → dm' c = dm c)
def MkX (x : Nat) (A : AS) (dm : DM) (J : Nat → Nat) (M : WM) (a b c d : Nat) (np ns : Nat → Nat) : Prop :=
  (okd A (J 0) 8 ∧ dm (J 0) 0 = .ref (J 1) ∧ dm (J 0) 1 = .ref (J 3) ∧ dm (J 0) 2 = .ref (J 5) ∧ dm (J 0) 3 = .ref (J 7) ∧ dm (J 0) 4 = .ref (J 9)) ∧ dm (J 0) 5 = .int (ii (M 2)) ∧
  (x ≠ 1 → LiR A dm (J 1) (J (1000 + 1)) a (fun z => J (10 + z))) ∧ (x ≠ 3 → LiR A dm (J 3) (J (1000 + 3)) b (fun z => J (20 + z))) ∧ (x ≠ 5 → LiR A dm (J 5) (J (1000 + 5)) c (fun r => J (40 + r))) ∧ (x ≠ 7 → LiR A dm (J 7) (J (1000 + 7)) d (fun r => J (50 + r))) ∧ (x ≠ 9 → NR A dm (J 9) 4 (fun k => M (3 + k))) ∧
  (∀ z, z < a → x ≠ 10 + z → NR A dm (J (10 + z)) 3 (zrw M z)) ∧ (∀ z, z < b → x ≠ 20 + z → LiR A dm (J (20 + z)) (J (1000 + (20 + z))) (np z) (fun k => J (100 + 10 * z + k))) ∧ (∀ z, z < b → ∀ k, k < np z → NR A dm (J (100 + 10 * z + k)) 2 (ptr M z k)) ∧
  (∀ r, r < c → x ≠ 40 + r → NR A dm (J (40 + r)) 6 (rrw M r)) ∧ (∀ r, r < d → x ≠ 50 + r → LiR A dm (J (50 + r)) (J (1000 + (50 + r))) (ns r) (fun k => J (200 + 10 * r + k))) ∧ (∀ r, r < d → ∀ k, k < ns r → NR A dm (J (200 + 10 * r + k)) 2 (str M r k))
section
variable {A A1 A2 A' : AS} {dm m1 m2 dm' : DM} {J J' : Nat → Nat} {M M' : WM} {x e v a b c d n : Nat} {np ns : Nat → Nat} {f : Nat → Int} {g : Nat → Nat}
theorem MkX.r (h : MkX 0 A dm J M (zn M) (zn M) (rn M) (rn M) (npt M) (stp M)) : MkR A dm J M := by
  obtain ⟨hob, hce, p1, p3, p5, p7, p9, pz, pc, pp, pr, ps, pt⟩ := h
  exact ⟨hob.1, hob.2, hce, ⟨p1 (by omega), p3 (by omega), p5 (by omega), p7 (by omega)⟩, p9 (by omega), fun z hz => ⟨pz z hz (by omega), pc z hz (by omega), pp z hz⟩, fun r hr => ⟨pr r hr (by omega), ps r hr (by omega), pt r hr⟩⟩
theorem MkR.tox (h : MkR A dm J M) : MkX 0 A dm J M (zn M) (zn M) (rn M) (rn M) (npt M) (stp M) :=
  ⟨⟨h.o, h.f0, h.f1, h.f2, h.f3, h.f4⟩, h.f5, fun _ => h.zl, fun _ => h.cl, fun _ => h.rl, fun _ => h.sl, fun _ => h.fr, fun z hz _ => h.z hz, fun z hz _ => h.c hz, fun z hz k hk => h.p hz hk, fun r hr _ => h.r hr, fun r hr _ => h.s hr, fun r hr k hk => h.t hr hk⟩
theorem Sep.ne (hS : Sep A J) {i j : Nat} (h : i ≠ j) (h0 : 1 ≤ J i) : J i ≠ J j := fun q => h (hS.2 i j q (by omega))
theorem LiR.cg {q dd : Nat} {g' : Nat → Nat} (h : LiR A dm q dd n g) (e : ∀ k, k < n → g k = g' k) : LiR A dm q dd n g' := ⟨h.1, h.2.1, h.2.2.1, h.2.2.2.1, h.2.2.2.2.1, h.2.2.2.2.2.1, fun i hi => by rw [h.2.2.2.2.2.2 i hi, e i hi]⟩
theorem ExtL.rf (A : AS) (dm : DM) : ExtL A dm A dm := ⟨le2.rf A, rfl, fun _ _ => ⟨rfl, fun _ _ _ => rfl⟩⟩
theorem Ext.l (h : Ext A dm A1 m1) : ExtL A dm A1 m1 := ⟨h.1, h.2.1, fun c hc => ⟨(h.2.2 c hc).1, fun _ _ _ => (h.2.2 c hc).2⟩⟩
theorem ExtL.tr (h : ExtL A dm A1 m1) (k : ExtL A1 m1 A2 m2) : ExtL A dm A2 m2 :=
  ⟨h.1.tr k.1, k.2.1.trans h.2.1, fun c hc => ⟨(k.2.2 c (Nat.le_trans hc h.1.1)).1.trans (h.2.2 c hc).1, fun e1 e9 e21 => ((k.2.2 c (Nat.le_trans hc h.1.1)).2 e1 (by rw [(h.2.2 c hc).1]; exact e9) (by rw [(h.2.2 c hc).1]; exact e21)).trans ((h.2.2 c hc).2 e1 e9 e21)⟩⟩
theorem ExtL.kd (h : ExtL A dm A1 m1) {c k : Nat} (hk : okd A c k) : okd A1 c k := ⟨⟨hk.1.1, Nat.le_trans hk.1.2 h.1.1⟩, by rw [(h.2.2 c hk.1.2).1]; exact hk.2⟩
theorem ExtL.vl (h : ExtL A dm A1 m1) {c k : Nat} (hk : okd A c k) (e9 : k ≠ 9) (e21 : k ≠ 21) : m1 c = dm c := (h.2.2 c hk.1.2).2 hk.1.1 (by rw [hk.2]; exact e9) (by rw [hk.2]; exact e21)
theorem NR.el {q : Nat} (h : NR A dm q n f) (hx : ExtL A dm A1 m1) : NR A1 m1 q n f := h.frm hx.1.1 (hx.2.2 q h.1.1.2).1 (hx.vl h.1 (by decide) (by decide))
theorem DrR.el {q : Nat} (h : DrR A dm q) (hx : ExtL A dm A1 m1) : DrR A1 m1 q := ⟨hx.kd h.1, by rw [hx.vl h.1 (by decide) (by decide)]; exact h.2⟩
theorem Sep.mo (hS : Sep A J) (h : A.1 ≤ A1.1) : Sep A1 J := ⟨fun i => Nat.le_trans (hS.1 i) h, hS.2⟩
theorem MkX.ext (h : MkX x A dm J M a b c d np ns) (hx : Ext A dm A1 m1) : MkX x A1 m1 J M a b c d np ns := by
  obtain ⟨hob, hce, p1, p3, p5, p7, p9, pz, pc, pp, pr, ps, pt⟩ := h
  have hv : ∀ i, m1 (J 0) i = dm (J 0) i := fun i => hx.v hob.1 i
  exact ⟨⟨hx.kd hob.1, (hv 0).trans hob.2.1, (hv 1).trans hob.2.2.1, (hv 2).trans hob.2.2.2.1, (hv 3).trans hob.2.2.2.2.1, (hv 4).trans hob.2.2.2.2.2⟩, (hv 5).trans hce, fun q => (p1 q).ext hx, fun q => (p3 q).ext hx, fun q => (p5 q).ext hx, fun q => (p7 q).ext hx, fun q => (p9 q).ext hx, fun z hz q => (pz z hz q).ext hx, fun z hz q => (pc z hz q).ext hx, fun z hz k hk => (pp z hz k hk).ext hx, fun r hr q => (pr r hr q).ext hx, fun r hr q => (ps r hr q).ext hx, fun r hr k hk => (pt r hr k hk).ext hx⟩
theorem MkX.k7 (h : MkX x A dm J M a b c d np ns) (hx : ExtK 7 A dm A1 m1) : MkX x A1 m1 J M a b c d np ns := by
  obtain ⟨hob, hce, p1, p3, p5, p7, p9, pz, pc, pp, pr, ps, pt⟩ := h
  have hv : ∀ i, m1 (J 0) i = dm (J 0) i := fun i => hx.v hob.1 (by decide) i
  exact ⟨⟨hx.kd hob.1, (hv 0).trans hob.2.1, (hv 1).trans hob.2.2.1, (hv 2).trans hob.2.2.2.1, (hv 3).trans hob.2.2.2.2.1, (hv 4).trans hob.2.2.2.2.2⟩, (hv 5).trans hce, fun q => (p1 q).ek hx (by decide) (by decide), fun q => (p3 q).ek hx (by decide) (by decide), fun q => (p5 q).ek hx (by decide) (by decide), fun q => (p7 q).ek hx (by decide) (by decide), fun q => (p9 q).ek hx (by decide), fun z hz q => (pz z hz q).ek hx (by decide), fun z hz q => (pc z hz q).ek hx (by decide) (by decide), fun z hz k hk => (pp z hz k hk).ek hx (by decide), fun r hr q => (pr r hr q).ek hx (by decide), fun r hr q => (ps r hr q).ek hx (by decide) (by decide), fun r hr k hk => (pt r hr k hk).ek hx (by decide)⟩
/-- the same market, told otherwise -/
theorem MkX.cm (h : MkX x A dm J M a b c d np ns) (h2 : M' 2 = M 2) (hf : x ≠ 9 → ∀ k, k < 4 → M' (3 + k) = M (3 + k)) (hz : ∀ z, z < a → x ≠ 10 + z → ∀ i, i < 3 → zrw M' z i = zrw M z i) (hp : ∀ z, z < b → ∀ k, k < np z → ∀ i, i < 2 → ptr M' z k i = ptr M z k i) (hr : ∀ r, r < c → x ≠ 40 + r → ∀ i, i < 6 → rrw M' r i = rrw M r i) (hs : ∀ r, r < d → ∀ k, k < ns r → ∀ i, i < 2 → str M' r k i = str M r k i) : MkX x A dm J M' a b c d np ns := by
  obtain ⟨hob, hce, p1, p3, p5, p7, p9, pz, pc, pp, pr, ps, pt⟩ := h
  exact ⟨hob, by rw [h2]; exact hce, p1, p3, p5, p7, fun q => (p9 q).cg (fun k hk => (hf q k hk).symm), fun z h q => (pz z h q).cg (fun i hi => (hz z h q i hi).symm), pc, fun z h k hk => (pp z h k hk).cg (fun i hi => (hp z h k hk i hi).symm), fun r h q => (pr r h q).cg (fun i hi => (hr r h q i hi).symm), ps, fun r h k hk => (pt r h k hk).cg (fun i hi => (hs r h k hk i hi).symm)⟩
theorem FR.nr (hS : Sep A J) (hF : FR x e A dm J A' dm' J') {i : Nat} (h : NR A dm (J i) n f) (h1 : i ≠ e) (h2 : i ≠ x) (h3 : i < 1000) : NR A' dm' (J' i) n f := by
  rw [hF.2.2.1 i h1 (by omega) (by omega)]
  have h0 := h.1.1
  exact h.frm hF.1 (hF.2.1 _ h0.2) (hF.2.2.2 _ h0.2 (hS.ne h2 h0.1) (hS.ne (by omega) h0.1))
theorem FR.li (hS : Sep A J) (hF : FR x e A dm J A' dm' J') {i : Nat} (h : LiR A dm (J i) (J (1000 + i)) n (fun k => J (g k))) (hi : i < 1000) (h1 : i ≠ e) (h2 : i ≠ x) (hx : x < 1000) (he : e < 1000) (h4 : ∀ k, k < n → g k ≠ e ∧ g k < 1000) : LiR A' dm' (J' i) (J' (1000 + i)) n (fun k => J' (g k)) := by
  rw [hF.2.2.1 i h1 (by omega) (by omega), hF.2.2.1 (1000 + i) (by omega) (by omega) (by omega)]
  obtain ⟨k1, k2, k3, k4, k5, k6, k7⟩ := h
  have hv := hF.2.2.2 _ k1.1.2 (hS.ne h2 k1.1.1) (hS.ne (by omega) k1.1.1)
  refine ⟨⟨⟨k1.1.1, Nat.le_trans k1.1.2 hF.1⟩, by rw [hF.2.1 _ k1.1.2]; exact k1.2⟩, k2, by rw [hv]; exact k3, by rw [hv]; exact k4, by rw [hv]; exact k5, ?_, fun k hk => ?_⟩
  · rcases k6 with k6 | k6
    · exact Or.inl k6
    · exact Or.inr ⟨⟨⟨k6.1.1.1, Nat.le_trans k6.1.1.2 hF.1⟩, by rw [hF.2.1 _ k6.1.1.2]; exact k6.1.2⟩, by rw [hF.2.1 _ k6.1.1.2]; exact k6.2⟩
  · rcases k6 with k6 | k6
    · omega
    · have h0 := k6.1.1
      rw [hF.2.2.2 _ h0.2 (hS.ne (by omega) h0.1) (hS.ne (by omega) h0.1), k7 k hk]
      show Value.ref (J (g k)) = Value.ref (J' (g k))
      rw [hF.2.2.1 (g k) (h4 k hk).1 (by have := (h4 k hk).2; omega) (by have := (h4 k hk).2; omega)]
theorem MkX.fr (hS : Sep A J) (hF : FR x e A dm J A' dm' J') (h : MkX 0 A dm J M a b c d np ns) (hx : 1 ≤ x ∧ x < 100) (he : 10 ≤ e ∧ e < 1000) (u1 : ∀ z, z < a → 10 + z ≠ e) (u2 : ∀ z, z < b → 20 + z ≠ e) (u3 : ∀ r, r < c → 40 + r ≠ e) (u4 : ∀ r, r < d → 50 + r ≠ e) (u5 : ∀ z, z < b → ∀ k, k < np z → 100 + 10 * z + k ≠ e) (u6 : ∀ r, r < d → ∀ k, k < ns r → 200 + 10 * r + k ≠ e) : MkX x A' dm' J' M a b c d np ns := by
  obtain ⟨hob, hce, p1, p3, p5, p7, p9, pz, pc, pp, pr, ps, pt⟩ := h
  have ba := (p1 (by omega)).2.1
  have bb := (p3 (by omega)).2.1
  have bc := (p5 (by omega)).2.1
  have bd := (p7 (by omega)).2.1
  have hj : ∀ i, i < 10 → J' i = J i := fun i hi => hF.2.2.1 i (by omega) (by omega) (by omega)
  have h0 := hob.1.1
  have hv := hF.2.2.2 _ h0.2 (hS.ne (show 0 ≠ x by omega) h0.1) (hS.ne (by omega) h0.1)
  have bnp : ∀ z, z < b → np z ≤ 10 := fun z hz => (pc z hz (by omega)).2.1
  have bns : ∀ r, r < d → ns r ≤ 10 := fun r hr => (ps r hr (by omega)).2.1
  refine ⟨⟨?_, ?_, ?_, ?_, ?_, ?_⟩, ?_, fun q => ?_, fun q => ?_, fun q => ?_, fun q => ?_, fun q => ?_, fun z hz q => ?_, fun z hz q => ?_, fun z hz k hk => ?_, fun r hr q => ?_, fun r hr q => ?_, fun r hr k hk => ?_⟩
  · rw [hj 0 (by omega)]
    exact ⟨⟨h0.1, Nat.le_trans h0.2 hF.1⟩, by rw [hF.2.1 _ h0.2]; exact hob.1.2⟩
  · rw [hj 0 (by omega), hj 1 (by omega), hv]
    exact hob.2.1
  · rw [hj 0 (by omega), hj 3 (by omega), hv]
    exact hob.2.2.1
  · rw [hj 0 (by omega), hj 5 (by omega), hv]
    exact hob.2.2.2.1
  · rw [hj 0 (by omega), hj 7 (by omega), hv]
    exact hob.2.2.2.2.1
  · rw [hj 0 (by omega), hj 9 (by omega), hv]
    exact hob.2.2.2.2.2
  · rw [hj 0 (by omega), hv]
    exact hce
  · exact hF.li hS (g := fun z => 10 + z) (p1 (by omega)) (by omega) (by omega) (Ne.symm q) (by omega) (by omega) (fun k hk => ⟨u1 k hk, by omega⟩)
  · exact hF.li hS (g := fun z => 20 + z) (p3 (by omega)) (by omega) (by omega) (Ne.symm q) (by omega) (by omega) (fun k hk => ⟨u2 k hk, by omega⟩)
  · exact hF.li hS (g := fun z => 40 + z) (p5 (by omega)) (by omega) (by omega) (Ne.symm q) (by omega) (by omega) (fun k hk => ⟨u3 k hk, by omega⟩)
  · exact hF.li hS (g := fun z => 50 + z) (p7 (by omega)) (by omega) (by omega) (Ne.symm q) (by omega) (by omega) (fun k hk => ⟨u4 k hk, by omega⟩)
  · exact hF.nr hS (p9 (by omega)) (by omega) (Ne.symm q) (by omega)
  · exact hF.nr hS (pz z hz (by omega)) (u1 z hz) (Ne.symm q) (by omega)
  · exact hF.li hS (g := fun k => 100 + 10 * z + k) (pc z hz (by omega)) (by omega) (u2 z hz) (Ne.symm q) (by omega) (by omega) (fun k hk => ⟨u5 z hz k hk, by have := bnp z hz; omega⟩)
  · exact hF.nr hS (pp z hz k hk) (u5 z hz k hk) (by omega) (by have := bnp z hz; omega)
  · exact hF.nr hS (pr r hr (by omega)) (u3 r hr) (Ne.symm q) (by omega)
  · exact hF.li hS (g := fun k => 200 + 10 * r + k) (ps r hr (by omega)) (by omega) (u4 r hr) (Ne.symm q) (by omega) (by omega) (fun k hk => ⟨u6 r hr k hk, by have := bns r hr; omega⟩)
  · exact hF.nr hS (pt r hr k hk) (u6 r hr k hk) (by omega) (by have := bns r hr; omega)
/-- one more on a list -/
theorem FR.add (hS : Sep A J) (hl : LiR A dm (J x) (J (1000 + x)) n (fun k => J (g k))) (hn : n < 10) (hv : okd A v 20 ∨ okd A v 9) (hvf : ∀ i, J i ≠ v) (hx : x < 1000) (he : e < 1000) (hex : x ≠ e) (hg : ∀ k, k < n → g k ≠ e ∧ g k < 1000) (hgn : g n = e) : Go (bAL_add A dm (J x) v) prI A (fun y => y.1 = ii 1 ∧ ∃ J', FR x e A dm J y.2.1 y.2.2 J' ∧ Sep y.2.1 J' ∧ LiR y.2.1 y.2.2 (J' x) (J' (1000 + x)) (n + 1) (fun k => J' (g k)) ∧ J' e = v ∧ J' (1000 + e) = 0 ∧ ExtL A dm y.2.1 y.2.2 ∧ cst A y.2.1 1 10 ∧ y.2.2 v = dm v ∧ ∀ i, i < 1000 → i ≠ e → J' i = J i) := by
  obtain ⟨A', m', d', e1, e2, e3, e4, e5, e6, e7, e8, e9⟩ := bAL_add_ok hl hn hv
  have hvA : 1 ≤ v ∧ v ≤ A.1 := by rcases hv with h | h <;> exact h.1
  have hd' : 1 ≤ d' ∧ d' ≤ A'.1 := by
    rcases e8.2.2.2.2.2.1 with h | h
    · omega
    · exact h.1.1
  have hdj : ∀ i, i ≠ 1000 + x → J i = d' → J i = 0 := by
    intro i hi hq
    rcases e9 with ⟨h1, h2⟩ | ⟨h1, h2⟩
    · by_cases h0 : J i = 0
      · exact h0
      · exact absurd (hS.2 i (1000 + x) (by rw [hq, h1]) h0) hi
    · have := hS.1 i
      omega
  have hdv : d' ≠ v := by
    rcases e9 with ⟨h1, h2⟩ | ⟨h1, h2⟩
    · rw [h1]
      exact hvf _
    · omega
  obtain ⟨J', hJ⟩ : ∃ J' : Nat → Nat, ∀ i, J' i = if i = e then v else if i = 1000 + x then d' else if i = 1000 + e then 0 else J i := ⟨_, fun _ => rfl⟩
  have j1 : J' e = v := by rw [hJ, if_pos rfl]
  have j2 : J' (1000 + x) = d' := by rw [hJ, if_neg (by omega), if_pos rfl]
  have j3 : J' (1000 + e) = 0 := by rw [hJ, if_neg (by omega), if_neg (by omega), if_pos rfl]
  have j4 : ∀ i, i ≠ e → i ≠ 1000 + x → i ≠ 1000 + e → J' i = J i := fun i h1 h2 h3 => by rw [hJ, if_neg h1, if_neg h2, if_neg h3]
  refine ⟨(ii 1, A', m'), e1, e2, rfl, J', ⟨e2.1, e6, j4, fun c hc h1 h2 => e7 c hc h1 h2⟩, ⟨fun i => ?_, fun i j hij h0 => ?_⟩, ?_, j1, j3, ⟨e2, e5, fun c hc => ⟨e6 c hc, fun h1 h9 h21 => e7 c hc (fun q => h9 (by rw [q]; exact hl.1.2)) (fun q => ?_)⟩⟩, ⟨show (A'.1 : Int) ≤ A.1 + 1 by omega, show (A'.2.1 : Int) ≤ A.2.1 + 10 by omega⟩, e7 v hvA.2 (Ne.symm (hvf _)) (Ne.symm (hvf _)), fun i hi h => j4 i h (by omega) (by omega)⟩
  · have := hS.1 i
    have := e2.1
    show J' i ≤ A'.1
    rw [hJ]
    by_cases h1 : i = e
    · rw [if_pos h1]; omega
    rw [if_neg h1]
    by_cases h2 : i = 1000 + x
    · rw [if_pos h2]; omega
    rw [if_neg h2]
    by_cases h3 : i = 1000 + e
    · rw [if_pos h3]; omega
    rw [if_neg h3]; omega
  · have key : ∀ i, i ≠ e → i ≠ 1000 + x → J' i ≠ 0 → J' i = J i ∧ J i ≠ v ∧ J i ≠ d' := by
      intro i h1 h2 h3
      by_cases h4 : i = 1000 + e
      · rw [h4, j3] at h3
        exact absurd rfl h3
      · have h5 := j4 i h1 h2 h4
        rw [h5] at h3
        exact ⟨h5, hvf i, fun q => h3 (hdj i h2 q)⟩
    by_cases i1 : i = e
    · by_cases k1 : j = e
      · omega
      · by_cases k2 : j = 1000 + x
        · rw [i1, k2, j1, j2] at hij
          omega
        · have := key j k1 k2 (by rw [← hij]; exact h0)
          rw [i1, j1, this.1] at hij
          exact absurd hij.symm this.2.1
    · by_cases i2 : i = 1000 + x
      · by_cases k1 : j = e
        · rw [i2, k1, j1, j2] at hij
          omega
        · by_cases k2 : j = 1000 + x
          · omega
          · have := key j k1 k2 (by rw [← hij]; exact h0)
            rw [i2, j2, this.1] at hij
            exact absurd hij.symm this.2.2
      · have hi := key i i1 i2 h0
        by_cases k1 : j = e
        · rw [k1, j1, hi.1] at hij
          exact absurd hij hi.2.1
        · by_cases k2 : j = 1000 + x
          · rw [k2, j2, hi.1] at hij
            exact absurd hij hi.2.2
          · have hj := key j k1 k2 (by rw [← hij]; exact h0)
            exact hS.2 i j (by rw [← hi.1, ← hj.1]; exact hij) (by rw [← hi.1]; exact h0)
  · show LiR A' m' (J' x) (J' (1000 + x)) (n + 1) (fun k => J' (g k))
    rw [j4 x hex (by omega) (by omega), j2]
    refine e8.cg (fun k hk => ?_)
    by_cases h : k = n
    · rw [if_pos h, h, hgn, j1]
    · rw [if_neg h]
      have := hg k (by omega)
      exact (j4 (g k) this.1 (by omega) (by omega)).symm
  · rcases hl.2.2.2.2.2.1 with h | h
    · omega
    · exact h21 (by rw [q]; exact h.1.2)
end
