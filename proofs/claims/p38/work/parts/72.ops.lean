/-! one more of each, and changes in place -/
def GR (A : AS) (dm : DM) (J : Nat → Nat) (e v : Nat) (A' : AS) (dm' : DM) (J' : Nat → Nat) : Prop := Sep A' J' ∧ (∀ i, i < 1000 → i ≠ e → J' i = J i) ∧ J' e = v ∧ ExtL A dm A' dm' ∧ cst A A' 1 10
section
variable {A A1 A2 A' : AS} {dm m1 m2 dm' : DM} {J J' : Nat → Nat} {M M' : WM} {x e v a b c d n : Nat} {np ns np' ns' : Nat → Nat} {f : Nat → Int} {g g' : Nat → Nat}
theorem LiR.e0 (h : LiR A dm v 0 0 g) (hk : okd A' v 9) (hv : dm' v = dm v) : LiR A' dm' v 0 0 g' := ⟨hk, by omega, by rw [hv]; exact h.2.2.1, by rw [hv]; exact h.2.2.2.1, by rw [hv]; exact h.2.2.2.2.1, Or.inl ⟨rfl, rfl⟩, fun i hi => absurd hi (by omega)⟩
/-- one more zone -/
theorem g_zone (hS : Sep A J) (h : MkX 0 A dm J M a b c d np ns) (hn : a < 10) (hrow : NR A dm v 3 (zrw M a)) (hvf : ∀ i, J i ≠ v) : Go (bAL_add A dm (J (1)) v) prI A (fun y => y.1 = ii 1 ∧ ∃ J', MkX 0 y.2.1 y.2.2 J' M (a + 1) b c d np ns ∧ GR A dm J (10 + a) v y.2.1 y.2.2 J') := by
  have ba := (h.2.2.1 (by omega)).2.1
  have bb := (h.2.2.2.1 (by omega)).2.1
  have bc := (h.2.2.2.2.1 (by omega)).2.1
  have bd := (h.2.2.2.2.2.1 (by omega)).2.1
  have bnp : ∀ z, z < b → np z ≤ 10 := fun z hz => (h.2.2.2.2.2.2.2.2.1 z hz (by omega)).2.1
  have bns : ∀ r, r < d → ns r ≤ 10 := fun r hr => (h.2.2.2.2.2.2.2.2.2.2.2.1 r hr (by omega)).2.1
  refine Go.imp (FR.add hS (x := 1) (e := 10 + a) (g := fun z => 10 + z) (h.2.2.1 (by omega)) hn (Or.inl hrow.1) hvf (by omega) (by omega) (by omega) (fun k hk => ⟨by omega, by omega⟩) rfl) (fun y hy => ?_)
  obtain ⟨y1, J', hF, hS', hL, je, je0, hx, hc, hvv, hji⟩ := hy
  obtain ⟨hob, hce, p1, p3, p5, p7, p9, pz, pc, pp, pr, ps, pt⟩ := MkX.fr hS hF h ⟨by omega, by omega⟩ ⟨by omega, by omega⟩ (fun z hz => by omega) (fun z hz => by omega) (fun r hr => by omega) (fun r hr => by omega) (fun z hz k hk => by have := bnp z hz; omega) (fun r hr k hk => by have := bns r hr; omega)
  refine ⟨y1, J', ⟨hob, hce, fun _ => hL, fun _ => p3 (by omega), fun _ => p5 (by omega), fun _ => p7 (by omega), fun _ => p9 (by omega), fun z hz _ => ?_, fun z hz _ => pc z hz (by omega), fun z hz k hk => pp z hz k hk, fun r hr _ => pr r hr (by omega), fun r hr _ => ps r hr (by omega), fun r hr k hk => pt r hr k hk⟩, hS', hji, je, hx, hc⟩
  · by_cases e9 : z = a
    · rw [e9, je]
      exact hrow.frm hx.1.1 (hx.2.2 v hrow.1.1.2).1 hvv
    · exact pz z (by omega) (by omega)
/-- one more curve, empty -/
theorem g_curve (hS : Sep A J) (h : MkX 0 A dm J M a b c d np ns) (hb0 : np b = 0) (hn : b < 10) (hrow : LiR A dm v 0 0 g) (hvf : ∀ i, J i ≠ v) : Go (bAL_add A dm (J (3)) v) prI A (fun y => y.1 = ii 1 ∧ ∃ J', MkX 0 y.2.1 y.2.2 J' M a (b + 1) c d np ns ∧ GR A dm J (20 + b) v y.2.1 y.2.2 J') := by
  have ba := (h.2.2.1 (by omega)).2.1
  have bb := (h.2.2.2.1 (by omega)).2.1
  have bc := (h.2.2.2.2.1 (by omega)).2.1
  have bd := (h.2.2.2.2.2.1 (by omega)).2.1
  have bnp : ∀ z, z < b → np z ≤ 10 := fun z hz => (h.2.2.2.2.2.2.2.2.1 z hz (by omega)).2.1
  have bns : ∀ r, r < d → ns r ≤ 10 := fun r hr => (h.2.2.2.2.2.2.2.2.2.2.2.1 r hr (by omega)).2.1
  refine Go.imp (FR.add hS (x := 3) (e := 20 + b) (g := fun z => 20 + z) (h.2.2.2.1 (by omega)) hn (Or.inr hrow.1) hvf (by omega) (by omega) (by omega) (fun k hk => ⟨by omega, by omega⟩) rfl) (fun y hy => ?_)
  obtain ⟨y1, J', hF, hS', hL, je, je0, hx, hc, hvv, hji⟩ := hy
  obtain ⟨hob, hce, p1, p3, p5, p7, p9, pz, pc, pp, pr, ps, pt⟩ := MkX.fr hS hF h ⟨by omega, by omega⟩ ⟨by omega, by omega⟩ (fun z hz => by omega) (fun z hz => by omega) (fun r hr => by omega) (fun r hr => by omega) (fun z hz k hk => by have := bnp z hz; omega) (fun r hr k hk => by have := bns r hr; omega)
  refine ⟨y1, J', ⟨hob, hce, fun _ => p1 (by omega), fun _ => hL, fun _ => p5 (by omega), fun _ => p7 (by omega), fun _ => p9 (by omega), fun z hz _ => pz z hz (by omega), fun z hz _ => ?_, fun z hz k hk => ?_, fun r hr _ => pr r hr (by omega), fun r hr _ => ps r hr (by omega), fun r hr k hk => pt r hr k hk⟩, hS', hji, je, hx, hc⟩
  · by_cases e9 : z = b
    · rw [e9, je, je0, hb0]
      exact hrow.e0 (hx.kd hrow.1) hvv
    · exact pc z (by omega) (by omega)
  · by_cases e9 : z = b
    · rw [e9, hb0] at hk
      omega
    · exact pp z (by omega) k hk
/-- one more resource -/
theorem g_res (hS : Sep A J) (h : MkX 0 A dm J M a b c d np ns) (hn : c < 10) (hrow : NR A dm v 6 (rrw M c)) (hvf : ∀ i, J i ≠ v) : Go (bAL_add A dm (J (5)) v) prI A (fun y => y.1 = ii 1 ∧ ∃ J', MkX 0 y.2.1 y.2.2 J' M a b (c + 1) d np ns ∧ GR A dm J (40 + c) v y.2.1 y.2.2 J') := by
  have ba := (h.2.2.1 (by omega)).2.1
  have bb := (h.2.2.2.1 (by omega)).2.1
  have bc := (h.2.2.2.2.1 (by omega)).2.1
  have bd := (h.2.2.2.2.2.1 (by omega)).2.1
  have bnp : ∀ z, z < b → np z ≤ 10 := fun z hz => (h.2.2.2.2.2.2.2.2.1 z hz (by omega)).2.1
  have bns : ∀ r, r < d → ns r ≤ 10 := fun r hr => (h.2.2.2.2.2.2.2.2.2.2.2.1 r hr (by omega)).2.1
  refine Go.imp (FR.add hS (x := 5) (e := 40 + c) (g := fun z => 40 + z) (h.2.2.2.2.1 (by omega)) hn (Or.inl hrow.1) hvf (by omega) (by omega) (by omega) (fun k hk => ⟨by omega, by omega⟩) rfl) (fun y hy => ?_)
  obtain ⟨y1, J', hF, hS', hL, je, je0, hx, hc, hvv, hji⟩ := hy
  obtain ⟨hob, hce, p1, p3, p5, p7, p9, pz, pc, pp, pr, ps, pt⟩ := MkX.fr hS hF h ⟨by omega, by omega⟩ ⟨by omega, by omega⟩ (fun z hz => by omega) (fun z hz => by omega) (fun r hr => by omega) (fun r hr => by omega) (fun z hz k hk => by have := bnp z hz; omega) (fun r hr k hk => by have := bns r hr; omega)
  refine ⟨y1, J', ⟨hob, hce, fun _ => p1 (by omega), fun _ => p3 (by omega), fun _ => hL, fun _ => p7 (by omega), fun _ => p9 (by omega), fun z hz _ => pz z hz (by omega), fun z hz _ => pc z hz (by omega), fun z hz k hk => pp z hz k hk, fun r hr _ => ?_, fun r hr _ => ps r hr (by omega), fun r hr k hk => pt r hr k hk⟩, hS', hji, je, hx, hc⟩
  · by_cases e9 : r = c
    · rw [e9, je]
      exact hrow.frm hx.1.1 (hx.2.2 v hrow.1.1.2).1 hvv
    · exact pr r (by omega) (by omega)
/-- one more row of steps, empty -/
theorem g_steps (hS : Sep A J) (h : MkX 0 A dm J M a b c d np ns) (hb0 : ns d = 0) (hn : d < 10) (hrow : LiR A dm v 0 0 g) (hvf : ∀ i, J i ≠ v) : Go (bAL_add A dm (J (7)) v) prI A (fun y => y.1 = ii 1 ∧ ∃ J', MkX 0 y.2.1 y.2.2 J' M a b c (d + 1) np ns ∧ GR A dm J (50 + d) v y.2.1 y.2.2 J') := by
  have ba := (h.2.2.1 (by omega)).2.1
  have bb := (h.2.2.2.1 (by omega)).2.1
  have bc := (h.2.2.2.2.1 (by omega)).2.1
  have bd := (h.2.2.2.2.2.1 (by omega)).2.1
  have bnp : ∀ z, z < b → np z ≤ 10 := fun z hz => (h.2.2.2.2.2.2.2.2.1 z hz (by omega)).2.1
  have bns : ∀ r, r < d → ns r ≤ 10 := fun r hr => (h.2.2.2.2.2.2.2.2.2.2.2.1 r hr (by omega)).2.1
  refine Go.imp (FR.add hS (x := 7) (e := 50 + d) (g := fun z => 50 + z) (h.2.2.2.2.2.1 (by omega)) hn (Or.inr hrow.1) hvf (by omega) (by omega) (by omega) (fun k hk => ⟨by omega, by omega⟩) rfl) (fun y hy => ?_)
  obtain ⟨y1, J', hF, hS', hL, je, je0, hx, hc, hvv, hji⟩ := hy
  obtain ⟨hob, hce, p1, p3, p5, p7, p9, pz, pc, pp, pr, ps, pt⟩ := MkX.fr hS hF h ⟨by omega, by omega⟩ ⟨by omega, by omega⟩ (fun z hz => by omega) (fun z hz => by omega) (fun r hr => by omega) (fun r hr => by omega) (fun z hz k hk => by have := bnp z hz; omega) (fun r hr k hk => by have := bns r hr; omega)
  refine ⟨y1, J', ⟨hob, hce, fun _ => p1 (by omega), fun _ => p3 (by omega), fun _ => p5 (by omega), fun _ => hL, fun _ => p9 (by omega), fun z hz _ => pz z hz (by omega), fun z hz _ => pc z hz (by omega), fun z hz k hk => pp z hz k hk, fun r hr _ => pr r hr (by omega), fun r hr _ => ?_, fun r hr k hk => ?_⟩, hS', hji, je, hx, hc⟩
  · by_cases e9 : r = d
    · rw [e9, je, je0, hb0]
      exact hrow.e0 (hx.kd hrow.1) hvv
    · exact ps r (by omega) (by omega)
  · by_cases e9 : r = d
    · rw [e9, hb0] at hk
      omega
    · exact pt r (by omega) k hk
/-- one more point -/
theorem g_point (hS : Sep A J) (h : MkX 0 A dm J M a b c d np ns) {y0 : Nat} (hy0 : y0 < b) (hnp : np' y0 = np y0 + 1) (hnp2 : ∀ y, y ≠ y0 → np' y = np y) (hn : np y0 < 10) (hrow : NR A dm v 2 (ptr M y0 (np y0))) (hvf : ∀ i, J i ≠ v) : Go (bAL_add A dm (J (20 + y0)) v) prI A (fun y => y.1 = ii 1 ∧ ∃ J', MkX 0 y.2.1 y.2.2 J' M a b c d np' ns ∧ GR A dm J (100 + 10 * y0 + np y0) v y.2.1 y.2.2 J') := by
  have ba := (h.2.2.1 (by omega)).2.1
  have bb := (h.2.2.2.1 (by omega)).2.1
  have bc := (h.2.2.2.2.1 (by omega)).2.1
  have bd := (h.2.2.2.2.2.1 (by omega)).2.1
  have bnp : ∀ z, z < b → np z ≤ 10 := fun z hz => (h.2.2.2.2.2.2.2.2.1 z hz (by omega)).2.1
  have bns : ∀ r, r < d → ns r ≤ 10 := fun r hr => (h.2.2.2.2.2.2.2.2.2.2.2.1 r hr (by omega)).2.1
  refine Go.imp (FR.add hS (x := 20 + y0) (e := 100 + 10 * y0 + np y0) (g := fun k => 100 + 10 * y0 + k) (h.2.2.2.2.2.2.2.2.1 y0 hy0 (by omega)) hn (Or.inl hrow.1) hvf (by omega) (by omega) (by omega) (fun k hk => ⟨by omega, by omega⟩) rfl) (fun y hy => ?_)
  obtain ⟨y1, J', hF, hS', hL, je, je0, hx, hc, hvv, hji⟩ := hy
  obtain ⟨hob, hce, p1, p3, p5, p7, p9, pz, pc, pp, pr, ps, pt⟩ := MkX.fr hS hF h ⟨by omega, by omega⟩ ⟨by omega, by omega⟩ (fun z hz => by omega) (fun z hz => by omega) (fun r hr => by omega) (fun r hr => by omega) (fun z hz k hk => by
    have := bnp z hz
    by_cases q : z = y0
    · subst q
      omega
    · omega) (fun r hr k hk => by have := bns r hr; omega)
  refine ⟨y1, J', ⟨hob, hce, fun _ => p1 (by omega), fun _ => p3 (by omega), fun _ => p5 (by omega), fun _ => p7 (by omega), fun _ => p9 (by omega), fun z hz _ => pz z hz (by omega), fun z hz _ => ?_, fun z hz k hk => ?_, fun r hr _ => pr r hr (by omega), fun r hr _ => ps r hr (by omega), fun r hr k hk => pt r hr k hk⟩, hS', hji, je, hx, hc⟩
  · by_cases e9 : z = y0
    · rw [e9, hnp]
      exact hL
    · exact (hnp2 z e9) ▸ pc z hz (by omega)
  · by_cases e9 : z = y0
    · subst e9
      by_cases e8 : k = np z
      · rw [e8, je]
        exact hrow.frm hx.1.1 (hx.2.2 v hrow.1.1.2).1 hvv
      · exact pp z hz k (by omega)
    · exact pp z hz k (by rw [hnp2 z e9] at hk; exact hk)
/-- one more step -/
theorem g_step (hS : Sep A J) (h : MkX 0 A dm J M a b c d np ns) {y0 : Nat} (hy0 : y0 < d) (hnp : ns' y0 = ns y0 + 1) (hnp2 : ∀ y, y ≠ y0 → ns' y = ns y) (hn : ns y0 < 10) (hrow : NR A dm v 2 (str M y0 (ns y0))) (hvf : ∀ i, J i ≠ v) : Go (bAL_add A dm (J (50 + y0)) v) prI A (fun y => y.1 = ii 1 ∧ ∃ J', MkX 0 y.2.1 y.2.2 J' M a b c d np ns' ∧ GR A dm J (200 + 10 * y0 + ns y0) v y.2.1 y.2.2 J') := by
  have ba := (h.2.2.1 (by omega)).2.1
  have bb := (h.2.2.2.1 (by omega)).2.1
  have bc := (h.2.2.2.2.1 (by omega)).2.1
  have bd := (h.2.2.2.2.2.1 (by omega)).2.1
  have bnp : ∀ z, z < b → np z ≤ 10 := fun z hz => (h.2.2.2.2.2.2.2.2.1 z hz (by omega)).2.1
  have bns : ∀ r, r < d → ns r ≤ 10 := fun r hr => (h.2.2.2.2.2.2.2.2.2.2.2.1 r hr (by omega)).2.1
  refine Go.imp (FR.add hS (x := 50 + y0) (e := 200 + 10 * y0 + ns y0) (g := fun k => 200 + 10 * y0 + k) (h.2.2.2.2.2.2.2.2.2.2.2.1 y0 hy0 (by omega)) hn (Or.inl hrow.1) hvf (by omega) (by omega) (by omega) (fun k hk => ⟨by omega, by omega⟩) rfl) (fun y hy => ?_)
  obtain ⟨y1, J', hF, hS', hL, je, je0, hx, hc, hvv, hji⟩ := hy
  obtain ⟨hob, hce, p1, p3, p5, p7, p9, pz, pc, pp, pr, ps, pt⟩ := MkX.fr hS hF h ⟨by omega, by omega⟩ ⟨by omega, by omega⟩ (fun z hz => by omega) (fun z hz => by omega) (fun r hr => by omega) (fun r hr => by omega) (fun z hz k hk => by have := bnp z hz; omega) (fun r hr k hk => by
    have := bns r hr
    by_cases q : r = y0
    · subst q
      omega
    · omega)
  refine ⟨y1, J', ⟨hob, hce, fun _ => p1 (by omega), fun _ => p3 (by omega), fun _ => p5 (by omega), fun _ => p7 (by omega), fun _ => p9 (by omega), fun z hz _ => pz z hz (by omega), fun z hz _ => pc z hz (by omega), fun z hz k hk => pp z hz k hk, fun r hr _ => pr r hr (by omega), fun z hz _ => ?_, fun z hz k hk => ?_⟩, hS', hji, je, hx, hc⟩
  · by_cases e9 : z = y0
    · rw [e9, hnp]
      exact hL
    · exact (hnp2 z e9) ▸ ps z hz (by omega)
  · by_cases e9 : z = y0
    · subst e9
      by_cases e8 : k = ns z
      · rw [e8, je]
        exact hrow.frm hx.1.1 (hx.2.2 v hrow.1.1.2).1 hvv
      · exact pt z hz k (by omega)
    · exact pt z hz k (by rw [hnp2 z e9] at hk; exact hk)
/-- a change in place -/
theorem MkX.pl (hS : Sep A J) (h : MkX 0 A dm J M a b c d np ns) (hx : 1 ≤ x ∧ x < 100) (k : Nat) (w : Value) : MkX x A (up3 dm (J x) k w) J M a b c d np ns := by
  have ba := (h.2.2.1 (by omega)).2.1
  have bb := (h.2.2.2.1 (by omega)).2.1
  have bc := (h.2.2.2.2.1 (by omega)).2.1
  have bd := (h.2.2.2.2.2.1 (by omega)).2.1
  have bnp : ∀ z, z < b → np z ≤ 10 := fun z hz => (h.2.2.2.2.2.2.2.2.1 z hz (by omega)).2.1
  have bns : ∀ r, r < d → ns r ≤ 10 := fun r hr => (h.2.2.2.2.2.2.2.2.2.2.2.1 r hr (by omega)).2.1
  have hF : FR x 999 A dm J A (up3 dm (J x) k w) J := ⟨Nat.le_refl _, fun _ _ => rfl, fun _ _ _ _ => rfl, fun c _ h1 _ => up3_ne h1⟩
  exact MkX.fr hS hF h hx ⟨by omega, by omega⟩ (fun z hz => by omega) (fun z hz => by omega) (fun r hr => by omega) (fun r hr => by omega) (fun z hz k hk => by have := bnp z hz; omega) (fun r hr k hk => by have := bns r hr; omega)
/-- a curve is dropped -/
theorem g_clear (hS : Sep A J) (h : MkX 0 A dm J M a b c d np ns) {y0 : Nat} (hy0 : y0 < b) (hnp : np' y0 = 0) (hnp2 : ∀ y, y ≠ y0 → np' y = np y) : ∃ m', bAL_clear A dm (J (20 + y0)) = some m' ∧ MkX 0 A m' J M a b c d np' ns ∧ ExtL A dm A m' := by
  have ba := (h.2.2.1 (by omega)).2.1
  have bb := (h.2.2.2.1 (by omega)).2.1
  have bc := (h.2.2.2.2.1 (by omega)).2.1
  have bd := (h.2.2.2.2.2.1 (by omega)).2.1
  have bnp : ∀ z, z < b → np z ≤ 10 := fun z hz => (h.2.2.2.2.2.2.2.2.1 z hz (by omega)).2.1
  have bns : ∀ r, r < d → ns r ≤ 10 := fun r hr => (h.2.2.2.2.2.2.2.2.2.2.2.1 r hr (by omega)).2.1
  have hl := h.2.2.2.2.2.2.2.2.1 y0 hy0 (by omega)
  obtain ⟨m', e1, e2, e3⟩ := bAL_clear_ok hl
  have hF : FR (20 + y0) 999 A dm J A m' J := ⟨Nat.le_refl _, fun _ _ => rfl, fun _ _ _ _ => rfl, fun c _ h1 h2 => e2 c h1 h2⟩
  obtain ⟨hob, hce, p1, p3, p5, p7, p9, pz, pc, pp, pr, ps, pt⟩ := MkX.fr hS hF h ⟨by omega, by omega⟩ ⟨by omega, by omega⟩ (fun z hz => by omega) (fun z hz => by omega) (fun r hr => by omega) (fun r hr => by omega) (fun z hz k hk => by have := bnp z hz; omega) (fun r hr k hk => by have := bns r hr; omega)
  refine ⟨m', e1, ⟨hob, hce, fun _ => p1 (by omega), fun _ => p3 (by omega), fun _ => p5 (by omega), fun _ => p7 (by omega), fun _ => p9 (by omega), fun z hz _ => pz z hz (by omega), fun z hz _ => ?_, fun z hz k hk => ?_, fun r hr _ => pr r hr (by omega), fun r hr _ => ps r hr (by omega), fun r hr k hk => pt r hr k hk⟩, le2.rf A, rfl, fun c hc => ⟨rfl, fun h1 h9 h21 => e2 c (fun q => h9 (by rw [q]; exact hl.1.2)) (fun q => ?_)⟩⟩
  · by_cases e9 : z = y0
    · rw [e9, hnp]
      exact e3
    · exact (hnp2 z e9) ▸ pc z hz (by omega)
  · by_cases e9 : z = y0
    · rw [e9, hnp] at hk
      omega
    · exact pp z hz k (by rw [hnp2 z e9] at hk; exact hk)
  · rcases hl.2.2.2.2.2.1 with h7 | h7
    · omega
    · exact h21 (by rw [q]; exact h7.1.2)
theorem g_zrow (hS : Sep A J) (h : MkX 0 A dm J M a b c d np ns) {y0 k : Nat} (hy0 : y0 < a) {w : Int} (h2 : M' 2 = M 2) (hf : ∀ k, k < 4 → M' (3 + k) = M (3 + k)) (hz : ∀ z, z < a → ∀ i, i < 3 → zrw M' z i = if z = y0 ∧ i = k then w else zrw M z i) (hp : ∀ z, z < b → ∀ k, k < np z → ∀ i, i < 2 → ptr M' z k i = ptr M z k i) (hr : ∀ r, r < c → ∀ i, i < 6 → rrw M' r i = rrw M r i) (hs : ∀ r, r < d → ∀ k, k < ns r → ∀ i, i < 2 → str M' r k i = str M r k i) : MkX 0 A (up3 dm (J (10 + y0)) k (.int (ii w))) J M' a b c d np ns := by
  have ba := (h.2.2.1 (by omega)).2.1
  have hrow := (h.2.2.2.2.2.2.2.1 y0 hy0 (by omega)).up k w
  obtain ⟨hob, hce, p1, p3, p5, p7, p9, pz, pc, pp, pr, ps, pt⟩ := (MkX.pl hS h (x := 10 + y0) (by omega) k (.int (ii w))).cm h2 (fun _ => hf) (fun z h3 h4 i hi => by rw [hz z h3 i hi, if_neg (fun q => h4 (by rw [q.1]))]) hp (fun r h3 _ => hr r h3) hs
  refine ⟨hob, hce, fun _ => p1 (by omega), fun _ => p3 (by omega), fun _ => p5 (by omega), fun _ => p7 (by omega), fun _ => p9 (by omega), fun z h3 _ => ?_, fun z h3 _ => ?_, pp, fun r h3 _ => ?_, fun r h3 _ => ?_, pt⟩
  · by_cases e9 : z = y0
    · rw [e9]
      refine hrow.cg (fun i hi => ?_)
      rw [hz y0 hy0 i hi]
      by_cases e8 : i = k
      · rw [if_pos e8, if_pos ⟨rfl, e8⟩]
      · rw [if_neg e8, if_neg (fun q => e8 q.2)]
    · exact pz z h3 (by omega)
  · exact pc z h3 (by have := (h.2.2.2.1 (by omega)).2.1; omega)
  · exact pr r h3 (by have := (h.2.2.2.2.1 (by omega)).2.1; omega)
  · exact ps r h3 (by have := (h.2.2.2.2.2.1 (by omega)).2.1; omega)
theorem g_rrow (hS : Sep A J) (h : MkX 0 A dm J M a b c d np ns) {y0 k : Nat} (hy0 : y0 < c) {w : Int} (h2 : M' 2 = M 2) (hf : ∀ k, k < 4 → M' (3 + k) = M (3 + k)) (hz : ∀ z, z < a → ∀ i, i < 3 → zrw M' z i = zrw M z i) (hp : ∀ z, z < b → ∀ k, k < np z → ∀ i, i < 2 → ptr M' z k i = ptr M z k i) (hr : ∀ r, r < c → ∀ i, i < 6 → rrw M' r i = if r = y0 ∧ i = k then w else rrw M r i) (hs : ∀ r, r < d → ∀ k, k < ns r → ∀ i, i < 2 → str M' r k i = str M r k i) : MkX 0 A (up3 dm (J (40 + y0)) k (.int (ii w))) J M' a b c d np ns := by
  have bc := (h.2.2.2.2.1 (by omega)).2.1
  have hrow := (h.2.2.2.2.2.2.2.2.2.2.1 y0 hy0 (by omega)).up k w
  obtain ⟨hob, hce, p1, p3, p5, p7, p9, pz, pc, pp, pr, ps, pt⟩ := (MkX.pl hS h (x := 40 + y0) (by omega) k (.int (ii w))).cm h2 (fun _ => hf) (fun z h3 _ => hz z h3) hp (fun r h3 h4 i hi => by rw [hr r h3 i hi, if_neg (fun q => h4 (by rw [q.1]))]) hs
  refine ⟨hob, hce, fun _ => p1 (by omega), fun _ => p3 (by omega), fun _ => p5 (by omega), fun _ => p7 (by omega), fun _ => p9 (by omega), fun z h3 _ => ?_, fun z h3 _ => ?_, pp, fun r h3 _ => ?_, fun r h3 _ => ?_, pt⟩
  · exact pz z h3 (by have := (h.2.2.1 (by omega)).2.1; omega)
  · exact pc z h3 (by have := (h.2.2.2.1 (by omega)).2.1; omega)
  · by_cases e9 : r = y0
    · rw [e9]
      refine hrow.cg (fun i hi => ?_)
      rw [hr y0 hy0 i hi]
      by_cases e8 : i = k
      · rw [if_pos e8, if_pos ⟨rfl, e8⟩]
      · rw [if_neg e8, if_neg (fun q => e8 q.2)]
    · exact pr r h3 (by omega)
  · exact ps r h3 (by have := (h.2.2.2.2.2.1 (by omega)).2.1; omega)
theorem g_floor (hS : Sep A J) (h : MkX 0 A dm J M a b c d np ns) {k : Nat} {w : Int} (h2 : M' 2 = M 2) (hf : ∀ i, i < 4 → M' (3 + i) = if i = k then w else M (3 + i)) (hz : ∀ z, z < a → ∀ i, i < 3 → zrw M' z i = zrw M z i) (hp : ∀ z, z < b → ∀ k, k < np z → ∀ i, i < 2 → ptr M' z k i = ptr M z k i) (hr : ∀ r, r < c → ∀ i, i < 6 → rrw M' r i = rrw M r i) (hs : ∀ r, r < d → ∀ k, k < ns r → ∀ i, i < 2 → str M' r k i = str M r k i) : MkX 0 A (up3 dm (J 9) k (.int (ii w))) J M' a b c d np ns := by
  have hrow := (h.2.2.2.2.2.2.1 (by omega)).up k w
  obtain ⟨hob, hce, p1, p3, p5, p7, p9, pz, pc, pp, pr, ps, pt⟩ := (MkX.pl hS h (x := 9) (by omega) k (.int (ii w))).cm h2 (fun q => absurd rfl q) (fun z h3 _ => hz z h3) hp (fun r h3 _ => hr r h3) hs
  refine ⟨hob, hce, fun _ => p1 (by omega), fun _ => p3 (by omega), fun _ => p5 (by omega), fun _ => p7 (by omega), fun _ => hrow.cg (fun i hi => (hf i hi).symm), fun z h3 _ => pz z h3 (by omega), fun z h3 _ => pc z h3 (by omega), pp, fun r h3 _ => pr r h3 (by omega), fun r h3 _ => ps r h3 (by omega), pt⟩
theorem g_ceil (h : MkX 0 A dm J M a b c d np ns) {w : Int} (h2 : M' 2 = w) (hf : ∀ i, i < 4 → M' (3 + i) = M (3 + i)) (hz : ∀ z, z < a → ∀ i, i < 3 → zrw M' z i = zrw M z i) (hp : ∀ z, z < b → ∀ k, k < np z → ∀ i, i < 2 → ptr M' z k i = ptr M z k i) (hr : ∀ r, r < c → ∀ i, i < 6 → rrw M' r i = rrw M r i) (hs : ∀ r, r < d → ∀ k, k < ns r → ∀ i, i < 2 → str M' r k i = str M r k i) : MkX 0 A (up3 dm (J 0) 5 (.int (ii w))) J M' a b c d np ns := by
  obtain ⟨hob, hce, p1, p3, p5, p7, p9, pz, pc, pp, pr, ps, pt⟩ := h
  have hx : ExtK 8 A dm A (up3 dm (J 0) 5 (.int (ii w))) := (ExtK.rf A dm).up (k := 0) hob.1 5 _
  refine ⟨⟨hob.1, ?_, ?_, ?_, ?_, ?_⟩, ?_, fun q => (p1 q).ek hx (by decide) (by decide), fun q => (p3 q).ek hx (by decide) (by decide), fun q => (p5 q).ek hx (by decide) (by decide), fun q => (p7 q).ek hx (by decide) (by decide), fun q => ((p9 q).ek hx (by decide)).cg (fun i hi => (hf i hi).symm), fun z h3 q => ((pz z h3 q).ek hx (by decide)).cg (fun i hi => (hz z h3 i hi).symm), fun z h3 q => (pc z h3 q).ek hx (by decide) (by decide), fun z h3 k hk => ((pp z h3 k hk).ek hx (by decide)).cg (fun i hi => (hp z h3 k hk i hi).symm), fun r h3 q => ((pr r h3 q).ek hx (by decide)).cg (fun i hi => (hr r h3 i hi).symm), fun r h3 q => (ps r h3 q).ek hx (by decide) (by decide), fun r h3 k hk => ((pt r h3 k hk).ek hx (by decide)).cg (fun i hi => (hs r h3 k hk i hi).symm)⟩
  · rw [up3_k (by omega)]; exact hob.2.1
  · rw [up3_k (by omega)]; exact hob.2.2.1
  · rw [up3_k (by omega)]; exact hob.2.2.2.1
  · rw [up3_k (by omega)]; exact hob.2.2.2.2.1
  · rw [up3_k (by omega)]; exact hob.2.2.2.2.2
  · rw [up3_s, h2]
end
