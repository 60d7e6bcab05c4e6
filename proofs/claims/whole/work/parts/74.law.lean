/-! each call of the law's script -/
theorem iiv (x : Int32) : ∃ a : Int, x = ii a ∧ -2147483648 ≤ a ∧ a < 2147483648 := by
  refine ⟨x.toInt, (ii_of x).symm, ?_, ?_⟩
  · have := Int32.le_toInt x
    omega
  · have := Int32.toInt_lt x
    omega
def LA (L : Nat) (x4 : Int32) : Prop := inb x4 L = true ∧ inb (x4 + 1) L = true ∧ inb (x4 + 2) L = true ∧ inb (x4 + 3) L = true ∧ inb (x4 + 4) L = true ∧ inb (x4 + 5) L = true
def FK (K : Int32 → Mem → Option Int32) (x4 : Int32) : Prop := ∀ (m : Mem) (s : ST), CI m s → RI m s → SW s → K (x4 + 6) m = some 1
theorem rsx {β : Type} {L : Nat} {i : Int32} (h : inb i L = true) (K : Option β) : rsc L i K = K := if_pos h
section
variable {L : Nat} {xs : Nat → Int32} {K : Int32 → Mem → Option Int32} {x4 : Int32} {mm : Mem} {s : ST}
theorem lj {m : Mem} {s' : ST} (hk : FK K x4) (h1 : CI m s') (h2 : RI m s') (h3 : SW s') : fL_law_j1579 L xs K x4 m = some 1 := by
  unfold fL_law_j1579
  rw [nm_eq]
  exact hk m s' h1 h2 h3
theorem lwq {fc : Option (Int32 × Mem)} {fr : Mem → Option (Int32 × Mem)} (h : Stq mm fc fr) (hk : FK K x4) : bd fc (fun r => bd (fr r.2) (fun q => if r.1 = q.1 then fL_law_j1579 L xs K x4 q.2 else some 0)) = some 1 := by
  obtain ⟨m1, m2, v, s', e1, e2, h1, h2, h3⟩ := h
  rw [e1, bd_some]
  show bd (fr m1) _ = _
  rw [e2, bd_some, if_pos rfl]
  exact lj hk h1 h2 h3
theorem lqL {fc : Option (Int64 × Mem)} {fr : Mem → Option (Int64 × Mem)} (h : StqL mm fc fr) (hk : FK K x4) : bd fc (fun r => bd (fr r.2) (fun q => if lg_cmp r.1 q.1 = 0 then fL_law_j1579 L xs K x4 q.2 else some 0)) = some 1 := by
  obtain ⟨m1, m2, v, s', e1, e2, h1, h2, h3⟩ := h
  rw [e1, bd_some]
  show bd (fr m1) _ = _
  rw [e2, bd_some, if_pos (lgc_self v)]
  exact lj hk h1 h2 h3
theorem lqQ {fc : Option Int32} {fr : Mem → Option (Int32 × Mem)} (h : StqQ mm fc fr) (hk : FK K x4) : bd fc (fun r => bd (fr mm) (fun q => if r = q.1 then fL_law_j1579 L xs K x4 q.2 else some 0)) = some 1 := by
  obtain ⟨m2, v, s', e1, e2, h1, h2, h3⟩ := h
  rw [e1, bd_some, e2, bd_some, if_pos rfl]
  exact lj hk h1 h2 h3
theorem lw_j196 (h : CI mm s) (hr : RI mm s) (hs : SW s) (ha : LA L x4) (hk : FK K x4) : fL_law_j196 L xs K x4 mm = some 1 := by
  have r1 : ∀ (β : Type) (k : Option β), rsc L (x4 + 1) k = k := fun _ k => rsx ha.2.1 k
  have r2 : ∀ (β : Type) (k : Option β), rsc L (x4 + 2) k = k := fun _ k => rsx ha.2.2.1 k
  have r3 : ∀ (β : Type) (k : Option β), rsc L (x4 + 3) k = k := fun _ k => rsx ha.2.2.2.1 k
  have r4 : ∀ (β : Type) (k : Option β), rsc L (x4 + 4) k = k := fun _ k => rsx ha.2.2.2.2.1 k
  have r5 : ∀ (β : Type) (k : Option β), rsc L (x4 + 5) k = k := fun _ k => rsx ha.2.2.2.2.2 k
  unfold fL_law_j196
  simp only [r1, r2, r3, r4, r5, nm_eq]
  exact lwq (t_feed h hr hs _ _ _ _ _) hk
theorem lw_j269 (h : CI mm s) (hr : RI mm s) (hs : SW s) (ha : LA L x4) (hk : FK K x4) : fL_law_j269 L xs K x4 mm = some 1 := by
  have r1 : ∀ (β : Type) (k : Option β), rsc L (x4 + 1) k = k := fun _ k => rsx ha.2.1 k
  have r2 : ∀ (β : Type) (k : Option β), rsc L (x4 + 2) k = k := fun _ k => rsx ha.2.2.1 k
  have r3 : ∀ (β : Type) (k : Option β), rsc L (x4 + 3) k = k := fun _ k => rsx ha.2.2.2.1 k
  have r4 : ∀ (β : Type) (k : Option β), rsc L (x4 + 4) k = k := fun _ k => rsx ha.2.2.2.2.1 k
  have r5 : ∀ (β : Type) (k : Option β), rsc L (x4 + 5) k = k := fun _ k => rsx ha.2.2.2.2.2 k
  obtain ⟨a1, e1, p1, q1⟩ := iiv (xs (x4 + 1).toNatClampNeg)
  unfold fL_law_j269
  simp only [r1, r2, r3, r4, r5, nm_eq, e1]
  exact lwq (t_end h hr hs p1 q1) hk
theorem lw_j294 (h : CI mm s) (hr : RI mm s) (hs : SW s) (ha : LA L x4) (hk : FK K x4) : fL_law_j294 L xs K x4 mm = some 1 := by
  have r1 : ∀ (β : Type) (k : Option β), rsc L (x4 + 1) k = k := fun _ k => rsx ha.2.1 k
  have r2 : ∀ (β : Type) (k : Option β), rsc L (x4 + 2) k = k := fun _ k => rsx ha.2.2.1 k
  have r3 : ∀ (β : Type) (k : Option β), rsc L (x4 + 3) k = k := fun _ k => rsx ha.2.2.2.1 k
  have r4 : ∀ (β : Type) (k : Option β), rsc L (x4 + 4) k = k := fun _ k => rsx ha.2.2.2.2.1 k
  have r5 : ∀ (β : Type) (k : Option β), rsc L (x4 + 5) k = k := fun _ k => rsx ha.2.2.2.2.2 k
  unfold fL_law_j294
  exact lwq (t_tell h hr hs) hk
theorem lw_j307 (h : CI mm s) (hr : RI mm s) (hs : SW s) (ha : LA L x4) (hk : FK K x4) : fL_law_j307 L xs K x4 mm = some 1 := by
  have r1 : ∀ (β : Type) (k : Option β), rsc L (x4 + 1) k = k := fun _ k => rsx ha.2.1 k
  have r2 : ∀ (β : Type) (k : Option β), rsc L (x4 + 2) k = k := fun _ k => rsx ha.2.2.1 k
  have r3 : ∀ (β : Type) (k : Option β), rsc L (x4 + 3) k = k := fun _ k => rsx ha.2.2.2.1 k
  have r4 : ∀ (β : Type) (k : Option β), rsc L (x4 + 4) k = k := fun _ k => rsx ha.2.2.2.2.1 k
  have r5 : ∀ (β : Type) (k : Option β), rsc L (x4 + 5) k = k := fun _ k => rsx ha.2.2.2.2.2 k
  unfold fL_law_j307
  exact lqQ (stpQ_mk (s' := s) h hs (c_fault h) (r_fault hr)) hk
theorem lw_j320 (h : CI mm s) (hr : RI mm s) (hs : SW s) (ha : LA L x4) (hk : FK K x4) : fL_law_j320 L xs K x4 mm = some 1 := by
  have r1 : ∀ (β : Type) (k : Option β), rsc L (x4 + 1) k = k := fun _ k => rsx ha.2.1 k
  have r2 : ∀ (β : Type) (k : Option β), rsc L (x4 + 2) k = k := fun _ k => rsx ha.2.2.1 k
  have r3 : ∀ (β : Type) (k : Option β), rsc L (x4 + 3) k = k := fun _ k => rsx ha.2.2.2.1 k
  have r4 : ∀ (β : Type) (k : Option β), rsc L (x4 + 4) k = k := fun _ k => rsx ha.2.2.2.2.1 k
  have r5 : ∀ (β : Type) (k : Option β), rsc L (x4 + 5) k = k := fun _ k => rsx ha.2.2.2.2.2 k
  obtain ⟨a1, e1, p1, q1⟩ := iiv (xs (x4 + 1).toNatClampNeg)
  obtain ⟨a2, e2, p2, q2⟩ := iiv (xs (x4 + 2).toNatClampNeg)
  obtain ⟨a3, e3, p3, q3⟩ := iiv (xs (x4 + 3).toNatClampNeg)
  unfold fL_law_j320
  simp only [r1, r2, r3, r4, r5, nm_eq, e1, e2, e3]
  exact lwq (t_zone h hr hs p1 q1 p2 q2 p3 q3) hk
theorem lw_j369 (h : CI mm s) (hr : RI mm s) (hs : SW s) (ha : LA L x4) (hk : FK K x4) : fL_law_j369 L xs K x4 mm = some 1 := by
  have r1 : ∀ (β : Type) (k : Option β), rsc L (x4 + 1) k = k := fun _ k => rsx ha.2.1 k
  have r2 : ∀ (β : Type) (k : Option β), rsc L (x4 + 2) k = k := fun _ k => rsx ha.2.2.1 k
  have r3 : ∀ (β : Type) (k : Option β), rsc L (x4 + 3) k = k := fun _ k => rsx ha.2.2.2.1 k
  have r4 : ∀ (β : Type) (k : Option β), rsc L (x4 + 4) k = k := fun _ k => rsx ha.2.2.2.2.1 k
  have r5 : ∀ (β : Type) (k : Option β), rsc L (x4 + 5) k = k := fun _ k => rsx ha.2.2.2.2.2 k
  obtain ⟨a1, e1, p1, q1⟩ := iiv (xs (x4 + 1).toNatClampNeg)
  obtain ⟨a2, e2, p2, q2⟩ := iiv (xs (x4 + 2).toNatClampNeg)
  obtain ⟨a3, e3, p3, q3⟩ := iiv (xs (x4 + 3).toNatClampNeg)
  unfold fL_law_j369
  simp only [r1, r2, r3, r4, r5, nm_eq, e1, e2, e3]
  exact lwq (t_point h hr hs p1 q1 p2 q2 p3 q3) hk
theorem lw_j507 (h : CI mm s) (hr : RI mm s) (hs : SW s) (ha : LA L x4) (hk : FK K x4) : fL_law_j507 L xs K x4 mm = some 1 := by
  have r1 : ∀ (β : Type) (k : Option β), rsc L (x4 + 1) k = k := fun _ k => rsx ha.2.1 k
  have r2 : ∀ (β : Type) (k : Option β), rsc L (x4 + 2) k = k := fun _ k => rsx ha.2.2.1 k
  have r3 : ∀ (β : Type) (k : Option β), rsc L (x4 + 3) k = k := fun _ k => rsx ha.2.2.2.1 k
  have r4 : ∀ (β : Type) (k : Option β), rsc L (x4 + 4) k = k := fun _ k => rsx ha.2.2.2.2.1 k
  have r5 : ∀ (β : Type) (k : Option β), rsc L (x4 + 5) k = k := fun _ k => rsx ha.2.2.2.2.2 k
  obtain ⟨a1, e1, p1, q1⟩ := iiv (xs (x4 + 1).toNatClampNeg)
  obtain ⟨a2, e2, p2, q2⟩ := iiv (xs (x4 + 2).toNatClampNeg)
  obtain ⟨a3, e3, p3, q3⟩ := iiv (xs (x4 + 3).toNatClampNeg)
  unfold fL_law_j507
  simp only [r1, r2, r3, r4, r5, nm_eq, e1, e2, e3]
  exact lwq (t_step h hr hs p1 q1 p2 q2 p3 q3) hk
theorem lw_j609 (h : CI mm s) (hr : RI mm s) (hs : SW s) (ha : LA L x4) (hk : FK K x4) : fL_law_j609 L xs K x4 mm = some 1 := by
  have r1 : ∀ (β : Type) (k : Option β), rsc L (x4 + 1) k = k := fun _ k => rsx ha.2.1 k
  have r2 : ∀ (β : Type) (k : Option β), rsc L (x4 + 2) k = k := fun _ k => rsx ha.2.2.1 k
  have r3 : ∀ (β : Type) (k : Option β), rsc L (x4 + 3) k = k := fun _ k => rsx ha.2.2.2.1 k
  have r4 : ∀ (β : Type) (k : Option β), rsc L (x4 + 4) k = k := fun _ k => rsx ha.2.2.2.2.1 k
  have r5 : ∀ (β : Type) (k : Option β), rsc L (x4 + 5) k = k := fun _ k => rsx ha.2.2.2.2.2 k
  obtain ⟨a1, e1, p1, q1⟩ := iiv (xs (x4 + 1).toNatClampNeg)
  obtain ⟨a2, e2, p2, q2⟩ := iiv (xs (x4 + 2).toNatClampNeg)
  obtain ⟨a3, e3, p3, q3⟩ := iiv (xs (x4 + 3).toNatClampNeg)
  unfold fL_law_j609
  simp only [r1, r2, r3, r4, r5, nm_eq, e1, e2, e3]
  exact lwq (tt_set h hr hs p1 q1 p2 q2 p3 q3) hk
theorem lw_j658 (h : CI mm s) (hr : RI mm s) (hs : SW s) (ha : LA L x4) (hk : FK K x4) : fL_law_j658 L xs K x4 mm = some 1 := by
  have r1 : ∀ (β : Type) (k : Option β), rsc L (x4 + 1) k = k := fun _ k => rsx ha.2.1 k
  have r2 : ∀ (β : Type) (k : Option β), rsc L (x4 + 2) k = k := fun _ k => rsx ha.2.2.1 k
  have r3 : ∀ (β : Type) (k : Option β), rsc L (x4 + 3) k = k := fun _ k => rsx ha.2.2.2.1 k
  have r4 : ∀ (β : Type) (k : Option β), rsc L (x4 + 4) k = k := fun _ k => rsx ha.2.2.2.2.1 k
  have r5 : ∀ (β : Type) (k : Option β), rsc L (x4 + 5) k = k := fun _ k => rsx ha.2.2.2.2.2 k
  obtain ⟨a1, e1, p1, q1⟩ := iiv (xs (x4 + 1).toNatClampNeg)
  unfold fL_law_j658
  simp only [r1, r2, r3, r4, r5, nm_eq, e1]
  exact lwq (t_keep h hr hs p1 q1) hk
theorem lw_j683 (h : CI mm s) (hr : RI mm s) (hs : SW s) (ha : LA L x4) (hk : FK K x4) : fL_law_j683 L xs K x4 mm = some 1 := by
  have r1 : ∀ (β : Type) (k : Option β), rsc L (x4 + 1) k = k := fun _ k => rsx ha.2.1 k
  have r2 : ∀ (β : Type) (k : Option β), rsc L (x4 + 2) k = k := fun _ k => rsx ha.2.2.1 k
  have r3 : ∀ (β : Type) (k : Option β), rsc L (x4 + 3) k = k := fun _ k => rsx ha.2.2.2.1 k
  have r4 : ∀ (β : Type) (k : Option β), rsc L (x4 + 4) k = k := fun _ k => rsx ha.2.2.2.2.1 k
  have r5 : ∀ (β : Type) (k : Option β), rsc L (x4 + 5) k = k := fun _ k => rsx ha.2.2.2.2.2 k
  obtain ⟨a1, e1, p1, q1⟩ := iiv (xs (x4 + 1).toNatClampNeg)
  unfold fL_law_j683
  simp only [r1, r2, r3, r4, r5, nm_eq, e1]
  exact lwq (t_back h hr hs p1 q1) hk
theorem lw_j708 (h : CI mm s) (hr : RI mm s) (hs : SW s) (ha : LA L x4) (hk : FK K x4) : fL_law_j708 L xs K x4 mm = some 1 := by
  have r1 : ∀ (β : Type) (k : Option β), rsc L (x4 + 1) k = k := fun _ k => rsx ha.2.1 k
  have r2 : ∀ (β : Type) (k : Option β), rsc L (x4 + 2) k = k := fun _ k => rsx ha.2.2.1 k
  have r3 : ∀ (β : Type) (k : Option β), rsc L (x4 + 3) k = k := fun _ k => rsx ha.2.2.2.1 k
  have r4 : ∀ (β : Type) (k : Option β), rsc L (x4 + 4) k = k := fun _ k => rsx ha.2.2.2.2.1 k
  have r5 : ∀ (β : Type) (k : Option β), rsc L (x4 + 5) k = k := fun _ k => rsx ha.2.2.2.2.2 k
  obtain ⟨a1, e1, p1, q1⟩ := iiv (xs (x4 + 1).toNatClampNeg)
  unfold fL_law_j708
  simp only [r1, r2, r3, r4, r5, nm_eq, e1]
  exact lqQ (stpQ_mk (s' := s) (fr := fun m => f7_count m (ii a1)) h hs (c_count h hs p1 q1) (r_count hr hs p1 q1)) hk
theorem lw_j934 (h : CI mm s) (hr : RI mm s) (hs : SW s) (ha : LA L x4) (hk : FK K x4) : fL_law_j934 L xs K x4 mm = some 1 := by
  have r1 : ∀ (β : Type) (k : Option β), rsc L (x4 + 1) k = k := fun _ k => rsx ha.2.1 k
  have r2 : ∀ (β : Type) (k : Option β), rsc L (x4 + 2) k = k := fun _ k => rsx ha.2.2.1 k
  have r3 : ∀ (β : Type) (k : Option β), rsc L (x4 + 3) k = k := fun _ k => rsx ha.2.2.2.1 k
  have r4 : ∀ (β : Type) (k : Option β), rsc L (x4 + 4) k = k := fun _ k => rsx ha.2.2.2.2.1 k
  have r5 : ∀ (β : Type) (k : Option β), rsc L (x4 + 5) k = k := fun _ k => rsx ha.2.2.2.2.2 k
  obtain ⟨a1, e1, p1, q1⟩ := iiv (xs (x4 + 1).toNatClampNeg)
  obtain ⟨a2, e2, p2, q2⟩ := iiv (xs (x4 + 2).toNatClampNeg)
  unfold fL_law_j934
  simp only [r1, r2, r3, r4, r5, nm_eq, e1, e2]
  exact lqQ (stpQ_mk (s' := s) (fr := fun m => f7_worth m (ii a1) (ii a2)) h hs (c_worth h hs p1 q1 p2 q2) (r_worth hr hs p1 q1 p2 q2)) hk
theorem lw_j971 (h : CI mm s) (hr : RI mm s) (hs : SW s) (ha : LA L x4) (hk : FK K x4) : fL_law_j971 L xs K x4 mm = some 1 := by
  have r1 : ∀ (β : Type) (k : Option β), rsc L (x4 + 1) k = k := fun _ k => rsx ha.2.1 k
  have r2 : ∀ (β : Type) (k : Option β), rsc L (x4 + 2) k = k := fun _ k => rsx ha.2.2.1 k
  have r3 : ∀ (β : Type) (k : Option β), rsc L (x4 + 3) k = k := fun _ k => rsx ha.2.2.2.1 k
  have r4 : ∀ (β : Type) (k : Option β), rsc L (x4 + 4) k = k := fun _ k => rsx ha.2.2.2.2.1 k
  have r5 : ∀ (β : Type) (k : Option β), rsc L (x4 + 5) k = k := fun _ k => rsx ha.2.2.2.2.2 k
  obtain ⟨a1, e1, p1, q1⟩ := iiv (xs (x4 + 1).toNatClampNeg)
  obtain ⟨a2, e2, p2, q2⟩ := iiv (xs (x4 + 2).toNatClampNeg)
  unfold fL_law_j971
  simp only [r1, r2, r3, r4, r5, nm_eq, e1, e2]
  exact lqQ (stpQ_mk (s' := s) (fr := fun m => f7_wants m (ii a1) (ii a2)) h hs (c_wants h hs p1 q1 p2 q2) (r_wants hr hs p1 q1 p2 q2)) hk
theorem lw_j1073 (h : CI mm s) (hr : RI mm s) (hs : SW s) (ha : LA L x4) (hk : FK K x4) : fL_law_j1073 L xs K x4 mm = some 1 := by
  have r1 : ∀ (β : Type) (k : Option β), rsc L (x4 + 1) k = k := fun _ k => rsx ha.2.1 k
  have r2 : ∀ (β : Type) (k : Option β), rsc L (x4 + 2) k = k := fun _ k => rsx ha.2.2.1 k
  have r3 : ∀ (β : Type) (k : Option β), rsc L (x4 + 3) k = k := fun _ k => rsx ha.2.2.2.1 k
  have r4 : ∀ (β : Type) (k : Option β), rsc L (x4 + 4) k = k := fun _ k => rsx ha.2.2.2.2.1 k
  have r5 : ∀ (β : Type) (k : Option β), rsc L (x4 + 5) k = k := fun _ k => rsx ha.2.2.2.2.2 k
  obtain ⟨a1, e1, p1, q1⟩ := iiv (xs (x4 + 1).toNatClampNeg)
  unfold fL_law_j1073
  simp only [r1, r2, r3, r4, r5, nm_eq, e1]
  exact lwq (stp_mk hr hs (c_price h hs p1 q1) (fun m hm => r_price hm hs p1 q1)) hk
theorem lw_j1098 (h : CI mm s) (hr : RI mm s) (hs : SW s) (ha : LA L x4) (hk : FK K x4) : fL_law_j1098 L xs K x4 mm = some 1 := by
  have r1 : ∀ (β : Type) (k : Option β), rsc L (x4 + 1) k = k := fun _ k => rsx ha.2.1 k
  have r2 : ∀ (β : Type) (k : Option β), rsc L (x4 + 2) k = k := fun _ k => rsx ha.2.2.1 k
  have r3 : ∀ (β : Type) (k : Option β), rsc L (x4 + 3) k = k := fun _ k => rsx ha.2.2.2.1 k
  have r4 : ∀ (β : Type) (k : Option β), rsc L (x4 + 4) k = k := fun _ k => rsx ha.2.2.2.2.1 k
  have r5 : ∀ (β : Type) (k : Option β), rsc L (x4 + 5) k = k := fun _ k => rsx ha.2.2.2.2.2 k
  obtain ⟨a1, e1, p1, q1⟩ := iiv (xs (x4 + 1).toNatClampNeg)
  unfold fL_law_j1098
  simp only [r1, r2, r3, r4, r5, nm_eq, e1]
  exact lwq (stp_mk hr hs (c_net h hs p1 q1) (fun m hm => r_net hm hs p1 q1)) hk
theorem lw_j1123 (h : CI mm s) (hr : RI mm s) (hs : SW s) (ha : LA L x4) (hk : FK K x4) : fL_law_j1123 L xs K x4 mm = some 1 := by
  have r1 : ∀ (β : Type) (k : Option β), rsc L (x4 + 1) k = k := fun _ k => rsx ha.2.1 k
  have r2 : ∀ (β : Type) (k : Option β), rsc L (x4 + 2) k = k := fun _ k => rsx ha.2.2.1 k
  have r3 : ∀ (β : Type) (k : Option β), rsc L (x4 + 3) k = k := fun _ k => rsx ha.2.2.2.1 k
  have r4 : ∀ (β : Type) (k : Option β), rsc L (x4 + 4) k = k := fun _ k => rsx ha.2.2.2.2.1 k
  have r5 : ∀ (β : Type) (k : Option β), rsc L (x4 + 5) k = k := fun _ k => rsx ha.2.2.2.2.2 k
  obtain ⟨a1, e1, p1, q1⟩ := iiv (xs (x4 + 1).toNatClampNeg)
  unfold fL_law_j1123
  simp only [r1, r2, r3, r4, r5, nm_eq, e1]
  exact lwq (stp_mk hr hs (c_served h hs p1 q1) (fun m hm => r_served hm hs p1 q1)) hk
theorem lw_j1148 (h : CI mm s) (hr : RI mm s) (hs : SW s) (ha : LA L x4) (hk : FK K x4) : fL_law_j1148 L xs K x4 mm = some 1 := by
  have r1 : ∀ (β : Type) (k : Option β), rsc L (x4 + 1) k = k := fun _ k => rsx ha.2.1 k
  have r2 : ∀ (β : Type) (k : Option β), rsc L (x4 + 2) k = k := fun _ k => rsx ha.2.2.1 k
  have r3 : ∀ (β : Type) (k : Option β), rsc L (x4 + 3) k = k := fun _ k => rsx ha.2.2.2.1 k
  have r4 : ∀ (β : Type) (k : Option β), rsc L (x4 + 4) k = k := fun _ k => rsx ha.2.2.2.2.1 k
  have r5 : ∀ (β : Type) (k : Option β), rsc L (x4 + 5) k = k := fun _ k => rsx ha.2.2.2.2.2 k
  obtain ⟨a1, e1, p1, q1⟩ := iiv (xs (x4 + 1).toNatClampNeg)
  obtain ⟨a2, e2, p2, q2⟩ := iiv (xs (x4 + 2).toNatClampNeg)
  unfold fL_law_j1148
  simp only [r1, r2, r3, r4, r5, nm_eq, e1, e2]
  exact lwq (stp_mk hr hs (c_taken h hs p1 q1 p2 q2) (fun m hm => r_taken hm hs p1 q1 p2 q2)) hk
theorem lw_j1185 (h : CI mm s) (hr : RI mm s) (hs : SW s) (ha : LA L x4) (hk : FK K x4) : fL_law_j1185 L xs K x4 mm = some 1 := by
  have r1 : ∀ (β : Type) (k : Option β), rsc L (x4 + 1) k = k := fun _ k => rsx ha.2.1 k
  have r2 : ∀ (β : Type) (k : Option β), rsc L (x4 + 2) k = k := fun _ k => rsx ha.2.2.1 k
  have r3 : ∀ (β : Type) (k : Option β), rsc L (x4 + 3) k = k := fun _ k => rsx ha.2.2.2.1 k
  have r4 : ∀ (β : Type) (k : Option β), rsc L (x4 + 4) k = k := fun _ k => rsx ha.2.2.2.2.1 k
  have r5 : ∀ (β : Type) (k : Option β), rsc L (x4 + 5) k = k := fun _ k => rsx ha.2.2.2.2.2 k
  obtain ⟨a1, e1, p1, q1⟩ := iiv (xs (x4 + 1).toNatClampNeg)
  unfold fL_law_j1185
  simp only [r1, r2, r3, r4, r5, nm_eq, e1]
  exact lwq (stp_mk hr hs (c_binds h hs p1 q1) (fun m hm => r_binds hm hs p1 q1)) hk
theorem lw_j1210 (h : CI mm s) (hr : RI mm s) (hs : SW s) (ha : LA L x4) (hk : FK K x4) : fL_law_j1210 L xs K x4 mm = some 1 := by
  have r1 : ∀ (β : Type) (k : Option β), rsc L (x4 + 1) k = k := fun _ k => rsx ha.2.1 k
  have r2 : ∀ (β : Type) (k : Option β), rsc L (x4 + 2) k = k := fun _ k => rsx ha.2.2.1 k
  have r3 : ∀ (β : Type) (k : Option β), rsc L (x4 + 3) k = k := fun _ k => rsx ha.2.2.2.1 k
  have r4 : ∀ (β : Type) (k : Option β), rsc L (x4 + 4) k = k := fun _ k => rsx ha.2.2.2.2.1 k
  have r5 : ∀ (β : Type) (k : Option β), rsc L (x4 + 5) k = k := fun _ k => rsx ha.2.2.2.2.2 k
  unfold fL_law_j1210
  exact lqL (stpL_mk hr hs (c_surplus h hs ) (fun m hm => r_surplus hm hs )) hk
theorem lw_j1224 (h : CI mm s) (hr : RI mm s) (hs : SW s) (ha : LA L x4) (hk : FK K x4) : fL_law_j1224 L xs K x4 mm = some 1 := by
  have r1 : ∀ (β : Type) (k : Option β), rsc L (x4 + 1) k = k := fun _ k => rsx ha.2.1 k
  have r2 : ∀ (β : Type) (k : Option β), rsc L (x4 + 2) k = k := fun _ k => rsx ha.2.2.1 k
  have r3 : ∀ (β : Type) (k : Option β), rsc L (x4 + 3) k = k := fun _ k => rsx ha.2.2.2.1 k
  have r4 : ∀ (β : Type) (k : Option β), rsc L (x4 + 4) k = k := fun _ k => rsx ha.2.2.2.2.1 k
  have r5 : ∀ (β : Type) (k : Option β), rsc L (x4 + 5) k = k := fun _ k => rsx ha.2.2.2.2.2 k
  obtain ⟨a1, e1, p1, q1⟩ := iiv (xs (x4 + 1).toNatClampNeg)
  unfold fL_law_j1224
  simp only [r1, r2, r3, r4, r5, nm_eq, e1]
  exact lqL (stpL_mk hr hs (c_rent h hs p1 q1) (fun m hm => r_rent hm hs p1 q1)) hk
theorem lw_j1250 (h : CI mm s) (hr : RI mm s) (hs : SW s) (ha : LA L x4) (hk : FK K x4) : fL_law_j1250 L xs K x4 mm = some 1 := by
  have r1 : ∀ (β : Type) (k : Option β), rsc L (x4 + 1) k = k := fun _ k => rsx ha.2.1 k
  have r2 : ∀ (β : Type) (k : Option β), rsc L (x4 + 2) k = k := fun _ k => rsx ha.2.2.1 k
  have r3 : ∀ (β : Type) (k : Option β), rsc L (x4 + 3) k = k := fun _ k => rsx ha.2.2.2.1 k
  have r4 : ∀ (β : Type) (k : Option β), rsc L (x4 + 4) k = k := fun _ k => rsx ha.2.2.2.2.1 k
  have r5 : ∀ (β : Type) (k : Option β), rsc L (x4 + 5) k = k := fun _ k => rsx ha.2.2.2.2.2 k
  obtain ⟨a1, e1, p1, q1⟩ := iiv (xs (x4 + 1).toNatClampNeg)
  unfold fL_law_j1250
  simp only [r1, r2, r3, r4, r5, nm_eq, e1]
  exact lqL (stpL_mk hr hs (c_paid h hs p1 q1) (fun m hm => r_paid hm hs p1 q1)) hk
theorem lw_j1276 (h : CI mm s) (hr : RI mm s) (hs : SW s) (ha : LA L x4) (hk : FK K x4) : fL_law_j1276 L xs K x4 mm = some 1 := by
  have r1 : ∀ (β : Type) (k : Option β), rsc L (x4 + 1) k = k := fun _ k => rsx ha.2.1 k
  have r2 : ∀ (β : Type) (k : Option β), rsc L (x4 + 2) k = k := fun _ k => rsx ha.2.2.1 k
  have r3 : ∀ (β : Type) (k : Option β), rsc L (x4 + 3) k = k := fun _ k => rsx ha.2.2.2.1 k
  have r4 : ∀ (β : Type) (k : Option β), rsc L (x4 + 4) k = k := fun _ k => rsx ha.2.2.2.2.1 k
  have r5 : ∀ (β : Type) (k : Option β), rsc L (x4 + 5) k = k := fun _ k => rsx ha.2.2.2.2.2 k
  obtain ⟨a1, e1, p1, q1⟩ := iiv (xs (x4 + 1).toNatClampNeg)
  unfold fL_law_j1276
  simp only [r1, r2, r3, r4, r5, nm_eq, e1]
  exact lqL (stpL_mk hr hs (c_charged h hs p1 q1) (fun m hm => r_charged hm hs p1 q1)) hk
theorem lw_j1302 (h : CI mm s) (hr : RI mm s) (hs : SW s) (ha : LA L x4) (hk : FK K x4) : fL_law_j1302 L xs K x4 mm = some 1 := by
  have r1 : ∀ (β : Type) (k : Option β), rsc L (x4 + 1) k = k := fun _ k => rsx ha.2.1 k
  have r2 : ∀ (β : Type) (k : Option β), rsc L (x4 + 2) k = k := fun _ k => rsx ha.2.2.1 k
  have r3 : ∀ (β : Type) (k : Option β), rsc L (x4 + 3) k = k := fun _ k => rsx ha.2.2.2.1 k
  have r4 : ∀ (β : Type) (k : Option β), rsc L (x4 + 4) k = k := fun _ k => rsx ha.2.2.2.2.1 k
  have r5 : ∀ (β : Type) (k : Option β), rsc L (x4 + 5) k = k := fun _ k => rsx ha.2.2.2.2.2 k
  obtain ⟨a1, e1, p1, q1⟩ := iiv (xs (x4 + 1).toNatClampNeg)
  obtain ⟨a2, e2, p2, q2⟩ := iiv (xs (x4 + 2).toNatClampNeg)
  unfold fL_law_j1302
  simp only [r1, r2, r3, r4, r5, nm_eq, e1, e2]
  exact lwq (t_without h hr hs p1 q1 p2 q2) hk
theorem lw_j1339 (h : CI mm s) (hr : RI mm s) (hs : SW s) (ha : LA L x4) (hk : FK K x4) : fL_law_j1339 L xs K x4 mm = some 1 := by
  have r1 : ∀ (β : Type) (k : Option β), rsc L (x4 + 1) k = k := fun _ k => rsx ha.2.1 k
  have r2 : ∀ (β : Type) (k : Option β), rsc L (x4 + 2) k = k := fun _ k => rsx ha.2.2.1 k
  have r3 : ∀ (β : Type) (k : Option β), rsc L (x4 + 3) k = k := fun _ k => rsx ha.2.2.2.1 k
  have r4 : ∀ (β : Type) (k : Option β), rsc L (x4 + 4) k = k := fun _ k => rsx ha.2.2.2.2.1 k
  have r5 : ∀ (β : Type) (k : Option β), rsc L (x4 + 5) k = k := fun _ k => rsx ha.2.2.2.2.2 k
  obtain ⟨a1, e1, p1, q1⟩ := iiv (xs (x4 + 1).toNatClampNeg)
  obtain ⟨a2, e2, p2, q2⟩ := iiv (xs (x4 + 2).toNatClampNeg)
  unfold fL_law_j1339
  simp only [r1, r2, r3, r4, r5, nm_eq, e1, e2]
  exact lwq (stp_mk hr hs (c_pivotal h hs p1 q1 p2 q2) (fun m hm => r_pivotal hm hs p1 q1 p2 q2)) hk
theorem lw_j1442 (h : CI mm s) (hr : RI mm s) (hs : SW s) (ha : LA L x4) (hk : FK K x4) : fL_law_j1442 L xs K x4 mm = some 1 := by
  have r1 : ∀ (β : Type) (k : Option β), rsc L (x4 + 1) k = k := fun _ k => rsx ha.2.1 k
  have r2 : ∀ (β : Type) (k : Option β), rsc L (x4 + 2) k = k := fun _ k => rsx ha.2.2.1 k
  have r3 : ∀ (β : Type) (k : Option β), rsc L (x4 + 3) k = k := fun _ k => rsx ha.2.2.2.1 k
  have r4 : ∀ (β : Type) (k : Option β), rsc L (x4 + 4) k = k := fun _ k => rsx ha.2.2.2.2.1 k
  have r5 : ∀ (β : Type) (k : Option β), rsc L (x4 + 5) k = k := fun _ k => rsx ha.2.2.2.2.2 k
  obtain ⟨a1, e1, p1, q1⟩ := iiv (xs (x4 + 1).toNatClampNeg)
  unfold fL_law_j1442
  simp only [r1, r2, r3, r4, r5, nm_eq, e1]
  exact lwq (t_needs h hr hs p1 q1) hk
theorem lw_j1467 (h : CI mm s) (hr : RI mm s) (hs : SW s) (ha : LA L x4) (hk : FK K x4) : fL_law_j1467 L xs K x4 mm = some 1 := by
  have r1 : ∀ (β : Type) (k : Option β), rsc L (x4 + 1) k = k := fun _ k => rsx ha.2.1 k
  have r2 : ∀ (β : Type) (k : Option β), rsc L (x4 + 2) k = k := fun _ k => rsx ha.2.2.1 k
  have r3 : ∀ (β : Type) (k : Option β), rsc L (x4 + 3) k = k := fun _ k => rsx ha.2.2.2.1 k
  have r4 : ∀ (β : Type) (k : Option β), rsc L (x4 + 4) k = k := fun _ k => rsx ha.2.2.2.2.1 k
  have r5 : ∀ (β : Type) (k : Option β), rsc L (x4 + 5) k = k := fun _ k => rsx ha.2.2.2.2.2 k
  obtain ⟨a1, e1, p1, q1⟩ := iiv (xs (x4 + 1).toNatClampNeg)
  unfold fL_law_j1467
  simp only [r1, r2, r3, r4, r5, nm_eq, e1]
  exact lwq (t_freely h hr hs p1 q1) hk
theorem lw_j1492 (h : CI mm s) (hr : RI mm s) (hs : SW s) (ha : LA L x4) (hk : FK K x4) : fL_law_j1492 L xs K x4 mm = some 1 := by
  have r1 : ∀ (β : Type) (k : Option β), rsc L (x4 + 1) k = k := fun _ k => rsx ha.2.1 k
  have r2 : ∀ (β : Type) (k : Option β), rsc L (x4 + 2) k = k := fun _ k => rsx ha.2.2.1 k
  have r3 : ∀ (β : Type) (k : Option β), rsc L (x4 + 3) k = k := fun _ k => rsx ha.2.2.2.1 k
  have r4 : ∀ (β : Type) (k : Option β), rsc L (x4 + 4) k = k := fun _ k => rsx ha.2.2.2.2.1 k
  have r5 : ∀ (β : Type) (k : Option β), rsc L (x4 + 5) k = k := fun _ k => rsx ha.2.2.2.2.2 k
  obtain ⟨a1, e1, p1, q1⟩ := iiv (xs (x4 + 1).toNatClampNeg)
  obtain ⟨a2, e2, p2, q2⟩ := iiv (xs (x4 + 2).toNatClampNeg)
  obtain ⟨a3, e3, p3, q3⟩ := iiv (xs (x4 + 3).toNatClampNeg)
  unfold fL_law_j1492
  simp only [r1, r2, r3, r4, r5, nm_eq, e1, e2, e3]
  exact lqL (t_gain h hr hs p1 q1 p2 q2 p3 q3) hk
theorem lw_j1542 (h : CI mm s) (hr : RI mm s) (hs : SW s) (ha : LA L x4) (hk : FK K x4) : fL_law_j1542 L xs K x4 mm = some 1 := by
  have r1 : ∀ (β : Type) (k : Option β), rsc L (x4 + 1) k = k := fun _ k => rsx ha.2.1 k
  have r2 : ∀ (β : Type) (k : Option β), rsc L (x4 + 2) k = k := fun _ k => rsx ha.2.2.1 k
  have r3 : ∀ (β : Type) (k : Option β), rsc L (x4 + 3) k = k := fun _ k => rsx ha.2.2.2.1 k
  have r4 : ∀ (β : Type) (k : Option β), rsc L (x4 + 4) k = k := fun _ k => rsx ha.2.2.2.2.1 k
  have r5 : ∀ (β : Type) (k : Option β), rsc L (x4 + 5) k = k := fun _ k => rsx ha.2.2.2.2.2 k
  obtain ⟨a1, e1, p1, q1⟩ := iiv (xs (x4 + 1).toNatClampNeg)
  obtain ⟨a2, e2, p2, q2⟩ := iiv (xs (x4 + 2).toNatClampNeg)
  unfold fL_law_j1542
  simp only [r1, r2, r3, r4, r5, nm_eq, e1, e2]
  exact lwq (t_best h hr hs p1 q1 p2 q2) hk
theorem lw_j418 (h : CI mm s) (hr : RI mm s) (hs : SW s) (ha : LA L x4) (hk : FK K x4) : fL_law_j418 L xs K x4 mm = some 1 := by
  have r1 : ∀ (β : Type) (k : Option β), rsc L (x4 + 1) k = k := fun _ k => rsx ha.2.1 k
  have r2 : ∀ (β : Type) (k : Option β), rsc L (x4 + 2) k = k := fun _ k => rsx ha.2.2.1 k
  have r3 : ∀ (β : Type) (k : Option β), rsc L (x4 + 3) k = k := fun _ k => rsx ha.2.2.2.1 k
  have r4 : ∀ (β : Type) (k : Option β), rsc L (x4 + 4) k = k := fun _ k => rsx ha.2.2.2.2.1 k
  have r5 : ∀ (β : Type) (k : Option β), rsc L (x4 + 5) k = k := fun _ k => rsx ha.2.2.2.2.2 k
  obtain ⟨a1, e1, p1, q1⟩ := iiv (xs (x4 + 1).toNatClampNeg)
  obtain ⟨a2, e2, p2, q2⟩ := iiv (xs (x4 + 2).toNatClampNeg)
  obtain ⟨a3, e3, p3, q3⟩ := iiv (xs (x4 + 3).toNatClampNeg)
  obtain ⟨a4, e4, p4, q4⟩ := iiv (xs (x4 + 4).toNatClampNeg)
  obtain ⟨a5, e5, p5, q5⟩ := iiv (xs (x4 + 5).toNatClampNeg)
  unfold fL_law_j418 fL_law_j457 fL_law_j499
  simp only [r1, r2, r3, r4, r5, nm_eq, e1, e2, e3, e4, e5]
  by_cases g : ii a5 = 0
  · simp only [if_pos g]
    have T : Stq mm (f6_resource mm (ii a1) (ii a2) (ii a3) (ii a4) (ii 0)) (fun m => f7_resource m (ii a1) (ii a2) (ii a3) (ii a4) (ii 0)) := t_resource h hr hs p1 q1 p2 q2 p3 q3 p4 q4 (mu := 0) (Or.inl rfl)
    rw [← l0] at T
    exact lwq T hk
  · simp only [if_neg g]
    have T : Stq mm (f6_resource mm (ii a1) (ii a2) (ii a3) (ii a4) (ii 1)) (fun m => f7_resource m (ii a1) (ii a2) (ii a3) (ii a4) (ii 1)) := t_resource h hr hs p1 q1 p2 q2 p3 q3 p4 q4 (mu := 1) (Or.inr rfl)
    rw [← l1] at T
    exact lwq T hk
theorem lw_j556 (h : CI mm s) (hr : RI mm s) (hs : SW s) (ha : LA L x4) (hk : FK K x4) : fL_law_j556 L xs K x4 mm = some 1 := by
  have r1 : ∀ (β : Type) (k : Option β), rsc L (x4 + 1) k = k := fun _ k => rsx ha.2.1 k
  have r2 : ∀ (β : Type) (k : Option β), rsc L (x4 + 2) k = k := fun _ k => rsx ha.2.2.1 k
  have r3 : ∀ (β : Type) (k : Option β), rsc L (x4 + 3) k = k := fun _ k => rsx ha.2.2.2.1 k
  have r4 : ∀ (β : Type) (k : Option β), rsc L (x4 + 4) k = k := fun _ k => rsx ha.2.2.2.2.1 k
  have r5 : ∀ (β : Type) (k : Option β), rsc L (x4 + 5) k = k := fun _ k => rsx ha.2.2.2.2.2 k
  obtain ⟨a1, e1, p1, q1⟩ := iiv (xs (x4 + 1).toNatClampNeg)
  obtain ⟨a2, e2, p2, q2⟩ := iiv (xs (x4 + 2).toNatClampNeg)
  unfold fL_law_j556 fL_law_j577 fL_law_j601
  simp only [r1, r2, r3, r4, r5, nm_eq, e1, e2]
  by_cases g : ii a2 = 0
  · simp only [if_pos g]
    have T : Stq mm (f6_drop mm (ii a1) (ii 0)) (fun m => f7_drop m (ii a1) (ii 0)) := t_drop h hr hs p1 q1 (b := 0) (Or.inl rfl)
    rw [← l0] at T
    exact lwq T hk
  · simp only [if_neg g]
    have T : Stq mm (f6_drop mm (ii a1) (ii 1)) (fun m => f7_drop m (ii a1) (ii 1)) := t_drop h hr hs p1 q1 (b := 1) (Or.inr rfl)
    rw [← l1] at T
    exact lwq T hk
theorem lw_j869 (h : CI mm s) (hr : RI mm s) (hs : SW s) (ha : LA L x4) (hk : FK K x4) : fL_law_j869 L xs K x4 mm = some 1 := by
  have r1 : ∀ (β : Type) (k : Option β), rsc L (x4 + 1) k = k := fun _ k => rsx ha.2.1 k
  have r2 : ∀ (β : Type) (k : Option β), rsc L (x4 + 2) k = k := fun _ k => rsx ha.2.2.1 k
  have r3 : ∀ (β : Type) (k : Option β), rsc L (x4 + 3) k = k := fun _ k => rsx ha.2.2.2.1 k
  have r4 : ∀ (β : Type) (k : Option β), rsc L (x4 + 4) k = k := fun _ k => rsx ha.2.2.2.2.1 k
  have r5 : ∀ (β : Type) (k : Option β), rsc L (x4 + 5) k = k := fun _ k => rsx ha.2.2.2.2.2 k
  obtain ⟨a1, e1, p1, q1⟩ := iiv (xs (x4 + 1).toNatClampNeg)
  obtain ⟨a2, e2, p2, q2⟩ := iiv (xs (x4 + 2).toNatClampNeg)
  obtain ⟨a3, e3, p3, q3⟩ := iiv (xs (x4 + 3).toNatClampNeg)
  unfold fL_law_j869 fL_law_j896 fL_law_j926
  simp only [r1, r2, r3, r4, r5, nm_eq, e1, e2, e3]
  by_cases g : ii a3 = 0
  · simp only [if_pos g]
    have T : StqQ mm (f6_line mm (ii a1) (ii a2) (ii 0)) (fun m => f7_line m (ii a1) (ii a2) (ii 0)) := stpQ_mk (s' := s) (fr := fun m => f7_line m (ii a1) (ii a2) (ii 0)) h hs (c_line h hs p1 q1 p2 q2 (b := 0) (Or.inl rfl)) (r_line hr hs p1 q1 p2 q2 (b := 0) (Or.inl rfl))
    rw [← l0] at T
    exact lqQ T hk
  · simp only [if_neg g]
    have T : StqQ mm (f6_line mm (ii a1) (ii a2) (ii 1)) (fun m => f7_line m (ii a1) (ii a2) (ii 1)) := stpQ_mk (s' := s) (fr := fun m => f7_line m (ii a1) (ii a2) (ii 1)) h hs (c_line h hs p1 q1 p2 q2 (b := 1) (Or.inr rfl)) (r_line hr hs p1 q1 p2 q2 (b := 1) (Or.inr rfl))
    rw [← l1] at T
    exact lqQ T hk
theorem lw_j1008 (h : CI mm s) (hr : RI mm s) (hs : SW s) (ha : LA L x4) (hk : FK K x4) : fL_law_j1008 L xs K x4 mm = some 1 := by
  have r1 : ∀ (β : Type) (k : Option β), rsc L (x4 + 1) k = k := fun _ k => rsx ha.2.1 k
  have r2 : ∀ (β : Type) (k : Option β), rsc L (x4 + 2) k = k := fun _ k => rsx ha.2.2.1 k
  have r3 : ∀ (β : Type) (k : Option β), rsc L (x4 + 3) k = k := fun _ k => rsx ha.2.2.2.1 k
  have r4 : ∀ (β : Type) (k : Option β), rsc L (x4 + 4) k = k := fun _ k => rsx ha.2.2.2.2.1 k
  have r5 : ∀ (β : Type) (k : Option β), rsc L (x4 + 5) k = k := fun _ k => rsx ha.2.2.2.2.2 k
  obtain ⟨a1, e1, p1, q1⟩ := iiv (xs (x4 + 1).toNatClampNeg)
  obtain ⟨a2, e2, p2, q2⟩ := iiv (xs (x4 + 2).toNatClampNeg)
  obtain ⟨a3, e3, p3, q3⟩ := iiv (xs (x4 + 3).toNatClampNeg)
  unfold fL_law_j1008 fL_law_j1035 fL_law_j1065
  simp only [r1, r2, r3, r4, r5, nm_eq, e1, e2, e3]
  by_cases g : ii a3 = 0
  · simp only [if_pos g]
    have T : Stq mm (f6_level mm (ii a1) (ii a2) (ii 0)) (fun m => f7_level m (ii a1) (ii a2) (ii 0)) := stp_mk hr hs (c_level h hs p1 q1 p2 q2 (b := 0) (Or.inl rfl)) (fun m hm => r_level hm hs p1 q1 p2 q2 (b := 0) (Or.inl rfl))
    rw [← l0] at T
    exact lwq T hk
  · simp only [if_neg g]
    have T : Stq mm (f6_level mm (ii a1) (ii a2) (ii 1)) (fun m => f7_level m (ii a1) (ii a2) (ii 1)) := stp_mk hr hs (c_level h hs p1 q1 p2 q2 (b := 1) (Or.inr rfl)) (fun m hm => r_level hm hs p1 q1 p2 q2 (b := 1) (Or.inr rfl))
    rw [← l1] at T
    exact lwq T hk
theorem lw_j1376 (h : CI mm s) (hr : RI mm s) (hs : SW s) (ha : LA L x4) (hk : FK K x4) : fL_law_j1376 L xs K x4 mm = some 1 := by
  have r1 : ∀ (β : Type) (k : Option β), rsc L (x4 + 1) k = k := fun _ k => rsx ha.2.1 k
  have r2 : ∀ (β : Type) (k : Option β), rsc L (x4 + 2) k = k := fun _ k => rsx ha.2.2.1 k
  have r3 : ∀ (β : Type) (k : Option β), rsc L (x4 + 3) k = k := fun _ k => rsx ha.2.2.2.1 k
  have r4 : ∀ (β : Type) (k : Option β), rsc L (x4 + 4) k = k := fun _ k => rsx ha.2.2.2.2.1 k
  have r5 : ∀ (β : Type) (k : Option β), rsc L (x4 + 5) k = k := fun _ k => rsx ha.2.2.2.2.2 k
  obtain ⟨a1, e1, p1, q1⟩ := iiv (xs (x4 + 1).toNatClampNeg)
  obtain ⟨a2, e2, p2, q2⟩ := iiv (xs (x4 + 2).toNatClampNeg)
  obtain ⟨a3, e3, p3, q3⟩ := iiv (xs (x4 + 3).toNatClampNeg)
  unfold fL_law_j1376 fL_law_j1403 fL_law_j1433
  simp only [r1, r2, r3, r4, r5, nm_eq, e1, e2, e3]
  by_cases g : ii a3 = 0
  · simp only [if_pos g]
    have T : StqL mm (f6_wider mm (ii a1) (ii a2) (ii 0)) (fun m => f7_wider m (ii a1) (ii a2) (ii 0)) := stpL_mk hr hs (c_wider h hs p1 q1 p2 q2 (b := 0) (Or.inl rfl)) (fun m hm => r_wider hm hs p1 q1 p2 q2 (b := 0) (Or.inl rfl))
    rw [← l0] at T
    exact lqL T hk
  · simp only [if_neg g]
    have T : StqL mm (f6_wider mm (ii a1) (ii a2) (ii 1)) (fun m => f7_wider m (ii a1) (ii a2) (ii 1)) := stpL_mk hr hs (c_wider h hs p1 q1 p2 q2 (b := 1) (Or.inr rfl)) (fun m hm => r_wider hm hs p1 q1 p2 q2 (b := 1) (Or.inr rfl))
    rw [← l1] at T
    exact lqL T hk
theorem lw_j733 (h : CI mm s) (hr : RI mm s) (hs : SW s) (ha : LA L x4) (hk : FK K x4) : fL_law_j733 L xs K x4 mm = some 1 := by
  have r1 : ∀ (β : Type) (k : Option β), rsc L (x4 + 1) k = k := fun _ k => rsx ha.2.1 k
  have r2 : ∀ (β : Type) (k : Option β), rsc L (x4 + 2) k = k := fun _ k => rsx ha.2.2.1 k
  have r3 : ∀ (β : Type) (k : Option β), rsc L (x4 + 3) k = k := fun _ k => rsx ha.2.2.2.1 k
  have r4 : ∀ (β : Type) (k : Option β), rsc L (x4 + 4) k = k := fun _ k => rsx ha.2.2.2.2.1 k
  have r5 : ∀ (β : Type) (k : Option β), rsc L (x4 + 5) k = k := fun _ k => rsx ha.2.2.2.2.2 k
  obtain ⟨a1, e1, p1, q1⟩ := iiv (xs (x4 + 1).toNatClampNeg)
  obtain ⟨a2, e2, p2, q2⟩ := iiv (xs (x4 + 2).toNatClampNeg)
  unfold fL_law_j733 fL_law_j798 f7_thrown
  simp only [r1, r2, r3, r4, r5, nm_eq, e1, e2]
  have cz := c_zoneOf h hs p1 q1 p2 q2
  by_cases c : (0 ≤ a1 ∧ a1 < sM s 0) ∧ (0 ≤ a2 ∧ a2 ≤ 5)
  · have hC : CI (up2 mm 133 0 (zofS (sM s) a1.toNat a2.toNat)) s := h.fr (fun c hc => by funext j; exact up2_c _ _ _ _ (by omega))
    have hR : RI (up2 mm 133 0 (zofS (sM s) a1.toNat a2.toNat)) s := hr.fc (fun c hc => by funext j; exact up2_c _ _ _ _ (by omega))
    obtain ⟨m', v, f1, f2, f3, f4, f5⟩ := r_zoneOf hR hs p1 q1 p2 q2
    rw [cz.1 c]
    show bd (f7_zoneOf (up2 mm 133 0 (zofS (sM s) a1.toNat a2.toNat)) (ii a1) (ii a2)) _ = _
    rw [f1, bd_some]
    dsimp only
    have z := f4 c
    have l133 : ln 133 = 1 := by decide +kernel
    rw [bd_some, z.2, if_pos rfl, if_pos rfl, l0, rdc_ii (by omega) (by rw [l133]; omega) (by rw [l133]; omega), ii_tk 0 0 rfl (by omega)]
    exact (if_pos (show lg_cmp (m' 133 0).toInt64 v.toInt64 = ii 0 by rw [f2 133 (by omega), up2_at, z.1]; exact (lgc_self _).trans l0)).trans (lj hk (hC.ff f2) f3 hs)
  · obtain ⟨m', v, f1, f2, f3, f4, f5⟩ := r_zoneOf hr hs p1 q1 p2 q2
    rw [(cz.2 c).1, (cz.2 c).2]
    show bd (f7_zoneOf mm (ii a1) (ii a2)) _ = _
    rw [f1, bd_some]
    dsimp only
    rw [bd_some, f5 c, if_pos rfl, if_neg (by decide)]
    exact lj hk (h.ff f2) f3 hs
theorem lw_j801 (h : CI mm s) (hr : RI mm s) (hs : SW s) (ha : LA L x4) (hk : FK K x4) : fL_law_j801 L xs K x4 mm = some 1 := by
  have r1 : ∀ (β : Type) (k : Option β), rsc L (x4 + 1) k = k := fun _ k => rsx ha.2.1 k
  have r2 : ∀ (β : Type) (k : Option β), rsc L (x4 + 2) k = k := fun _ k => rsx ha.2.2.1 k
  have r3 : ∀ (β : Type) (k : Option β), rsc L (x4 + 3) k = k := fun _ k => rsx ha.2.2.2.1 k
  have r4 : ∀ (β : Type) (k : Option β), rsc L (x4 + 4) k = k := fun _ k => rsx ha.2.2.2.2.1 k
  have r5 : ∀ (β : Type) (k : Option β), rsc L (x4 + 5) k = k := fun _ k => rsx ha.2.2.2.2.2 k
  obtain ⟨a1, e1, p1, q1⟩ := iiv (xs (x4 + 1).toNatClampNeg)
  obtain ⟨a2, e2, p2, q2⟩ := iiv (xs (x4 + 2).toNatClampNeg)
  unfold fL_law_j801 fL_law_j866 f7_thrown
  simp only [r1, r2, r3, r4, r5, nm_eq, e1, e2]
  have cz := c_resourceOf h hs p1 q1 p2 q2
  by_cases c : (0 ≤ a1 ∧ a1 < sM s 1) ∧ (0 ≤ a2 ∧ a2 ≤ 6)
  · have hC : CI (up2 mm 133 0 (ii (sM s (79 + 13 * a1.toNat + a2.toNat)))) s := h.fr (fun c hc => by funext j; exact up2_c _ _ _ _ (by omega))
    have hR : RI (up2 mm 133 0 (ii (sM s (79 + 13 * a1.toNat + a2.toNat)))) s := hr.fc (fun c hc => by funext j; exact up2_c _ _ _ _ (by omega))
    obtain ⟨m', v, f1, f2, f3, f4, f5⟩ := r_resourceOf hR hs p1 q1 p2 q2
    rw [cz.1 c]
    show bd (f7_resourceOf (up2 mm 133 0 (ii (sM s (79 + 13 * a1.toNat + a2.toNat)))) (ii a1) (ii a2)) _ = _
    rw [f1, bd_some]
    dsimp only
    have z := f4 c
    have l133 : ln 133 = 1 := by decide +kernel
    rw [bd_some, z.2, if_pos rfl, if_pos rfl, l0, rdc_ii (by omega) (by rw [l133]; omega) (by rw [l133]; omega), ii_tk 0 0 rfl (by omega)]
    exact (if_pos (show lg_cmp (m' 133 0).toInt64 v.toInt64 = ii 0 by rw [f2 133 (by omega), up2_at, z.1]; exact (lgc_self _).trans l0)).trans (lj hk (hC.ff f2) f3 hs)
  · obtain ⟨m', v, f1, f2, f3, f4, f5⟩ := r_resourceOf hr hs p1 q1 p2 q2
    rw [(cz.2 c).1, (cz.2 c).2]
    show bd (f7_resourceOf mm (ii a1) (ii a2)) _ = _
    rw [f1, bd_some]
    dsimp only
    rw [bd_some, f5 c, if_pos rfl, if_neg (by decide)]
    exact lj hk (h.ff f2) f3 hs
theorem ite_l {c : Prop} [Decidable c] {A B : Option Int32} (ha : A = some 1) (hb : B = some 1) : (if c then A else B) = some 1 := by
  by_cases h : c
  · rw [if_pos h]; exact ha
  · rw [if_neg h]; exact hb
theorem lw_body (h : CI mm s) (hr : RI mm s) (hs : SW s) (ha : LA L x4) (hk : FK K x4) : fL_law_l23 L xs K x4 mm = some 1 := by
  unfold fL_law_l23
  refine ite_l rfl ?_
  rw [rsx ha.1, nm_eq]
  refine ite_l (lw_j196 h hr hs ha hk) ?_
  refine ite_l (lw_j269 h hr hs ha hk) ?_
  refine ite_l (lw_j294 h hr hs ha hk) ?_
  refine ite_l (lw_j307 h hr hs ha hk) ?_
  refine ite_l (lw_j320 h hr hs ha hk) ?_
  refine ite_l (lw_j369 h hr hs ha hk) ?_
  refine ite_l (lw_j418 h hr hs ha hk) ?_
  refine ite_l (lw_j507 h hr hs ha hk) ?_
  refine ite_l (lw_j556 h hr hs ha hk) ?_
  refine ite_l (lw_j609 h hr hs ha hk) ?_
  refine ite_l (lw_j658 h hr hs ha hk) ?_
  refine ite_l (lw_j683 h hr hs ha hk) ?_
  refine ite_l (lw_j708 h hr hs ha hk) ?_
  refine ite_l (lw_j733 h hr hs ha hk) ?_
  refine ite_l (lw_j801 h hr hs ha hk) ?_
  refine ite_l (lw_j869 h hr hs ha hk) ?_
  refine ite_l (lw_j934 h hr hs ha hk) ?_
  refine ite_l (lw_j971 h hr hs ha hk) ?_
  refine ite_l (lw_j1008 h hr hs ha hk) ?_
  refine ite_l (lw_j1073 h hr hs ha hk) ?_
  refine ite_l (lw_j1098 h hr hs ha hk) ?_
  refine ite_l (lw_j1123 h hr hs ha hk) ?_
  refine ite_l (lw_j1148 h hr hs ha hk) ?_
  refine ite_l (lw_j1185 h hr hs ha hk) ?_
  refine ite_l (lw_j1210 h hr hs ha hk) ?_
  refine ite_l (lw_j1224 h hr hs ha hk) ?_
  refine ite_l (lw_j1250 h hr hs ha hk) ?_
  refine ite_l (lw_j1276 h hr hs ha hk) ?_
  refine ite_l (lw_j1302 h hr hs ha hk) ?_
  refine ite_l (lw_j1339 h hr hs ha hk) ?_
  refine ite_l (lw_j1376 h hr hs ha hk) ?_
  refine ite_l (lw_j1442 h hr hs ha hk) ?_
  refine ite_l (lw_j1467 h hr hs ha hk) ?_
  refine ite_l (lw_j1492 h hr hs ha hk) ?_
  refine ite_l (lw_j1542 h hr hs ha hk) ?_
  exact lj hk h hr hs
end
