/-! the world at the law's start -/
section
variable {args : Array Value} {s : State}
theorem ao_I {A : Array Value} {U : State} (h : (Cond.arrayOver (.array .int)).before A U = true) : ∃ (comp c : ClassId) (k : Class), U.vm.classes[c]? = some k ∧ k.kind = .array comp (.array .int) ∧ U.vm.findClass ("[" ++ (FieldType.array .int).toString) = some c := by
  unfold Cond.before Cond.holds at h
  simp only [Cond.value] at h
  cases hc : U.vm.findClass (FieldType.array .int).toString with
  | none => rw [hc] at h; simp at h
  | some comp =>
    rw [hc] at h
    simp only [Option.bind_some] at h
    have h' : (((U.vm.classes.findIdx? fun (x : Class) => match x.kind with | .array component _ => component == comp | _ => false).bind fun c => (U.vm.classes[c]?).map fun (k : Class) => match k.kind with | .array _ ty => decide (ty = FieldType.array .int) && decide (U.vm.findClass ("[" ++ (FieldType.array .int).toString) = some c) | _ => false) == some true) = true := h
    cases hi : (U.vm.classes.findIdx? fun (x : Class) => match x.kind with | .array component _ => component == comp | _ => false) with
    | none => rw [hi] at h'; simp at h'
    | some c =>
      rw [hi] at h'
      simp only [Option.bind_some] at h'
      cases hk : U.vm.classes[c]? with
      | none => rw [hk] at h'; simp at h'
      | some k =>
        rw [hk] at h'
        simp only [Option.map_some] at h'
        cases hq : k.kind with
        | array cm ty =>
          rw [hq] at h'
          simp at h'
          exact ⟨cm, c, k, hk, by rw [hq, h'.1], h'.2⟩
        | _ => rw [hq] at h'; simp at h'
theorem st_K (hts : ∀ w ∈ lw_tbl, w.before args s = true) : ∃ (D : va_G) (cI cZ cJ : ClassId), va_K D zcls (tyn cI cZ cJ) s := by
  have tw : ∀ w ∈ TW, w.before args s = true := fun w h => hts w (List.mem_filter.mp h).1
  have g : ∀ (i : Nat) (w : Cond), lw_tbl[i]? = some w → w.before args s = true := fun i w h => hts w (List.mem_of_getElem? h)
  obtain ⟨c0, i0, k0⟩ := u_known (C := RX0) (T := TX0) (N := 12) (n := 12) tw iwX0 (g 51 _ (by decide +kernel))
  obtain ⟨c1, i1, k1⟩ := u_known (C := RX1) (T := TX1) (N := 2) (n := 2) tw iwX1 (g 57 _ (by decide +kernel))
  obtain ⟨c2, i2, k2⟩ := u_known (C := RX2) (T := TX2) (N := 12) (n := 12) tw iwX2 (g 100 _ (by decide +kernel))
  obtain ⟨c3, i3, k3⟩ := u_known (C := RX3) (T := TX3) (N := 2) (n := 2) tw iwX3 (g 209 _ (by decide +kernel))
  obtain ⟨c4, i4, k4⟩ := u_known (C := RX4) (T := TX4) (N := 8) (n := 8) tw iwX4 (g 203 _ (by decide +kernel))
  obtain ⟨c5, i5, k5⟩ := u_known (C := RX5) (T := TX5) (N := 7) (n := 7) tw iwX5 (g 63 _ (by decide +kernel))
  obtain ⟨c6, i6, k6⟩ := u_known (C := RX6) (T := TX6) (N := 7) (n := 7) tw iwX6 (g 43 _ (by decide +kernel))
  obtain ⟨c7, i7, k7⟩ := u_known (C := RX7) (T := TX7) (N := 1) (n := 1) tw iwX7 (g 438 _ (by decide +kernel))
  obtain ⟨c8, i8, k8⟩ := u_known (C := RX8) (T := TX8) (N := 10) (n := 10) tw iwX8 (g 453 _ (by decide +kernel))
  obtain ⟨c9, i9, k9⟩ := u_known (C := RJx4a65c) (T := TJx4a65c) (N := 3) (n := 3) tw iwJx4a65c (g 459 _ (by decide +kernel))
  obtain ⟨ca, ia, ka⟩ := u_known (C := RJx35411) (T := TJx35411) (N := 4) (n := 4) tw iwJx35411 (g 864 _ (by decide +kernel))
  obtain ⟨cI, kI, pI, hI1, hI2, hI3⟩ := Cond.arrayClass_spec (g 98 (.arrayClass .int) (by decide +kernel))
  obtain ⟨zc, cZ, kZ, hZ1, -, hZ2, hZ3, hZ4⟩ := Cond.arrayOver_spec (g 534 (.arrayOver (.object "java/lang/Object")) (by decide +kernel))
  obtain ⟨jc, cJ, kJ, hJ2, hJ3, hJ4⟩ := ao_I (g 987 (.arrayOver (.array .int)) (by decide +kernel))
  refine ⟨(fun k => if k = 0 then c0 else if k = 1 then c1 else if k = 2 then c2 else if k = 3 then c3 else if k = 4 then c4 else if k = 5 then c5 else if k = 6 then c6 else if k = 7 then c7 else if k = 8 then c8 else if k = 9 then c9 else ca, fun k => if k = 0 then i0 else if k = 1 then i1 else if k = 2 then i2 else if k = 3 then i3 else if k = 4 then i4 else if k = 5 then i5 else if k = 6 then i6 else if k = 7 then i7 else if k = 8 then i8 else if k = 9 then i9 else ia), cI, cZ, cJ, fun k q hq => ?_, fun k q hq => ?_⟩
  · match k, hq with
    | 0, hq => cases hq; exact k0
    | 1, hq => cases hq; exact k1
    | 2, hq => cases hq; exact k2
    | 3, hq => cases hq; exact k3
    | 4, hq => cases hq; exact k4
    | 5, hq => cases hq; exact k5
    | 6, hq => cases hq; exact k6
    | 7, hq => cases hq; exact k7
    | 8, hq => cases hq; exact k8
    | 9, hq => cases hq; exact k9
    | 10, hq => cases hq; exact ka
    | k + 11, hq => simp [zcls] at hq
  · match k, hq with
    | 0, hq => cases hq; exact ⟨fun n z => ⟨fun k h => (by cases h), kI, hI2, pI, hI3⟩, hI1⟩
    | 1, hq => cases hq; exact ⟨fun n z => ⟨fun k h => (by cases h), kZ, hZ2, zc, hZ3⟩, kZ, zc, hZ2, hZ3, hZ1, hZ4⟩
    | 2, hq => cases hq; exact ⟨fun n z => ⟨fun k h => (by cases h), kJ, hJ2, jc, hJ3⟩, hJ4⟩
    | k + 3, hq => simp at hq
theorem zns_ids : zns.map (fun q => some (Cond.methodLinkNest q.1 q.2.1 q.2.2.1 q.2.2.2)) = ([52, 58, 64, 101, 204, 210, 221, 242, 278, 290, 305, 306, 348, 368, 420] : List Nat).map (fun i => lw_tbl[i]?) := by decide +kernel
theorem fns_ids : fns.map (fun q => some (Cond.fieldLinkNest q.1 q.2.1 q.2.2.1 q.2.2.2.1 q.2.2.2.2.1 q.2.2.2.2.2)) = ([474, 543, 545, 547, 549, 551, 553, 554, 556, 558, 560] : List Nat).map (fun i => lw_tbl[i]?) := by decide +kernel
theorem st_N (hts : ∀ w ∈ lw_tbl, w.before args s = true) : Nx s := by
  intro q hq
  refine va_Nw.of rfl (hts _ ?_)
  have h : some (Cond.methodLinkNest q.1 q.2.1 q.2.2.1 q.2.2.2) ∈ zns.map (fun q => some (Cond.methodLinkNest q.1 q.2.1 q.2.2.1 q.2.2.2)) := List.mem_map.mpr ⟨q, hq, rfl⟩
  rw [zns_ids] at h
  obtain ⟨i, -, hi⟩ := List.mem_map.mp h
  exact List.mem_of_getElem? hi
theorem st_F (hts : ∀ w ∈ lw_tbl, w.before args s = true) : ∀ q ∈ fns, va_Nw (.fieldLinkNest q.1 q.2.1 q.2.2.1 q.2.2.2.1 q.2.2.2.2.1 q.2.2.2.2.2) s := by
  intro q hq
  refine va_Nw.of rfl (hts _ ?_)
  have h : some (Cond.fieldLinkNest q.1 q.2.1 q.2.2.1 q.2.2.2.1 q.2.2.2.2.1 q.2.2.2.2.2) ∈ fns.map (fun q => some (Cond.fieldLinkNest q.1 q.2.1 q.2.2.1 q.2.2.2.1 q.2.2.2.2.1 q.2.2.2.2.2)) := List.mem_map.mpr ⟨q, hq, rfl⟩
  rw [fns_ids] at h
  obtain ⟨i, -, hi⟩ := List.mem_map.mp h
  exact List.mem_of_getElem? hi
def gnr : List Cond := flatC (Jvm.Cond.and given_1 narrow_1)
abbrev tmE : Term := .static alN alE alD
theorem g_E : Cond.isRef tmE ∈ gnr ∧ Cond.arrayOf tmE (.object "java/lang/Object") ∈ gnr ∧ Cond.eq (.length tmE) (.int 0) ∈ gnr := by decide +kernel
theorem st_E (hts : ∀ w ∈ lw_tbl, w.before args s = true) (hg : (Jvm.Cond.and given_1 narrow_1).before args s = true) {A : Nat → Prop} (hA : ∀ a : Nat, a < s.heap.size → ¬ A a) : ∃ t : Nat, va_Z alN alE alD (.ref t) A s s.heap ∧ va_T (.object "java/lang/Object") t 0 (fun _ => .null) A s s.heap ∧ ¬ A t := by
  have hs : ∀ w ∈ gnr, w.before args s = true := flat_of_before _ hg
  have g : ∀ (i : Nat) (w : Cond), lw_tbl[i]? = some w → w.before args s = true := fun i w h => hts w (List.mem_of_getElem? h)
  obtain ⟨g1, g2, g3⟩ := g_E
  have hl : (Term.length tmE).eval args s none [] s = some (.int (Int32.ofNat 0)) := va_eqt (hs _ g3)
  obtain ⟨t, h1, h2⟩ := va_Tof (s := s) (args := args) (tm := tmE) (ty := .object "java/lang/Object") (N := 0) (f := fun _ => .null) (A := A) (by decide) (hs _ g2) hl (fun j hj => absurd hj (Nat.not_lt_zero j)) hA
  refine ⟨t, va_Zof (g 471 _ (by decide +kernel)) (g 24 _ (by decide +kernel)) h1 hA, h2, ?_⟩
  obtain ⟨cell, -, -, -, -, -, -, h⟩ := h2
  exact h
end
