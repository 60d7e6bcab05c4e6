/-! ZoneCapacityModel.fault()I -/
def tbX7_fault : Tb := [(0, .aload_n 0, 1, 1), (1, .iconst 0, 1, 2), (2, .putfield 50, 3, 5), (5, .aload_n 0, 1, 6), (6, .getfield 267, 3, 9), (9, .ireturn, 1, 10)]
theorem dtX7_fault : ∀ q ∈ tbX7_fault, decode cX7_fault q.1 = .ok (q.2.1, q.2.2.1) ∧ q.1 + q.2.2.1 = q.2.2.2 := by decide +kernel
theorem miX7_fault : MI yX7_fault cX7_fault 1 (some .int) 0 := ⟨tw_mem (List.mem_of_getElem? (i := 1353) (by decide +kernel)) rfl, by decide, by decide +kernel, tw_mem (List.mem_of_getElem? (i := 78) (by decide +kernel)) rfl⟩
abbrev rmX7_fault : Room := { frames := 0, cells := 0, slots := 0, locals := 0 }
def wX7_fault : List Cond := [.fieldLink "ZoneCapacityModel" 50 "ZoneCapacityModel" "raised" "I", .fieldLink "ZoneCapacityModel" 267 "ZoneCapacityModel" "fault" "I"]
theorem iX7_fault : ∀ w ∈ wX7_fault, w ∈ TW := tw_of (ids := [938, 954]) (by decide +kernel)
def f7_fault (mm : Mem) : Option (Int32 × Mem) := nm (up2 mm 0 0 (0 : Int32)) (fun m1 => some (m1 0 16, m1))
theorem ctX7_fault {l : Launch} {C : Cfg} (hj : Dj C) {mm : Mem} {x : (Int32 × Mem)} (hf : f7_fault mm = some x) : Ct l C yX7_fault cX7_fault 1 (some .int) 0 0 [.ref 0] mm (some (.int x.1)) x.2 := by
  refine Ct.of (tb := tbX7_fault) hj miX7_fault.2.1 miX7_fault.1 dtX7_fault (Nat.le_of_ble_eq_true rfl) ?_
  intro E B hQ hr X
  unfold f7_fault at hf
  show G E 1 0 [(0, .ref 0)] [] mm
  refine z_aload_n B 0 rfl 0 0 rfl rfl ?_
  refine z_iconst 0 B 1 rfl (by decide) ?_
  refine z_puti 7 0 0 B 2 rfl ob_0 rfl (iX7_fault _ (List.mem_of_getElem? (i := 0) rfl)) rfl (ty := .int) (by decide) rfl rfl rfl ?_
  obtain ⟨m1, ex, hf⟩ := nm_x hf
  refine z_mem ex ?_
  refine z_aload_n B 3 rfl 0 0 rfl rfl ?_
  refine z_geti 7 16 0 B 4 rfl ob_0 rfl (iX7_fault _ (List.mem_of_getElem? (i := 1) rfl)) rfl ?_
  cases hf
  exact z_iret B 5 rfl rfl hQ hr
