/-! the world at the law's start -/
section
variable {args : Array Value} {s : State}
theorem st_K (hts : ∀ w ∈ lw_tbl, w.before args s = true) : ∃ (D : va_G) (cI cZ cJ : ClassId), va_K D zcls (tyn cI cZ cJ) s := by
  have tw : ∀ w ∈ TW, w.before args s = true := fun w h => hts w (List.mem_filter.mp h).1
  have g : ∀ (i : Nat) (w : Cond), lw_tbl[i]? = some w → w.before args s = true := fun i w h => hts w (List.mem_of_getElem? h)
  obtain ⟨c0, i0, k0⟩ := u_known (C := RX0) (T := TX0) (N := 12) (n := 12) tw iwX0 (g 97 _ (by decide +kernel))
  obtain ⟨c1, i1, k1⟩ := u_known (C := RX1) (T := TX1) (N := 2) (n := 2) tw iwX1 (g 103 _ (by decide +kernel))
  obtain ⟨c2, i2, k2⟩ := u_known (C := RX2) (T := TX2) (N := 12) (n := 12) tw iwX2 (g 150 _ (by decide +kernel))
  obtain ⟨c3, i3, k3⟩ := u_known (C := RX3) (T := TX3) (N := 2) (n := 2) tw iwX3 (g 270 _ (by decide +kernel))
  obtain ⟨c4, i4, k4⟩ := u_known (C := RX4) (T := TX4) (N := 8) (n := 8) tw iwX4 (g 264 _ (by decide +kernel))
  obtain ⟨c5, i5, k5⟩ := u_known (C := RX5) (T := TX5) (N := 7) (n := 7) tw iwX5 (g 109 _ (by decide +kernel))
  obtain ⟨c6, i6, k6⟩ := u_known (C := RX6) (T := TX6) (N := 7) (n := 7) tw iwX6 (g 89 _ (by decide +kernel))
  obtain ⟨c7, i7, k7⟩ := u_known (C := RX7) (T := TX7) (N := 23) (n := 23) tw iwX7 (g 933 _ (by decide +kernel))
  obtain ⟨cI, kI, pI, hI1, hI2, hI3⟩ := Cond.arrayClass_spec (g 148 (.arrayClass .int) (by decide +kernel))
  obtain ⟨cZ, kZ, pZ, hZ1, hZ2, hZ3⟩ := Cond.arrayClass_spec (g 1008 (.arrayClass .boolean) (by decide +kernel))
  obtain ⟨cJ, kJ, pJ, hJ1, hJ2, hJ3⟩ := Cond.arrayClass_spec (g 1354 (.arrayClass .long) (by decide +kernel))
  refine ⟨(fun k => if k = 0 then c0 else if k = 1 then c1 else if k = 2 then c2 else if k = 3 then c3 else if k = 4 then c4 else if k = 5 then c5 else if k = 6 then c6 else c7, fun k => if k = 0 then i0 else if k = 1 then i1 else if k = 2 then i2 else if k = 3 then i3 else if k = 4 then i4 else if k = 5 then i5 else if k = 6 then i6 else i7), cI, cZ, cJ, fun k q hq => ?_, fun k q hq => ?_⟩
  · match k, hq with
    | 0, hq => cases hq; exact k0
    | 1, hq => cases hq; exact k1
    | 2, hq => cases hq; exact k2
    | 3, hq => cases hq; exact k3
    | 4, hq => cases hq; exact k4
    | 5, hq => cases hq; exact k5
    | 6, hq => cases hq; exact k6
    | 7, hq => cases hq; exact k7
    | k + 8, hq => simp [zcls] at hq
  · match k, hq with
    | 0, hq => cases hq; exact ⟨fun n z => ⟨fun k h => (by cases h), kI, hI2, pI, hI3⟩, hI1⟩
    | 1, hq => cases hq; exact ⟨fun n z => ⟨fun k h => (by cases h), kZ, hZ2, pZ, hZ3⟩, hZ1⟩
    | 2, hq => cases hq; exact ⟨fun n z => ⟨fun k h => (by cases h), kJ, hJ2, pJ, hJ3⟩, hJ1⟩
    | k + 3, hq => simp at hq
theorem zns_ids : zns.map (fun q => some (Cond.methodLinkNest q.1 q.2.1 q.2.2.1 q.2.2.2)) = [98, 104, 110, 151, 265, 271, 286, 316, 347, 369, 376, 385, 466, 471, 485, 513, 523, 541, 634, 687, 694].map (fun i => lw_tbl[i]?) := by decide +kernel
theorem st_N (hts : ∀ w ∈ lw_tbl, w.before args s = true) : Nx s := by
  intro q hq
  refine va_Nw.of rfl (hts _ ?_)
  have h : some (Cond.methodLinkNest q.1 q.2.1 q.2.2.1 q.2.2.2) ∈ zns.map (fun q => some (Cond.methodLinkNest q.1 q.2.1 q.2.2.1 q.2.2.2)) := List.mem_map.mpr ⟨q, hq, rfl⟩
  rw [zns_ids] at h
  obtain ⟨i, -, hi⟩ := List.mem_map.mp h
  exact List.mem_of_getElem? hi
/-- a text of the class -/
def ztm (i : Nat) : Term := .string "ZoneCapacity$Teller" ((ztx.map (fun q => q.1)).getD i 0)
def gnr : List Cond := flatC (Jvm.Cond.and given_1 narrow_1)
theorem g_ex : ∀ i, i < 9 → Cond.exactly (ztm i) "java/lang/String" ∈ gnr := by decide +kernel
theorem g_co : ∀ i, i < 9 → Cond.eq (.field (ztm i) "java/lang/String" "coder" "B") (.int 0) ∈ gnr := by decide +kernel
theorem g_ar : ∀ i, i < 9 → Cond.arrayOf (.field (ztm i) "java/lang/String" "value" "[B") .byte ∈ gnr := by decide +kernel
theorem g_le : ∀ i, i < 9 → Cond.eq (.length (.field (ztm i) "java/lang/String" "value" "[B")) (.int (Int32.ofNat (ztl.getD i 0))) ∈ gnr := by decide +kernel
theorem g_el : ∀ i, i < 9 → ∀ j, j < ztl.getD i 0 → Cond.eq (.elem (.field (ztm i) "java/lang/String" "value" "[B") (.int (Int32.ofNat j))) (.int ((ztb.getD i []).getD j 0)) ∈ gnr := by decide +kernel
theorem g_ne : ∀ i, i < 9 → ∀ j, j < 9 → i ≠ j → Cond.not (Cond.eq (ztm i) (ztm j)) ∈ gnr ∨ Cond.not (Cond.eq (ztm j) (ztm i)) ∈ gnr := by decide +kernel
theorem g_st : Cond.eq (.static "java/lang/String" "COMPACT_STRINGS" "Z") (.int 1) ∈ gnr ∧ Cond.isRef (.static "jdk/internal/util/Preconditions" "SIOOBE_FORMATTER" "Ljava/util/function/BiFunction;") ∈ gnr ∧ Cond.isRef (.static "java/lang/Throwable" "UNASSIGNED_STACK" "[Ljava/lang/StackTraceElement;") ∈ gnr ∧ Cond.isRef (.static "java/lang/Throwable" "SUPPRESSED_SENTINEL" "Ljava/util/List;") ∈ gnr := by decide +kernel
theorem ztr : (List.range 9).map (fun i => (ztx[i]?).map (fun q => Cond.stringRef "ZoneCapacity$Teller" q.1 q.2.1)) = [401, 476, 498, 514, 536, 542, 547, 503, 508].map (fun i => lw_tbl[i]?) := by decide +kernel
theorem st_S (hts : ∀ w ∈ lw_tbl, w.before args s = true) (hg : (Jvm.Cond.and given_1 narrow_1).before args s = true) {A : Nat → Prop} (hA : ∀ a : Nat, a < s.heap.size → ¬ A a) : ∃ (ak av : Nat → Nat) (pf : Nat), ∀ C : Cfg, (∀ i, i < 9 → C.1 (1000 + i) = ak i ∧ C.1 (2000 + i) = av i) → C.1 3000 = pf → Sx C A s s.heap := by
  have hs : ∀ w ∈ gnr, w.before args s = true := flat_of_before _ hg
  have g : ∀ (i : Nat) (w : Cond), lw_tbl[i]? = some w → w.before args s = true := fun i w h => hts w (List.mem_of_getElem? h)
  obtain ⟨ak, av, hv, he⟩ := vk_Sof (s := s) (args := args) (N := 9) (tm := ztm) (len := ztl) (byt := ztb) (A := A) (by decide) (fun i hi => hs _ (g_ex i hi)) (fun i hi => hs _ (g_co i hi)) (fun i hi => hs _ (g_ar i hi)) (fun i hi => hs _ (g_le i hi)) (fun i hi j hj => hs _ (g_el i hi j hj)) (fun i j hi hj hij => (g_ne i hi j hj hij).elim (fun z => Or.inl (hs _ z)) (fun z => Or.inr (hs _ z))) hA
  have z5 : va_Zq "jdk/internal/util/Preconditions" "SIOOBE_FORMATTER" "Ljava/util/function/BiFunction;" A s s.heap := va_Zqof (g 431 _ (by decide +kernel)) (g 81 _ (by decide +kernel)) (hs _ g_st.2.1) hA
  have z3 : va_Z "java/lang/String" "COMPACT_STRINGS" "Z" (.int 1) A s s.heap := va_Zof (g 415 _ (by decide +kernel)) (g 79 _ (by decide +kernel)) (va_eqt (hs _ g_st.1)) hA
  have z7 : vx_Zq Bundle.tN "UNASSIGNED_STACK" Bundle.steD A s s.heap := vx_Zqof (g 887 _ (by decide +kernel)) (g 83 _ (by decide +kernel)) (hs _ g_st.2.2.1) hA
  have z8 : vx_Zq Bundle.tN "SUPPRESSED_SENTINEL" Bundle.listD A s s.heap := vx_Zqof (g 889 _ (by decide +kernel)) (g 83 _ (by decide +kernel)) (hs _ g_st.2.2.2) hA
  obtain ⟨pf, hp⟩ : ∃ pf : Nat, va_Z "jdk/internal/util/Preconditions" "SIOOBE_FORMATTER" "Ljava/util/function/BiFunction;" .null A s s.heap ∨ va_Z "jdk/internal/util/Preconditions" "SIOOBE_FORMATTER" "Ljava/util/function/BiFunction;" (.ref pf) A s s.heap := by
    rcases z5 with z | ⟨t, z⟩
    · exact ⟨0, Or.inl z⟩
    · exact ⟨t, Or.inr z⟩
  refine ⟨ak, av, pf, fun C hC h3 => ⟨⟨fun i hi => ?_, fun i j hi hj e => ?_⟩, fun i q hq => ?_, z3, st_N hts, ?_, fun w hw => va_Nw.of (tf_ok hw).2 (hts w (List.mem_filter.mp hw).1), z7, z8⟩⟩
  · have t := hv.1 i hi
    dsimp only
    rw [(hC i hi).1, (hC i hi).2]
    exact t
  · dsimp only at e
    rw [(hC i hi).1, (hC j hj).1] at e
    exact hv.2 i j hi hj e
  · have hi : i < 9 := by
      have := (List.getElem?_eq_some_iff.mp hq).1
      exact this
    have r : some (Cond.stringRef "ZoneCapacity$Teller" q.1 q.2.1) ∈ (List.range 9).map (fun i => (ztx[i]?).map (fun q => Cond.stringRef "ZoneCapacity$Teller" q.1 q.2.1)) := List.mem_map.mpr ⟨i, List.mem_range.mpr hi, by rw [hq]; rfl⟩
    rw [ztr] at r
    obtain ⟨k, -, hk⟩ := List.mem_map.mp r
    have e := he i hi
    have ez : ztm i = .string "ZoneCapacity$Teller" q.1 := by
      unfold ztm
      rw [List.getD_eq_getElem?_getD, List.getElem?_map, hq]
      rfl
    rw [ez] at e
    rw [(hC i hi).1]
    exact vk_R.of (hts _ (List.mem_of_getElem? hk)) e
  · rw [h3]
    exact hp
end
