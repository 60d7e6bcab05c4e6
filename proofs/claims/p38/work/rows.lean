section
-- ===== PART A: goes FIRST, ahead of the names: the tables' words, and 'selects' of the private methods out of them =====
/-- a private method of a class that the tables say can be made, by its rows of tables_1 -/
def lw_okq (q : MethodName × Nat) : Prop := (q.1.cls ≠ "java/lang/invoke/MethodHandle" ∧ q.1.cls ≠ "java/lang/invoke/VarHandle") ∧ Cond.instantiable q.1.cls q.2 ∈ tables_1 ∧ Cond.privateMethod q.1 ∈ tables_1 ∧ Cond.instanceMethod q.1 ∈ tables_1
theorem lw_p0 : lw_okq (⟨"ZoneCapacity$Auction", "readLines", "()V"⟩, 12) := ⟨⟨by decide +kernel, by decide +kernel⟩, List.mem_of_getElem? (i := 38) (by decide +kernel), List.mem_of_getElem? (i := 324) (by decide +kernel), List.mem_of_getElem? (i := 325) (by decide +kernel)⟩
theorem lw_p1 : lw_okq (⟨"ZoneCapacity$Auction", "readTop", "()V"⟩, 12) := ⟨⟨by decide +kernel, by decide +kernel⟩, List.mem_of_getElem? (i := 38) (by decide +kernel), List.mem_of_getElem? (i := 347) (by decide +kernel), List.mem_of_getElem? (i := 348) (by decide +kernel)⟩
theorem lw_p2 : lw_okq (⟨"ZoneCapacity$Auction", "leastPrice", "(II)I"⟩, 12) := ⟨⟨by decide +kernel, by decide +kernel⟩, List.mem_of_getElem? (i := 38) (by decide +kernel), List.mem_of_getElem? (i := 357) (by decide +kernel), List.mem_of_getElem? (i := 358) (by decide +kernel)⟩
theorem lw_p3 : lw_okq (⟨"ZoneCapacity$Auction", "fillLevels", "(II[I)V"⟩, 12) := ⟨⟨by decide +kernel, by decide +kernel⟩, List.mem_of_getElem? (i := 38) (by decide +kernel), List.mem_of_getElem? (i := 361) (by decide +kernel), List.mem_of_getElem? (i := 362) (by decide +kernel)⟩
theorem lw_p4 : lw_okq (⟨"ZoneCapacity$Auction", "unitsBelow", "(II)I"⟩, 12) := ⟨⟨by decide +kernel, by decide +kernel⟩, List.mem_of_getElem? (i := 38) (by decide +kernel), List.mem_of_getElem? (i := 372) (by decide +kernel), List.mem_of_getElem? (i := 373) (by decide +kernel)⟩
theorem lw_p5 : lw_okq (⟨"ZoneCapacity$Auction", "part", "(I)V"⟩, 12) := ⟨⟨by decide +kernel, by decide +kernel⟩, List.mem_of_getElem? (i := 38) (by decide +kernel), List.mem_of_getElem? (i := 382) (by decide +kernel), List.mem_of_getElem? (i := 383) (by decide +kernel)⟩
theorem lw_p6 : lw_okq (⟨"ZoneCapacity$Auction", "partToLines", "(III)I"⟩, 12) := ⟨⟨by decide +kernel, by decide +kernel⟩, List.mem_of_getElem? (i := 38) (by decide +kernel), List.mem_of_getElem? (i := 386) (by decide +kernel), List.mem_of_getElem? (i := 387) (by decide +kernel)⟩
theorem lw_p7 : lw_okq (⟨"ZoneCapacity$Auction", "partToInner", "(III)I"⟩, 12) := ⟨⟨by decide +kernel, by decide +kernel⟩, List.mem_of_getElem? (i := 38) (by decide +kernel), List.mem_of_getElem? (i := 391) (by decide +kernel), List.mem_of_getElem? (i := 392) (by decide +kernel)⟩
theorem lw_p8 : lw_okq (⟨"java/util/ArrayList", "add", "(Ljava/lang/Object;[Ljava/lang/Object;I)V"⟩, 3) := ⟨⟨by decide +kernel, by decide +kernel⟩, List.mem_of_getElem? (i := 446) (by decide +kernel), List.mem_of_getElem? (i := 479) (by decide +kernel), List.mem_of_getElem? (i := 480) (by decide +kernel)⟩
theorem lw_p9 : lw_okq (⟨"java/util/ArrayList", "grow", "()[Ljava/lang/Object;"⟩, 3) := ⟨⟨by decide +kernel, by decide +kernel⟩, List.mem_of_getElem? (i := 446) (by decide +kernel), List.mem_of_getElem? (i := 483) (by decide +kernel), List.mem_of_getElem? (i := 484) (by decide +kernel)⟩
theorem lw_p10 : lw_okq (⟨"java/util/ArrayList", "grow", "(I)[Ljava/lang/Object;"⟩, 3) := ⟨⟨by decide +kernel, by decide +kernel⟩, List.mem_of_getElem? (i := 446) (by decide +kernel), List.mem_of_getElem? (i := 487) (by decide +kernel), List.mem_of_getElem? (i := 488) (by decide +kernel)⟩
theorem lw_p11 : lw_okq (⟨"java/lang/Throwable", "fillInStackTrace", "(I)Ljava/lang/Throwable;"⟩, 6) := ⟨⟨by decide +kernel, by decide +kernel⟩, List.mem_of_getElem? (i := 929) (by decide +kernel), List.mem_of_getElem? (i := 927) (by decide +kernel), List.mem_of_getElem? (i := 928) (by decide +kernel)⟩
theorem lw_p12 : lw_okq (⟨"ZoneCapacityLaw$Market", "leastPrice", "(II)I"⟩, 10) := ⟨⟨by decide +kernel, by decide +kernel⟩, List.mem_of_getElem? (i := 440) (by decide +kernel), List.mem_of_getElem? (i := 976) (by decide +kernel), List.mem_of_getElem? (i := 977) (by decide +kernel)⟩
def lw_privs_1 : List (MethodName × Nat) := [(⟨"ZoneCapacity$Auction", "readLines", "()V"⟩, 12), (⟨"ZoneCapacity$Auction", "readTop", "()V"⟩, 12), (⟨"ZoneCapacity$Auction", "leastPrice", "(II)I"⟩, 12), (⟨"ZoneCapacity$Auction", "fillLevels", "(II[I)V"⟩, 12), (⟨"ZoneCapacity$Auction", "unitsBelow", "(II)I"⟩, 12), (⟨"ZoneCapacity$Auction", "part", "(I)V"⟩, 12), (⟨"ZoneCapacity$Auction", "partToLines", "(III)I"⟩, 12), (⟨"ZoneCapacity$Auction", "partToInner", "(III)I"⟩, 12), (⟨"java/util/ArrayList", "add", "(Ljava/lang/Object;[Ljava/lang/Object;I)V"⟩, 3), (⟨"java/util/ArrayList", "grow", "()[Ljava/lang/Object;"⟩, 3), (⟨"java/util/ArrayList", "grow", "(I)[Ljava/lang/Object;"⟩, 3), (⟨"java/lang/Throwable", "fillInStackTrace", "(I)Ljava/lang/Throwable;"⟩, 6), (⟨"ZoneCapacityLaw$Market", "leastPrice", "(II)I"⟩, 10)]
theorem lw_r1 : ∀ q ∈ lw_privs_1, lw_okq q := List.forall_mem_cons.mpr ⟨lw_p0, List.forall_mem_cons.mpr ⟨lw_p1, List.forall_mem_cons.mpr ⟨lw_p2, List.forall_mem_cons.mpr ⟨lw_p3, List.forall_mem_cons.mpr ⟨lw_p4, List.forall_mem_cons.mpr ⟨lw_p5, List.forall_mem_cons.mpr ⟨lw_p6, List.forall_mem_cons.mpr ⟨lw_p7, List.forall_mem_cons.mpr ⟨lw_p8, List.forall_mem_cons.mpr ⟨lw_p9, List.forall_mem_cons.mpr ⟨lw_p10, List.forall_mem_cons.mpr ⟨lw_p11, List.forall_mem_cons.mpr ⟨lw_p12, fun _ h => absurd h List.not_mem_nil⟩⟩⟩⟩⟩⟩⟩⟩⟩⟩⟩⟩⟩
def lw_privs : List (MethodName × Nat) := lw_privs_1
def lw_tbl : List Cond := k2_sels lw_privs ++ tables_1
theorem lw_privs_ok : ∀ q ∈ lw_privs, lw_okq q := lw_r1
end
section
-- the claim stands on the law of the rows of rows (one of the library's laws of single instructions): named here, ahead of all
theorem wide_here : True := by
  have _h := @Stand.multianewarray2F
  trivial
-- out of the printed rows
theorem vr_outer (c : ClassId) (N h0 : Nat) : ∀ i : Nat, Jvm.Free.Multi.outerC c N h0 i = arrV c N (fun j => va_rf (if j < i then some (h0 + 1 + j) else none))
  | 0 => by
    show ({ cls := c, slots := Array.replicate N .null, vm := .none } : Cell) = _
    rw [arrV_new]
    refine congrArg (arrV c N) (funext fun j => ?_)
    simp [va_rf]
  | i + 1 => by
    show (Jvm.Free.Multi.outerC c N h0 i).setSlot i (.ref (h0 + 1 + i)) = _
    rw [vr_outer c N h0 i, arrV_store]
    refine congrArg (arrV c N) (funext fun j => ?_)
    by_cases e : j = i
    · subst e
      simp [updV, va_rf]
    · by_cases h : j < i
      · simp [updV, e, h, Nat.lt_succ_of_lt h]
      · simp [updV, e, h, show ¬ j < i + 1 by omega]
end
section
def RX0 : String := "ZoneCapacity$Auction"
def TX0 : u_T := fun k => match k with
  | 0 => ("ZoneCapacity$Auction", "market", "LZoneCapacity$Market;", true)
  | 1 => ("ZoneCapacity$Auction", "prices", "[I", true)
  | 2 => ("ZoneCapacity$Auction", "nets", "[I", true)
  | 3 => ("ZoneCapacity$Auction", "servedUnits", "[I", true)
  | 4 => ("ZoneCapacity$Auction", "takenUnits", "[I", true)
  | 5 => ("ZoneCapacity$Auction", "units", "[I", true)
  | 6 => ("ZoneCapacity$Auction", "its", "[I", true)
  | 7 => ("ZoneCapacity$Auction", "levels", "[I", true)
  | 8 => ("ZoneCapacity$Auction", "lows", "[I", true)
  | 9 => ("ZoneCapacity$Auction", "highs", "[I", true)
  | 10 => ("ZoneCapacity$Auction", "filledAt", "I", false)
  | _ => ("ZoneCapacity$Auction", "top", "I", false)
def tyX0 : Nat → FieldType := fun k => match k with
  | 0 => .object "ZoneCapacity$Market"
  | 1 => .array .int
  | 2 => .array .int
  | 3 => .array .int
  | 4 => .array .int
  | 5 => .array .int
  | 6 => .array .int
  | 7 => .array .int
  | 8 => .array .int
  | 9 => .array .int
  | 10 => .int
  | _ => .int
theorem nmX0 : ∀ a, a < 12 → ∀ b, b < 12 → a ≠ b → (TX0 a).2.1 ≠ (TX0 b).2.1 := by decide +kernel
theorem tyX0_ok : ∀ k, k < 12 → parseFieldDescriptor (TX0 k).2.2.1 = some (tyX0 k) := by decide +kernel
abbrev cX0_init : ByteArray := prog_2_method_1_code
def yX0_init : MethodName := ⟨RX0, "<init>", "()V"⟩
abbrev cX0_clear : ByteArray := prog_2_method_2_code
def yX0_clear : MethodName := ⟨RX0, "clear", "()V"⟩
abbrev cX0_levelOf : ByteArray := prog_2_method_3_code
def yX0_levelOf : MethodName := ⟨RX0, "levelOf", "(II)I"⟩
abbrev cX0_readLines : ByteArray := prog_2_method_4_code
def yX0_readLines : MethodName := ⟨RX0, "readLines", "()V"⟩
abbrev cX0_readTop : ByteArray := prog_2_method_5_code
def yX0_readTop : MethodName := ⟨RX0, "readTop", "()V"⟩
abbrev cX0_fillLevels : ByteArray := prog_2_method_6_code
def yX0_fillLevels : MethodName := ⟨RX0, "fillLevels", "(II[I)V"⟩
abbrev cX0_unitsBelow : ByteArray := prog_2_method_7_code
def yX0_unitsBelow : MethodName := ⟨RX0, "unitsBelow", "(II)I"⟩
abbrev cX0_leastPrice : ByteArray := prog_2_method_8_code
def yX0_leastPrice : MethodName := ⟨RX0, "leastPrice", "(II)I"⟩
abbrev cX0_part : ByteArray := prog_2_method_9_code
def yX0_part : MethodName := ⟨RX0, "part", "(I)V"⟩
abbrev cX0_partToLines : ByteArray := prog_2_method_10_code
def yX0_partToLines : MethodName := ⟨RX0, "partToLines", "(III)I"⟩
abbrev cX0_partToInner : ByteArray := prog_2_method_11_code
def yX0_partToInner : MethodName := ⟨RX0, "partToInner", "(III)I"⟩
abbrev cX0_takenOf : ByteArray := prog_2_method_12_code
def yX0_takenOf : MethodName := ⟨RX0, "takenOf", "(I)I"⟩
abbrev cX0_boundOf : ByteArray := prog_2_method_13_code
def yX0_boundOf : MethodName := ⟨RX0, "boundOf", "(I)I"⟩
abbrev cX0_surplusOfAll : ByteArray := prog_2_method_14_code
def yX0_surplusOfAll : MethodName := ⟨RX0, "surplusOfAll", "()J"⟩
abbrev cX0_rentOf : ByteArray := prog_2_method_15_code
def yX0_rentOf : MethodName := ⟨RX0, "rentOf", "(I)J"⟩
abbrev cX0_paidTo : ByteArray := prog_2_method_16_code
def yX0_paidTo : MethodName := ⟨RX0, "paidTo", "(I)J"⟩
abbrev cX0_paidToOwner : ByteArray := prog_2_method_17_code
def yX0_paidToOwner : MethodName := ⟨RX0, "paidToOwner", "(I)J"⟩
def RX1 : String := "ZoneCapacity$Market"
def TX1 : u_T := fun k => match k with
  | 0 => ("ZoneCapacity$Market", "zones", "LZoneCapacity$Zones;", true)
  | _ => ("ZoneCapacity$Market", "offers", "LZoneCapacity$Offers;", true)
def tyX1 : Nat → FieldType := fun k => match k with
  | 0 => .object "ZoneCapacity$Zones"
  | _ => .object "ZoneCapacity$Offers"
theorem nmX1 : ∀ a, a < 2 → ∀ b, b < 2 → a ≠ b → (TX1 a).2.1 ≠ (TX1 b).2.1 := by decide +kernel
theorem tyX1_ok : ∀ k, k < 2 → parseFieldDescriptor (TX1 k).2.2.1 = some (tyX1 k) := by decide +kernel
abbrev cX1_init : ByteArray := prog_3_method_1_code
def yX1_init : MethodName := ⟨RX1, "<init>", "()V"⟩
def RX2 : String := "ZoneCapacity$Offers"
def TX2 : u_T := fun k => match k with
  | 0 => ("ZoneCapacity$Offers", "many", "I", false)
  | 1 => ("ZoneCapacity$Offers", "ceiling", "I", false)
  | 2 => ("ZoneCapacity$Offers", "floors", "[I", true)
  | 3 => ("ZoneCapacity$Offers", "zones", "[I", true)
  | 4 => ("ZoneCapacity$Offers", "sizes", "[I", true)
  | 5 => ("ZoneCapacity$Offers", "kinds", "[I", true)
  | 6 => ("ZoneCapacity$Offers", "owners", "[I", true)
  | 7 => ("ZoneCapacity$Offers", "must", "[I", true)
  | 8 => ("ZoneCapacity$Offers", "free", "[I", true)
  | 9 => ("ZoneCapacity$Offers", "steps", "[I", true)
  | 10 => ("ZoneCapacity$Offers", "stepUnits", "[I", true)
  | _ => ("ZoneCapacity$Offers", "stepPrices", "[I", true)
def tyX2 : Nat → FieldType := fun k => match k with
  | 0 => .int
  | 1 => .int
  | 2 => .array .int
  | 3 => .array .int
  | 4 => .array .int
  | 5 => .array .int
  | 6 => .array .int
  | 7 => .array .int
  | 8 => .array .int
  | 9 => .array .int
  | 10 => .array .int
  | _ => .array .int
theorem nmX2 : ∀ a, a < 12 → ∀ b, b < 12 → a ≠ b → (TX2 a).2.1 ≠ (TX2 b).2.1 := by decide +kernel
theorem tyX2_ok : ∀ k, k < 12 → parseFieldDescriptor (TX2 k).2.2.1 = some (tyX2 k) := by decide +kernel
abbrev cX2_init : ByteArray := prog_4_method_1_code
def yX2_init : MethodName := ⟨RX2, "<init>", "()V"⟩
abbrev cX2_has : ByteArray := prog_4_method_3_code
def yX2_has : MethodName := ⟨RX2, "has", "(I)Z"⟩
abbrev cX2_add : ByteArray := prog_4_method_4_code
def yX2_add : MethodName := ⟨RX2, "add", "(IIIIZZ)I"⟩
abbrev cX2_addStep : ByteArray := prog_4_method_5_code
def yX2_addStep : MethodName := ⟨RX2, "addStep", "(III)I"⟩
abbrev cX2_dropSteps : ByteArray := prog_4_method_6_code
def yX2_dropSteps : MethodName := ⟨RX2, "dropSteps", "(I)I"⟩
abbrev cX2_lastPrice : ByteArray := prog_4_method_7_code
def yX2_lastPrice : MethodName := ⟨RX2, "lastPrice", "(I)I"⟩
abbrev cX2_rest : ByteArray := prog_4_method_8_code
def yX2_rest : MethodName := ⟨RX2, "rest", "(I)I"⟩
abbrev cX2_changeCeiling : ByteArray := prog_4_method_9_code
def yX2_changeCeiling : MethodName := ⟨RX2, "changeCeiling", "(I)Z"⟩
abbrev cX2_hasLine : ByteArray := prog_4_method_14_code
def yX2_hasLine : MethodName := ⟨RX2, "hasLine", "(II)Z"⟩
abbrev cX2_unitsOf : ByteArray := prog_4_method_15_code
def yX2_unitsOf : MethodName := ⟨RX2, "unitsOf", "(II)I"⟩
abbrev cX2_itsOf : ByteArray := prog_4_method_16_code
def yX2_itsOf : MethodName := ⟨RX2, "itsOf", "(II)I"⟩
def RX3 : String := "ZoneCapacity$Tape"
def TX3 : u_T := fun k => match k with
  | 0 => ("ZoneCapacity$Tape", "bytes", "[I", true)
  | _ => ("ZoneCapacity$Tape", "length", "I", false)
def tyX3 : Nat → FieldType := fun k => match k with
  | 0 => .array .int
  | _ => .int
theorem nmX3 : ∀ a, a < 2 → ∀ b, b < 2 → a ≠ b → (TX3 a).2.1 ≠ (TX3 b).2.1 := by decide +kernel
theorem tyX3_ok : ∀ k, k < 2 → parseFieldDescriptor (TX3 k).2.2.1 = some (tyX3 k) := by decide +kernel
abbrev cX3_init : ByteArray := prog_5_method_1_code
def yX3_init : MethodName := ⟨RX3, "<init>", "()V"⟩
def RX4 : String := "ZoneCapacity$Teller"
def TX4 : u_T := fun k => match k with
  | 0 => ("ZoneCapacity$Teller", "tape", "LZoneCapacity$Tape;", true)
  | 1 => ("ZoneCapacity$Teller", "draft", "LZoneCapacity$Market;", true)
  | 2 => ("ZoneCapacity$Teller", "fault", "I", false)
  | 3 => ("ZoneCapacity$Teller", "token", "I", false)
  | 4 => ("ZoneCapacity$Teller", "place", "I", false)
  | 5 => ("ZoneCapacity$Teller", "number", "I", false)
  | 6 => ("ZoneCapacity$Teller", "next", "I", false)
  | _ => ("ZoneCapacity$Teller", "got", "I", false)
def tyX4 : Nat → FieldType := fun k => match k with
  | 0 => .object "ZoneCapacity$Tape"
  | 1 => .object "ZoneCapacity$Market"
  | 2 => .int
  | 3 => .int
  | 4 => .int
  | 5 => .int
  | 6 => .int
  | _ => .int
theorem nmX4 : ∀ a, a < 8 → ∀ b, b < 8 → a ≠ b → (TX4 a).2.1 ≠ (TX4 b).2.1 := by decide +kernel
theorem tyX4_ok : ∀ k, k < 8 → parseFieldDescriptor (TX4 k).2.2.1 = some (tyX4 k) := by decide +kernel
abbrev cX4_init : ByteArray := prog_6_method_1_code
def yX4_init : MethodName := ⟨RX4, "<init>", "()V"⟩
def RX5 : String := "ZoneCapacity$Zones"
def TX5 : u_T := fun k => match k with
  | 0 => ("ZoneCapacity$Zones", "many", "I", false)
  | 1 => ("ZoneCapacity$Zones", "outer", "[I", true)
  | 2 => ("ZoneCapacity$Zones", "in", "[I", true)
  | 3 => ("ZoneCapacity$Zones", "out", "[I", true)
  | 4 => ("ZoneCapacity$Zones", "points", "[I", true)
  | 5 => ("ZoneCapacity$Zones", "pointUnits", "[I", true)
  | _ => ("ZoneCapacity$Zones", "pointPrices", "[I", true)
def tyX5 : Nat → FieldType := fun k => match k with
  | 0 => .int
  | 1 => .array .int
  | 2 => .array .int
  | 3 => .array .int
  | 4 => .array .int
  | 5 => .array .int
  | _ => .array .int
theorem nmX5 : ∀ a, a < 7 → ∀ b, b < 7 → a ≠ b → (TX5 a).2.1 ≠ (TX5 b).2.1 := by decide +kernel
theorem tyX5_ok : ∀ k, k < 7 → parseFieldDescriptor (TX5 k).2.2.1 = some (tyX5 k) := by decide +kernel
abbrev cX5_init : ByteArray := prog_7_method_1_code
def yX5_init : MethodName := ⟨RX5, "<init>", "()V"⟩
abbrev cX5_has : ByteArray := prog_7_method_3_code
def yX5_has : MethodName := ⟨RX5, "has", "(I)Z"⟩
abbrev cX5_hasInner : ByteArray := prog_7_method_4_code
def yX5_hasInner : MethodName := ⟨RX5, "hasInner", "(I)Z"⟩
abbrev cX5_add : ByteArray := prog_7_method_5_code
def yX5_add : MethodName := ⟨RX5, "add", "(III)I"⟩
abbrev cX5_addPoint : ByteArray := prog_7_method_6_code
def yX5_addPoint : MethodName := ⟨RX5, "addPoint", "(III)I"⟩
abbrev cX5_dropPoints : ByteArray := prog_7_method_7_code
def yX5_dropPoints : MethodName := ⟨RX5, "dropPoints", "(I)I"⟩
abbrev cX5_wanted : ByteArray := prog_7_method_8_code
def yX5_wanted : MethodName := ⟨RX5, "wanted", "(I)I"⟩
abbrev cX5_firstPrice : ByteArray := prog_7_method_9_code
def yX5_firstPrice : MethodName := ⟨RX5, "firstPrice", "(I)I"⟩
abbrev cX5_lastPrice : ByteArray := prog_7_method_10_code
def yX5_lastPrice : MethodName := ⟨RX5, "lastPrice", "(I)I"⟩
abbrev cX5_worthOf : ByteArray := prog_7_method_11_code
def yX5_worthOf : MethodName := ⟨RX5, "worthOf", "(II)I"⟩
abbrev cX5_fallen : ByteArray := prog_7_method_12_code
def yX5_fallen : MethodName := ⟨RX5, "fallen", "(III)I"⟩
abbrev cX5_worthOfFirst : ByteArray := prog_7_method_13_code
def yX5_worthOfFirst : MethodName := ⟨RX5, "worthOfFirst", "(II)J"⟩
abbrev cX5_wantedFrom : ByteArray := prog_7_method_14_code
def yX5_wantedFrom : MethodName := ⟨RX5, "wantedFrom", "(II)I"⟩
abbrev cX5_wantedBetween : ByteArray := prog_7_method_15_code
def yX5_wantedBetween : MethodName := ⟨RX5, "wantedBetween", "(IIII)I"⟩
abbrev cX5_cut : ByteArray := prog_7_method_16_code
def yX5_cut : MethodName := ⟨RX5, "cut", "(II)I"⟩
def RX6 : String := "ZoneCapacity"
def TX6 : u_T := fun k => match k with
  | 0 => ("ZoneCapacity", "now", "LZoneCapacity$Auction;", true)
  | 1 => ("ZoneCapacity", "trial", "LZoneCapacity$Auction;", true)
  | 2 => ("ZoneCapacity", "teller", "LZoneCapacity$Teller;", true)
  | 3 => ("ZoneCapacity", "firstKept", "LZoneCapacity$Market;", true)
  | 4 => ("ZoneCapacity", "secondKept", "LZoneCapacity$Market;", true)
  | 5 => ("ZoneCapacity", "firstIsKept", "Z", false)
  | _ => ("ZoneCapacity", "secondIsKept", "Z", false)
def tyX6 : Nat → FieldType := fun k => match k with
  | 0 => .object "ZoneCapacity$Auction"
  | 1 => .object "ZoneCapacity$Auction"
  | 2 => .object "ZoneCapacity$Teller"
  | 3 => .object "ZoneCapacity$Market"
  | 4 => .object "ZoneCapacity$Market"
  | 5 => .boolean
  | _ => .boolean
theorem nmX6 : ∀ a, a < 7 → ∀ b, b < 7 → a ≠ b → (TX6 a).2.1 ≠ (TX6 b).2.1 := by decide +kernel
theorem tyX6_ok : ∀ k, k < 7 → parseFieldDescriptor (TX6 k).2.2.1 = some (tyX6 k) := by decide +kernel
abbrev cX6_init : ByteArray := prog_1_method_1_code
def yX6_init : MethodName := ⟨RX6, "<init>", "()V"⟩
abbrev cX6_zone : ByteArray := prog_1_method_6_code
def yX6_zone : MethodName := ⟨RX6, "zone", "(III)I"⟩
abbrev cX6_point : ByteArray := prog_1_method_7_code
def yX6_point : MethodName := ⟨RX6, "point", "(III)I"⟩
abbrev cX6_resource : ByteArray := prog_1_method_8_code
def yX6_resource : MethodName := ⟨RX6, "resource", "(IIIIZ)I"⟩
abbrev cX6_step : ByteArray := prog_1_method_9_code
def yX6_step : MethodName := ⟨RX6, "step", "(III)I"⟩
abbrev cX6_drop : ByteArray := prog_1_method_10_code
def yX6_drop : MethodName := ⟨RX6, "drop", "(IZ)I"⟩
abbrev cX6_set : ByteArray := prog_1_method_11_code
def yX6_set : MethodName := ⟨RX6, "set", "(III)Z"⟩
abbrev cX6_line : ByteArray := prog_1_method_17_code
def yX6_line : MethodName := ⟨RX6, "line", "(IIZ)I"⟩
abbrev cX6_worth : ByteArray := prog_1_method_18_code
def yX6_worth : MethodName := ⟨RX6, "worth", "(II)I"⟩
abbrev cX6_wants : ByteArray := prog_1_method_19_code
def yX6_wants : MethodName := ⟨RX6, "wants", "(II)I"⟩
abbrev cX6_level : ByteArray := prog_1_method_20_code
def yX6_level : MethodName := ⟨RX6, "level", "(IIZ)I"⟩
abbrev cX6_price : ByteArray := prog_1_method_21_code
def yX6_price : MethodName := ⟨RX6, "price", "(I)I"⟩
abbrev cX6_net : ByteArray := prog_1_method_22_code
def yX6_net : MethodName := ⟨RX6, "net", "(I)I"⟩
abbrev cX6_served : ByteArray := prog_1_method_23_code
def yX6_served : MethodName := ⟨RX6, "served", "(I)I"⟩
abbrev cX6_taken : ByteArray := prog_1_method_24_code
def yX6_taken : MethodName := ⟨RX6, "taken", "(II)I"⟩
abbrev cX6_binds : ByteArray := prog_1_method_25_code
def yX6_binds : MethodName := ⟨RX6, "binds", "(I)I"⟩
abbrev cX6_surplus : ByteArray := prog_1_method_26_code
def yX6_surplus : MethodName := ⟨RX6, "surplus", "()J"⟩
abbrev cX6_rent : ByteArray := prog_1_method_27_code
def yX6_rent : MethodName := ⟨RX6, "rent", "(I)J"⟩
abbrev cX6_paid : ByteArray := prog_1_method_28_code
def yX6_paid : MethodName := ⟨RX6, "paid", "(I)J"⟩
abbrev cX6_charged : ByteArray := prog_1_method_29_code
def yX6_charged : MethodName := ⟨RX6, "charged", "(I)J"⟩
abbrev cX6_at : ByteArray := prog_1_method_39_code
def yX6_at : MethodName := ⟨RX6, "at", "([II)I"⟩
abbrev cX6_put : ByteArray := prog_1_method_40_code
def yX6_put : MethodName := ⟨RX6, "put", "([III)V"⟩
abbrev cX6_change : ByteArray := prog_1_method_41_code
def yX6_change : MethodName := ⟨RX6, "change", "([III)Z"⟩
abbrev cX6_within : ByteArray := prog_1_method_43_code
def yX6_within : MethodName := ⟨RX6, "within", "(III)Z"⟩
def RX7 : String := "ZoneCapacityLaw$Draws"
def TX7 : u_T := fun k => match k with
  | _ => ("ZoneCapacityLaw$Draws", "x", "I", false)
def tyX7 : Nat → FieldType := fun k => match k with
  | _ => .int
theorem nmX7 : ∀ a, a < 1 → ∀ b, b < 1 → a ≠ b → (TX7 a).2.1 ≠ (TX7 b).2.1 := by decide +kernel
theorem tyX7_ok : ∀ k, k < 1 → parseFieldDescriptor (TX7 k).2.2.1 = some (tyX7 k) := by decide +kernel
abbrev cX7_init : ByteArray := prog_9_method_1_code
def yX7_init : MethodName := ⟨RX7, "<init>", "(I)V"⟩
abbrev cX7_next : ByteArray := prog_9_method_2_code
def yX7_next : MethodName := ⟨RX7, "next", "(I)I"⟩
def RX8 : String := "ZoneCapacityLaw$Market"
def TX8 : u_T := fun k => match k with
  | 0 => ("ZoneCapacityLaw$Market", "zones", "Ljava/util/ArrayList;", true)
  | 1 => ("ZoneCapacityLaw$Market", "curves", "Ljava/util/ArrayList;", true)
  | 2 => ("ZoneCapacityLaw$Market", "resources", "Ljava/util/ArrayList;", true)
  | 3 => ("ZoneCapacityLaw$Market", "steps", "Ljava/util/ArrayList;", true)
  | 4 => ("ZoneCapacityLaw$Market", "floors", "[I", true)
  | 5 => ("ZoneCapacityLaw$Market", "ceiling", "I", false)
  | 6 => ("ZoneCapacityLaw$Market", "prices", "[I", false)
  | 7 => ("ZoneCapacityLaw$Market", "nets", "[I", false)
  | 8 => ("ZoneCapacityLaw$Market", "served", "[I", false)
  | _ => ("ZoneCapacityLaw$Market", "taken", "[[I", false)
def tyX8 : Nat → FieldType := fun k => match k with
  | 0 => .object "java/util/ArrayList"
  | 1 => .object "java/util/ArrayList"
  | 2 => .object "java/util/ArrayList"
  | 3 => .object "java/util/ArrayList"
  | 4 => .array .int
  | 5 => .int
  | 6 => .array .int
  | 7 => .array .int
  | 8 => .array .int
  | _ => .array (.array .int)
theorem nmX8 : ∀ a, a < 10 → ∀ b, b < 10 → a ≠ b → (TX8 a).2.1 ≠ (TX8 b).2.1 := by decide +kernel
theorem tyX8_ok : ∀ k, k < 10 → parseFieldDescriptor (TX8 k).2.2.1 = some (tyX8 k) := by decide +kernel
abbrev cX8_init : ByteArray := prog_10_method_1_code
def yX8_init : MethodName := ⟨RX8, "<init>", "()V"⟩
abbrev cX8_worths : ByteArray := prog_10_method_3_code
def yX8_worths : MethodName := ⟨RX8, "worths", "(I)[I"⟩
abbrev cX8_wants : ByteArray := prog_10_method_4_code
def yX8_wants : MethodName := ⟨RX8, "wants", "(II)I"⟩
abbrev cX8_line : ByteArray := prog_10_method_5_code
def yX8_line : MethodName := ⟨RX8, "line", "(II)[I"⟩
abbrev cX8_cut : ByteArray := prog_10_method_6_code
def yX8_cut : MethodName := ⟨RX8, "cut", "(II)I"⟩
abbrev cX8_level : ByteArray := prog_10_method_7_code
def yX8_level : MethodName := ⟨RX8, "level", "(IIZ)I"⟩
abbrev cX8_leastPrice : ByteArray := prog_10_method_8_code
def yX8_leastPrice : MethodName := ⟨RX8, "leastPrice", "(II)I"⟩
abbrev cX8_clear : ByteArray := prog_10_method_9_code
def yX8_clear : MethodName := ⟨RX8, "clear", "()LZoneCapacityLaw$Market;"⟩
abbrev cX8_taken : ByteArray := prog_10_method_10_code
def yX8_taken : MethodName := ⟨RX8, "taken", "(I)I"⟩
abbrev cX8_surplus : ByteArray := prog_10_method_11_code
def yX8_surplus : MethodName := ⟨RX8, "surplus", "()J"⟩
def RX9 : String := "ZoneCapacityModel"
def TX9 : u_T := fun k => match k with
  | _ => ("", "", "", false)
def tyX9 : Nat → FieldType := fun k => match k with
  | _ => .int
theorem nmX9 : ∀ a, a < 0 → ∀ b, b < 0 → a ≠ b → (TX9 a).2.1 ≠ (TX9 b).2.1 := by decide +kernel
theorem tyX9_ok : ∀ k, k < 0 → parseFieldDescriptor (TX9 k).2.2.1 = some (tyX9 k) := by decide +kernel
def RJxa1e45 : String := "java/util/AbstractCollection"
def TJxa1e45 : u_T := fun k => match k with
  | _ => ("", "", "", false)
def tyJxa1e45 : Nat → FieldType := fun k => match k with
  | _ => .int
theorem nmJxa1e45 : ∀ a, a < 0 → ∀ b, b < 0 → a ≠ b → (TJxa1e45 a).2.1 ≠ (TJxa1e45 b).2.1 := by decide +kernel
theorem tyJxa1e45_ok : ∀ k, k < 0 → parseFieldDescriptor (TJxa1e45 k).2.2.1 = some (tyJxa1e45 k) := by decide +kernel
abbrev cJxa1e45_init_da8c8 : ByteArray := prog_31_method_1_code
def yJxa1e45_init_da8c8 : MethodName := ⟨RJxa1e45, "<init>", "()V"⟩
def RJxc12de : String := "java/util/AbstractList"
def TJxc12de : u_T := fun k => match k with
  | _ => ("", "", "", false)
def tyJxc12de : Nat → FieldType := fun k => match k with
  | _ => .int
theorem nmJxc12de : ∀ a, a < 0 → ∀ b, b < 0 → a ≠ b → (TJxc12de a).2.1 ≠ (TJxc12de b).2.1 := by decide +kernel
theorem tyJxc12de_ok : ∀ k, k < 0 → parseFieldDescriptor (TJxc12de k).2.2.1 = some (tyJxc12de k) := by decide +kernel
abbrev cJxc12de_init_da8c8 : ByteArray := prog_32_method_1_code
def yJxc12de_init_da8c8 : MethodName := ⟨RJxc12de, "<init>", "()V"⟩
def RJx35411 : String := "java/util/ArrayList$Itr"
def TJx35411 : u_T := fun k => match k with
  | 0 => ("java/util/ArrayList$Itr", "cursor", "I", false)
  | 1 => ("java/util/ArrayList$Itr", "lastRet", "I", false)
  | 2 => ("java/util/ArrayList$Itr", "expectedModCount", "I", false)
  | _ => ("java/util/ArrayList$Itr", "this$0", "Ljava/util/ArrayList;", true)
def tyJx35411 : Nat → FieldType := fun k => match k with
  | 0 => .int
  | 1 => .int
  | 2 => .int
  | _ => .object "java/util/ArrayList"
theorem nmJx35411 : ∀ a, a < 4 → ∀ b, b < 4 → a ≠ b → (TJx35411 a).2.1 ≠ (TJx35411 b).2.1 := by decide +kernel
theorem tyJx35411_ok : ∀ k, k < 4 → parseFieldDescriptor (TJx35411 k).2.2.1 = some (tyJx35411 k) := by decide +kernel
abbrev cJx35411_init_45d68 : ByteArray := prog_34_method_1_code
def yJx35411_init_45d68 : MethodName := ⟨RJx35411, "<init>", "(Ljava/util/ArrayList;)V"⟩
abbrev cJx35411_hasNext_aae02 : ByteArray := prog_34_method_2_code
def yJx35411_hasNext_aae02 : MethodName := ⟨RJx35411, "hasNext", "()Z"⟩
abbrev cJx35411_next_0502b : ByteArray := prog_34_method_3_code
def yJx35411_next_0502b : MethodName := ⟨RJx35411, "next", "()Ljava/lang/Object;"⟩
abbrev cJx35411_checkForComodification_da8c8 : ByteArray := prog_34_method_6_code
def yJx35411_checkForComodification_da8c8 : MethodName := ⟨RJx35411, "checkForComodification", "()V"⟩
def RJx4a65c : String := "java/util/ArrayList"
def TJx4a65c : u_T := fun k => match k with
  | 0 => ("java/util/AbstractList", "modCount", "I", false)
  | 1 => ("java/util/ArrayList", "elementData", "[Ljava/lang/Object;", false)
  | _ => ("java/util/ArrayList", "size", "I", false)
def tyJx4a65c : Nat → FieldType := fun k => match k with
  | 0 => .int
  | 1 => .array (.object "java/lang/Object")
  | _ => .int
theorem nmJx4a65c : ∀ a, a < 3 → ∀ b, b < 3 → a ≠ b → (TJx4a65c a).2.1 ≠ (TJx4a65c b).2.1 := by decide +kernel
theorem tyJx4a65c_ok : ∀ k, k < 3 → parseFieldDescriptor (TJx4a65c k).2.2.1 = some (tyJx4a65c k) := by decide +kernel
abbrev cJx4a65c_init_da8c8 : ByteArray := prog_33_method_2_code
def yJx4a65c_init_da8c8 : MethodName := ⟨RJx4a65c, "<init>", "()V"⟩
abbrev cJx4a65c_grow_92f84 : ByteArray := prog_33_method_6_code
def yJx4a65c_grow_92f84 : MethodName := ⟨RJx4a65c, "grow", "(I)[Ljava/lang/Object;"⟩
abbrev cJx4a65c_grow_d5877 : ByteArray := prog_33_method_7_code
def yJx4a65c_grow_d5877 : MethodName := ⟨RJx4a65c, "grow", "()[Ljava/lang/Object;"⟩
abbrev cJx4a65c_size_8abf5 : ByteArray := prog_33_method_8_code
def yJx4a65c_size_8abf5 : MethodName := ⟨RJx4a65c, "size", "()I"⟩
abbrev cJx4a65c_isEmpty_aae02 : ByteArray := prog_33_method_9_code
def yJx4a65c_isEmpty_aae02 : MethodName := ⟨RJx4a65c, "isEmpty", "()Z"⟩
abbrev cJx4a65c_elementData_915e3 : ByteArray := prog_33_method_18_code
def yJx4a65c_elementData_915e3 : MethodName := ⟨RJx4a65c, "elementData", "(I)Ljava/lang/Object;"⟩
abbrev cJx4a65c_get_915e3 : ByteArray := prog_33_method_20_code
def yJx4a65c_get_915e3 : MethodName := ⟨RJx4a65c, "get", "(I)Ljava/lang/Object;"⟩
abbrev cJx4a65c_add_72be8 : ByteArray := prog_33_method_24_code
def yJx4a65c_add_72be8 : MethodName := ⟨RJx4a65c, "add", "(Ljava/lang/Object;[Ljava/lang/Object;I)V"⟩
abbrev cJx4a65c_add_9ea2d : ByteArray := prog_33_method_25_code
def yJx4a65c_add_9ea2d : MethodName := ⟨RJx4a65c, "add", "(Ljava/lang/Object;)Z"⟩
abbrev cJx4a65c_clear_da8c8 : ByteArray := prog_33_method_40_code
def yJx4a65c_clear_da8c8 : MethodName := ⟨RJx4a65c, "clear", "()V"⟩
abbrev cJx4a65c_iterator_32c93 : ByteArray := prog_33_method_55_code
def yJx4a65c_iterator_32c93 : MethodName := ⟨RJx4a65c, "iterator", "()Ljava/util/Iterator;"⟩
def RJ15 : String := "java/util/Objects"
def TJ15 : u_T := fun k => match k with
  | _ => ("", "", "", false)
def tyJ15 : Nat → FieldType := fun k => match k with
  | _ => .int
theorem nmJ15 : ∀ a, a < 0 → ∀ b, b < 0 → a ≠ b → (TJ15 a).2.1 ≠ (TJ15 b).2.1 := by decide +kernel
theorem tyJ15_ok : ∀ k, k < 0 → parseFieldDescriptor (TJ15 k).2.2.1 = some (tyJ15 k) := by decide +kernel
abbrev cJ15_checkIndex_7cf53 : ByteArray := prog_40_method_17_code
def yJ15_checkIndex_7cf53 : MethodName := ⟨RJ15, "checkIndex", "(II)I"⟩
def RJ3 : String := "jdk/internal/util/Preconditions"
def TJ3 : u_T := fun k => match k with
  | _ => ("", "", "", false)
def tyJ3 : Nat → FieldType := fun k => match k with
  | _ => .int
theorem nmJ3 : ∀ a, a < 0 → ∀ b, b < 0 → a ≠ b → (TJ3 a).2.1 ≠ (TJ3 b).2.1 := by decide +kernel
theorem tyJ3_ok : ∀ k, k < 0 → parseFieldDescriptor (TJ3 k).2.2.1 = some (tyJ3 k) := by decide +kernel
abbrev cJ3_checkIndex_8e157 : ByteArray := prog_44_method_11_code
def yJ3_checkIndex_8e157 : MethodName := ⟨RJ3, "checkIndex", "(IILjava/util/function/BiFunction;)I"⟩
abbrev cJ3_checkFromToIndex_8c36e : ByteArray := prog_44_method_12_code
def yJ3_checkFromToIndex_8c36e : MethodName := ⟨RJ3, "checkFromToIndex", "(IIILjava/util/function/BiFunction;)I"⟩
abbrev cJ3_checkFromIndexSize_8c36e : ByteArray := prog_44_method_13_code
def yJ3_checkFromIndexSize_8c36e : MethodName := ⟨RJ3, "checkFromIndexSize", "(IIILjava/util/function/BiFunction;)I"⟩
def RL : String := "ZoneCapacityLaw"
abbrev cL_drawn : ByteArray := method_6_code
def yL_drawn : MethodName := ⟨RL, "drawn", "(LZoneCapacity;LZoneCapacityLaw$Draws;Ljava/lang/StringBuilder;)LZoneCapacityLaw$Market;"⟩
abbrev cL_areLevels : ByteArray := method_7_code
def yL_areLevels : MethodName := ⟨RL, "areLevels", "(LZoneCapacity;LZoneCapacityLaw$Market;LZoneCapacityLaw$Draws;)Z"⟩
abbrev cL_isCleared : ByteArray := method_8_code
def yL_isCleared : MethodName := ⟨RL, "isCleared", "(LZoneCapacity;LZoneCapacityLaw$Market;)Z"⟩
abbrev cL_law : ByteArray := code
def yL_law : MethodName := ⟨RL, "law", "([I)Z"⟩

abbrev wslX0 : List Cond := u_ws RX0 TX0 12
abbrev wslX1 : List Cond := u_ws RX1 TX1 2
abbrev wslX2 : List Cond := u_ws RX2 TX2 12
abbrev wslX3 : List Cond := u_ws RX3 TX3 2
abbrev wslX4 : List Cond := u_ws RX4 TX4 8
abbrev wslX5 : List Cond := u_ws RX5 TX5 7
abbrev wslX6 : List Cond := u_ws RX6 TX6 7
abbrev wslX7 : List Cond := u_ws RX7 TX7 1
abbrev wslX8 : List Cond := u_ws RX8 TX8 10
abbrev wslJx4a65c : List Cond := u_ws RJx4a65c TJx4a65c 3
abbrev wslJx35411 : List Cond := u_ws RJx35411 TJx35411 4
def TW : List Cond := lw_tbl.filter goodWord
theorem tw_mem {w : Cond} (h : w ∈ lw_tbl) (g : goodWord w = true) : w ∈ TW := List.mem_filter.mpr ⟨h, g⟩
def tw_chk (ids : List Nat) (ws : List Cond) : Bool := decide (ids.map (fun i => lw_tbl[i]?) = ws.map some) && ws.all goodWord
theorem tw_of {ids : List Nat} {ws : List Cond} (h : tw_chk ids ws = true) : ∀ w ∈ ws, w ∈ TW := by
  intro w hw
  unfold tw_chk at h
  rw [Bool.and_eq_true, decide_eq_true_eq] at h
  refine tw_mem ?_ (List.all_eq_true.mp h.2 w hw)
  have : some w ∈ ws.map some := List.mem_map.mpr ⟨w, hw, rfl⟩
  rw [← h.1] at this
  obtain ⟨i, -, hi⟩ := List.mem_map.mp this
  exact List.mem_of_getElem? hi
theorem tw_good {y : MethodName} {bytes : ByteArray} {maxL : Nat} {ret : Option FieldType} (h : Cond.code y bytes maxL ret ∈ TW) : GoodIn TW (Cond.code y bytes maxL ret :: TW) := by
  intro w hw
  have hw : w ∈ TW := by
    rcases List.mem_cons.mp hw with e | e
    · rw [e]; exact h
    · exact e
  exact ⟨hw, good_of_word (List.mem_filter.mp hw).2⟩
theorem iwX0 : ∀ w ∈ wslX0, w ∈ TW := tw_of (ids := [177, 179, 181, 183, 185, 187, 189, 191, 193, 195, 197, 199]) (by decide +kernel)
theorem iwX1 : ∀ w ∈ wslX1, w ∈ TW := tw_of (ids := [155, 157]) (by decide +kernel)
theorem iwX2 : ∀ w ∈ wslX2, w ∈ TW := tw_of (ids := [124, 126, 128, 130, 132, 134, 136, 138, 140, 142, 144, 146]) (by decide +kernel)
theorem iwX3 : ∀ w ∈ wslX3, w ∈ TW := tw_of (ids := [215, 217]) (by decide +kernel)
theorem iwX4 : ∀ w ∈ wslX4, w ∈ TW := tw_of (ids := [224, 226, 228, 230, 232, 234, 236, 238]) (by decide +kernel)
theorem iwX5 : ∀ w ∈ wslX5, w ∈ TW := tw_of (ids := [83, 85, 87, 89, 91, 93, 95]) (by decide +kernel)
theorem iwX6 : ∀ w ∈ wslX6, w ∈ TW := tw_of (ids := [248, 250, 252, 254, 256, 258, 260]) (by decide +kernel)
theorem iwX7 : ∀ w ∈ wslX7, w ∈ TW := tw_of (ids := [444]) (by decide +kernel)
theorem iwX8 : ∀ w ∈ wslX8, w ∈ TW := tw_of (ids := [562, 564, 566, 568, 570, 572, 574, 576, 578, 580]) (by decide +kernel)
theorem iwJx4a65c : ∀ w ∈ wslJx4a65c, w ∈ TW := tw_of (ids := [484, 480, 482]) (by decide +kernel)
theorem iwJx35411 : ∀ w ∈ wslJx35411, w ∈ TW := tw_of (ids := [873, 875, 877, 879]) (by decide +kernel)
end
section
abbrev Mem : Type := Nat → Nat → Int32
def up2 (mm : Mem) (c i : Nat) (v : Int32) : Mem := fun a j => if a = c ∧ j = i then v else mm a j
def Kl : List Nat := [99, 99, 99, 99, 99, 99, 99, 99, 99, 99, 99, 99, 99, 99, 6, 0, 1, 5, 8, 8, 8, 8, 8, 8, 2, 8, 8, 8, 8, 8, 8, 8, 8, 8, 8, 8, 8, 8, 8, 8, 8, 8, 8, 8, 0, 1, 5, 8, 8, 8, 8, 8, 8, 2, 8, 8, 8, 8, 8, 8, 8, 8, 8, 8, 8, 8, 8, 8, 8, 8, 8, 8, 8, 4, 3, 8, 1, 5, 8, 8, 8, 8, 8, 8, 2, 8, 8, 8, 8, 8, 8, 8, 8, 8, 8, 1, 5, 8, 8, 8, 8, 8, 8, 2, 8, 8, 8, 8, 8, 8, 8, 8, 8, 8, 1, 5, 8, 8, 8, 8, 8, 8, 2, 8, 8, 8, 8, 8, 8, 8, 8, 8, 8]
def Ll : List Nat := [0, 0, 0, 0, 0, 0, 0, 0, 0, 0, 0, 0, 0, 0, 0, 0, 0, 0, 6, 6, 6, 6, 24, 24, 0, 4, 12, 12, 12, 12, 12, 12, 12, 36, 36, 6, 6, 6, 48, 48, 48, 6, 6, 6, 0, 0, 0, 6, 6, 6, 6, 24, 24, 0, 4, 12, 12, 12, 12, 12, 12, 12, 36, 36, 6, 6, 6, 48, 48, 48, 6, 6, 6, 0, 0, 500, 0, 0, 6, 6, 6, 6, 24, 24, 0, 4, 12, 12, 12, 12, 12, 12, 12, 36, 36, 0, 0, 6, 6, 6, 6, 24, 24, 0, 4, 12, 12, 12, 12, 12, 12, 12, 36, 36, 0, 0, 6, 6, 6, 6, 24, 24, 0, 4, 12, 12, 12, 12, 12, 12, 12, 36, 36]
def kd (c : Nat) : Nat := Kl.getD c 99
def ln (c : Nat) : Nat := Ll.getD c 0
def nfl (ci : Nat) : Nat := match ci with | 0 => 12 | 1 => 2 | 2 => 12 | 3 => 2 | 4 => 8 | 5 => 7 | 6 => 7 | 7 => 1 | 8 => 10 | 9 => 3 | 10 => 4 | _ => 0
def rfk (ci k c : Nat) : Option Nat := match ci, k with | 0, 0 => some (c + 1) | 0, 1 => some (c + 20) | 0, 2 => some (c + 21) | 0, 3 => some (c + 22) | 0, 4 => some (c + 23) | 0, 5 => some (c + 24) | 0, 6 => some (c + 25) | 0, 7 => some (c + 26) | 0, 8 => some (c + 27) | 0, 9 => some (c + 28) | 1, 0 => some (c + 1) | 1, 1 => some (c + 8) | 2, 2 => some (c + 1) | 2, 3 => some (c + 2) | 2, 4 => some (c + 3) | 2, 5 => some (c + 4) | 2, 6 => some (c + 5) | 2, 7 => some (c + 6) | 2, 8 => some (c + 7) | 2, 9 => some (c + 8) | 2, 10 => some (c + 9) | 2, 11 => some (c + 10) | 3, 0 => some (75) | 4, 0 => some (74) | 4, 1 => some (76) | 5, 1 => some (c + 1) | 5, 2 => some (c + 2) | 5, 3 => some (c + 3) | 5, 4 => some (c + 4) | 5, 5 => some (c + 5) | 5, 6 => some (c + 6) | 6, 0 => some (15) | 6, 1 => some (44) | 6, 2 => some (73) | 6, 3 => some (95) | 6, 4 => some (114) | _, _ => none
abbrev zcls : List vw_C := [(RX0, TX0, 12), (RX1, TX1, 2), (RX2, TX2, 12), (RX3, TX3, 2), (RX4, TX4, 8), (RX5, TX5, 7), (RX6, TX6, 7), (RX7, TX7, 1), (RX8, TX8, 10), (RJx4a65c, TJx4a65c, 3), (RJx35411, TJx35411, 4)]
def tyA (ci : Nat) : Nat → FieldType := match ci with | 0 => tyX0 | 1 => tyX1 | 2 => tyX2 | 3 => tyX3 | 4 => tyX4 | 5 => tyX5 | 6 => tyX6 | 7 => tyX7 | 8 => tyX8 | 9 => tyJx4a65c | 10 => tyJx35411 | _ => fun _ => .int
/-- addresses of the cells by their ids, classes, the array classes (int, boolean, long), the texts' rows -/
abbrev Cfg : Type := (Nat → Nat) × va_G × ClassId × ClassId × ClassId
abbrev Lv : Type := List (Nat × Value)
abbrev Tb : Type := List (Nat × Instr × Nat × Nat)
abbrev NC : Nat := 133
def cvv (C : Cfg) : Value → Value
  | .ref a => .ref (C.1 a)
  | .null => .null
  | .int x => .int x
  | .long x => .long x
  | .float x => .float x
  | .double x => .double x
  | .retAddr x => .retAddr x
def fvv (C : Cfg) (f : Nat → Int32) (ci c k : Nat) : Value := match rfk ci k c with
  | some q => .ref (C.1 q)
  | none => .int (f k)
def fl (C : Cfg) (f : Nat → Int32) (ci c : Nat) : List Value := (List.range (nfl ci)).map (fvv C f ci c)
def celx (C : Cfg) (c : Nat) (f : Nat → Int32) : va_E :=
  if kd c < 8 then .inr (kd c, fl C f (kd c) c) else .inl (C.2.2.1, ln c, .inl f)
def cel (C : Cfg) (mm : Mem) (c : Nat) : va_E := celx C c (mm c)
def wl (C : Cfg) (mm : Mem) : va_W := (List.range 119).map (fun i => (C.1 (i + 14), cel C mm (i + 14)))
def tys (C : Cfg) : List (ClassId × FieldType) := [(C.2.2.1, .int), (C.2.2.2.1, .object "java/lang/Object"), (C.2.2.2.2, .array .int)]
def zns : List (String × Nat × MethodName × String) := [("ZoneCapacity", 9, ⟨"ZoneCapacity$Auction", "<init>", "()V"⟩, "ZoneCapacity"), ("ZoneCapacity$Auction", 11, ⟨"ZoneCapacity$Market", "<init>", "()V"⟩, "ZoneCapacity"), ("ZoneCapacity$Market", 9, ⟨"ZoneCapacity$Zones", "<init>", "()V"⟩, "ZoneCapacity"), ("ZoneCapacity$Market", 18, ⟨"ZoneCapacity$Offers", "<init>", "()V"⟩, "ZoneCapacity"), ("ZoneCapacity", 21, ⟨"ZoneCapacity$Teller", "<init>", "()V"⟩, "ZoneCapacity"), ("ZoneCapacity$Teller", 11, ⟨"ZoneCapacity$Tape", "<init>", "()V"⟩, "ZoneCapacity"), ("ZoneCapacity$Teller", 20, ⟨"ZoneCapacity$Market", "<init>", "()V"⟩, "ZoneCapacity"), ("ZoneCapacity", 28, ⟨"ZoneCapacity$Market", "<init>", "()V"⟩, "ZoneCapacity"), ("ZoneCapacity$Zones", 46, ⟨"ZoneCapacity", "at", "([II)I"⟩, "ZoneCapacity"), ("ZoneCapacity$Zones", 42, ⟨"ZoneCapacity", "put", "([III)V"⟩, "ZoneCapacity"), ("ZoneCapacity$Offers", 57, ⟨"ZoneCapacity", "at", "([II)I"⟩, "ZoneCapacity"), ("ZoneCapacity$Offers", 53, ⟨"ZoneCapacity", "put", "([III)V"⟩, "ZoneCapacity"), ("ZoneCapacity$Auction", 56, ⟨"ZoneCapacity", "put", "([III)V"⟩, "ZoneCapacity"), ("ZoneCapacity$Auction", 69, ⟨"ZoneCapacity", "at", "([II)I"⟩, "ZoneCapacity"), ("ZoneCapacity$Offers", 69, ⟨"ZoneCapacity", "within", "(III)Z"⟩, "ZoneCapacity")]
def TF : List Cond := lw_tbl.filter (fun w => w.faceAtom && w.onTables)
/-- words of the tables that no reader of steady words carries -/
def Sx (_C : Cfg) (_A : Nat → Prop) (U : State) (_H : Heap) : Prop :=
  (∀ q ∈ zns, va_Nw (.methodLinkNest q.1 q.2.1 q.2.2.1 q.2.2.2) U) ∧ (∀ w ∈ TF, va_Nw w U)
theorem va_Nw.face {w : Cond} {s U : State} (hc : w.faceAtom = true ∧ w.onTables = true) (hW : s.WarmedH U.vm) (hZ : va_Nw w s) : va_Nw w U := va_tabs hc.2 (rfl : (s.setVm U.vm).vm = U.vm) (Cond.faceAtom_setVm hW.alike w hc.1 hZ)
theorem tf_ok {w : Cond} (h : w ∈ TF) : w.faceAtom = true ∧ w.onTables = true := by
  have := (List.mem_filter.mp h).2
  simpa using this
theorem Sx.go {C : Cfg} {A B : Nat → Prop} {s U : State} {H H1 : Heap} (h : Sx C A s H) (hW : s.WarmedH U.vm) : Sx C B U H1 :=
  ⟨fun q m => (h.1 q m).warmM hW, fun w m => (h.2 w m).face (tf_ok m) hW⟩
def Aw (C : Cfg) : Nat → Prop := fun q => ∃ c, 14 ≤ c ∧ c < 133 ∧ C.1 c = q
def Wd (C : Cfg) (mm : Mem) (U : State) : Prop := va_P C.2.1 zcls (wl C mm) U.heap ∧ va_K C.2.1 zcls (tys C) U ∧ Sx C (Aw C) U U.heap
def Dj (C : Cfg) : Prop := ∀ i j : Nat, 14 ≤ i → i < 133 → 14 ≤ j → j < 133 → C.1 i = C.1 j → i = j
def Ob (c ci : Nat) : Prop := c < 133 ∧ kd c = ci
theorem ob_lo {c ci : Nat} (h : Ob c ci) (hc : ci < 9) : 14 ≤ c := by
  rcases Nat.lt_or_ge c 14 with h1 | h1
  · exfalso
    have h2 := h.2
    have h3 : ∀ k, k < 14 → kd k = 99 := by decide +kernel
    rw [h3 c h1] at h2
    omega
  · exact h1
abbrev Ev : Type := Program × Launch × Env × Room × State × MethodId × Array Value × List Frame × Method × Code × (State → Prop) × Cfg × Nat × Nat × (Nat → Prop) × Option Value × Mem
def G : Ev → Nat → Nat → Lv → List Value → Mem → Prop
  | (p, l, e, R, s, m, args, below, meth, c, Q, C, kc, ks, A, _, _), nL, pc, lv, st, mm => ∀ (H : Heap) (locs : List Loc) (ls : Array Slot), va_P C.2.1 zcls (wl C mm) H → va_S A s.heap H locs → lv_has ls nL (lv.map (fun q => (q.1, cvv C q.2))) → W p l e R s m args below meth c H locs kc ks Q (F0 m pc ls (st.map (cvv C)))
def Bx : Ev → String → Tb → Nat → Option FieldType → Prop
  | (p, _, _, R, s, m, args, _, meth, c, _, C, kc, ks, A, _, _), own, tb, nL, ret => p.tables.exec = Jvm.exec ∧ (∀ q ∈ tb, decode c.code q.1 = .ok (q.2.1, q.2.2.1) ∧ q.1 + q.2.2.1 = q.2.2.2) ∧ c.maxLocals = nL ∧ s.vm.findClass own = some m.cls ∧ (∀ w ∈ TW, w.before args s = true) ∧ va_K C.2.1 zcls (tys C) s ∧ Dj C ∧ (∀ c, 14 ≤ c → c < 133 → A (C.1 c)) ∧ Sx C A s s.heap ∧ meth.sig.returnType = ret ∧ meth.locks = false ∧ kc ≤ R.cells ∧ ks ≤ R.slots
/-- which end the state is asked for: a method's own -/
def QC (C : Cfg) (A : Nat → Prop) (r : Option Value) (mo : Mem) : Array Value → State → Outcome → State → Prop := fun _ st oc t => oc = .returned (r.map (cvv C)) ∧ Wd C mo t ∧ va_F A st t
def Rt : Ev → Prop
  | (_, _, _, _, s, _, args, below, _, _, Q, C, kc, ks, A, res, mo) => Q = MQ below (QC C A res mo) args s kc ks A
def Rs : Ev → Option Value → Mem → Prop
  | (_, _, _, _, _, _, _, _, _, _, _, _, _, _, _, res, mo), r, mm => res = r ∧ mo = mm
/-- what is known of a method that is called: its code, its number of arguments -/
def MI (y : MethodName) (bytes : ByteArray) (maxL : Nat) (rt : Option FieldType) (n : Nat) : Prop := Cond.code y bytes maxL rt ∈ TW ∧ plainName y.cls = true ∧ (y.cls ≠ "java/lang/invoke/MethodHandle" ∧ y.cls ≠ "java/lang/invoke/VarHandle" ∧ (parseMethodDescriptor y.desc).map (fun d => d.parameters.length) = some n) ∧ Cond.initialized y.cls ∈ TW
/-- launch, configuration and room of the walk -/
def Ec : Ev → Launch → Cfg → Room → Prop
  | (_, l, _, R, _, _, _, _, _, _, _, C, _, _, _, _, _), l', C', R' => l = l' ∧ C = C' ∧ R = R'
section BXS
variable {p : Program} {l : Launch} {e : Env} {R : Room} {s : State} {m : MethodId} {args : Array Value} {below : List Frame} {meth : Method} {c : Code} {Q : State → Prop} {C : Cfg} {kc ks : Nat} {A : Nat → Prop} {res : Option Value} {mo : Mem} {own : String} {tb : Tb} {nL : Nat} {ret : Option FieldType}
variable {pc nx len : Nat} {ins : Instr} {mm : Mem} {H : Heap} {locs : List Loc} {ls : Array Slot} {rest : List Value}
theorem Bx.dec (B : Bx (p, l, e, R, s, m, args, below, meth, c, Q, C, kc, ks, A, res, mo) own tb nL ret) {i : Nat} (h : tb[i]? = some (pc, ins, len, nx)) : decode c.code pc = .ok (ins, len) ∧ pc + len = nx := by
  have h1 : ∀ q ∈ tb, decode c.code q.1 = .ok (q.2.1, q.2.2.1) ∧ q.1 + q.2.2.1 = q.2.2.2 := B.2.1
  exact h1 (pc, ins, len, nx) (List.mem_of_getElem? h)
theorem Bx.hown (B : Bx (p, l, e, R, s, m, args, below, meth, c, Q, C, kc, ks, A, res, mo) own tb nL ret) : s.vm.findClass own = some m.cls := B.2.2.2.1
theorem Bx.tw (B : Bx (p, l, e, R, s, m, args, below, meth, c, Q, C, kc, ks, A, res, mo) own tb nL ret) : ∀ w ∈ TW, w.before args s = true := B.2.2.2.2.1
theorem Bx.K (B : Bx (p, l, e, R, s, m, args, below, meth, c, Q, C, kc, ks, A, res, mo) own tb nL ret) : va_K C.2.1 zcls (tys C) s := B.2.2.2.2.2.1
theorem Bx.dj (B : Bx (p, l, e, R, s, m, args, below, meth, c, Q, C, kc, ks, A, res, mo) own tb nL ret) : Dj C := B.2.2.2.2.2.2.1
theorem Bx.aa (B : Bx (p, l, e, R, s, m, args, below, meth, c, Q, C, kc, ks, A, res, mo) own tb nL ret) : ∀ c, 14 ≤ c → c < 133 → A (C.1 c) := B.2.2.2.2.2.2.2.1
theorem Bx.sx (B : Bx (p, l, e, R, s, m, args, below, meth, c, Q, C, kc, ks, A, res, mo) own tb nL ret) : Sx C A s s.heap := B.2.2.2.2.2.2.2.2.1
theorem Bx.ml (B : Bx (p, l, e, R, s, m, args, below, meth, c, Q, C, kc, ks, A, res, mo) own tb nL ret) : c.maxLocals = nL := B.2.2.1
theorem Bx.rt (B : Bx (p, l, e, R, s, m, args, below, meth, c, Q, C, kc, ks, A, res, mo) own tb nL ret) : meth.sig.returnType = ret := B.2.2.2.2.2.2.2.2.2.1
theorem Bx.lk (B : Bx (p, l, e, R, s, m, args, below, meth, c, Q, C, kc, ks, A, res, mo) own tb nL ret) : meth.locks = false := B.2.2.2.2.2.2.2.2.2.2.1
theorem Bx.rm (B : Bx (p, l, e, R, s, m, args, below, meth, c, Q, C, kc, ks, A, res, mo) own tb nL ret) : kc ≤ R.cells ∧ ks ≤ R.slots := B.2.2.2.2.2.2.2.2.2.2.2
theorem cvv_cat (C : Cfg) (v : Value) : (cvv C v).category = v.category := by cases v <;> rfl
theorem lvm {C : Cfg} {lv : Lv} {j q : Nat} {v : Value} (h : lv[j]? = some (q, v)) : (lv.map (fun q => (q.1, cvv C q.2)))[j]? = some (q, cvv C v) := by
  rw [List.getElem?_map, h]
  rfl
theorem lvs {C : Cfg} {lv lv' : Lv} {js : List Nat} (h : js.filterMap (fun j => lv[j]?) = lv') : lv_pick (lv.map (fun q => (q.1, cvv C q.2))) js = lv'.map (fun q => (q.1, cvv C q.2)) := by
  subst h
  unfold lv_pick
  rw [List.map_filterMap]
  congr 1
  funext j
  rw [List.getElem?_map]
def zs1 (lv : Lv) (i : Nat) (v : Value) : Lv := (i, v) :: lv.filter (fun q => !(q.1 == i) && !(q.1 + 1 == i && q.2.category == 2))
def zs2 (lv : Lv) (i : Nat) (v : Value) : Lv := (i, v) :: lv.filter (fun q => !(q.1 == i) && (!(q.1 == i + 1) && !(q.1 + 1 == i && q.2.category == 2)))
theorem zs1_map (C : Cfg) (lv : Lv) (i : Nat) (v : Value) : (i, cvv C v) :: (lv.map (fun q => (q.1, cvv C q.2))).filter (fun q => !(q.1 == i) && !(q.1 + 1 == i && q.2.category == 2)) = (zs1 lv i v).map (fun q => (q.1, cvv C q.2)) := by
  unfold zs1
  rw [List.map_cons, List.filter_map]
  congr 3
  funext q
  simp only [Function.comp, cvv_cat]
theorem zs2_map (C : Cfg) (lv : Lv) (i : Nat) (v : Value) : (i, cvv C v) :: (lv.map (fun q => (q.1, cvv C q.2))).filter (fun q => !(q.1 == i) && (!(q.1 == i + 1) && !(q.1 + 1 == i && q.2.category == 2))) = (zs2 lv i v).map (fun q => (q.1, cvv C q.2)) := by
  unfold zs2
  rw [List.map_cons, List.filter_map]
  congr 3
  funext q
  simp only [Function.comp, cvv_cat]
theorem i32_nlt {x y : Int32} (h : ¬ x < y) : y ≤ x := Int32.not_lt.mp h
theorem i32_nlt2 {x y : Int32} (h : y ≤ x) : ¬ x < y := Int32.not_lt.mpr h
def inb (i : Int32) (n : Nat) : Bool := !(decide (i < 0) || decide (n ≤ i.toNatClampNeg))
theorem inb_in {i : Int32} {n : Nat} (h : inb i n = true) : vp_in i n := by
  unfold inb at h
  unfold vp_in
  simpa using h
theorem wl_get {C : Cfg} {mm : Mem} {q : Nat} (h0 : 14 ≤ q) (h : q < 133) : (wl C mm)[q - 14]? = some (C.1 q, cel C mm q) := by
  unfold wl
  rw [List.getElem?_map, List.getElem?_range (by omega), show q = (q - 14) + 14 by omega]
  rfl
theorem wl_at {C : Cfg} {mm : Mem} {k : Nat} {x : Nat × va_E} (h : (wl C mm)[k]? = some x) : k < 119 ∧ x = (C.1 (k + 14), cel C mm (k + 14)) := by
  by_cases hq : k < 119
  · refine ⟨hq, ?_⟩
    have := wl_get (C := C) (mm := mm) (q := k + 14) (by omega) (by omega)
    rw [show k + 14 - 14 = k by omega] at this
    rw [this] at h
    exact (Option.some.inj h).symm
  · unfold wl at h
    rw [List.getElem?_map, List.getElem?_eq_none (by rw [List.length_range]; omega)] at h
    cases h
theorem wl_D (B : Bx (p, l, e, R, s, m, args, below, meth, c, Q, C, kc, ks, A, res, mo) own tb nL ret) (mm : Mem) : va_D A (wl C mm) := by
  refine ⟨fun i j x y hx hy hxy => ?_, fun k x hx => ?_⟩
  · obtain ⟨h1, rfl⟩ := wl_at hx
    obtain ⟨h2, rfl⟩ := wl_at hy
    have := B.dj (i + 14) (j + 14) (by omega) (by omega) (by omega) (by omega) hxy
    omega
  · obtain ⟨h1, rfl⟩ := wl_at hx
    exact B.aa (k + 14) (by omega) (by omega)
theorem cel_obj {C : Cfg} {mm : Mem} {q ci : Nat} (h : kd q = ci) (hc : ci < 8) : cel C mm q = .inr (ci, fl C (mm q) ci q) := by
  unfold cel celx
  rw [h, if_pos hc]
theorem wl_arr {C : Cfg} {mm : Mem} {q : Nat} (h : Ob q 8) : (wl C mm)[q - 14]? = some (C.1 q, .inl (C.2.2.1, ln q, .inl (mm q))) := by
  rw [wl_get (ob_lo h (by decide)) h.1]
  unfold cel celx
  rw [h.2]
  rfl
theorem up2_eq (mm : Mem) (q k : Nat) (v : Int32) : up2 mm q k v q = upd (mm q) k v := by
  funext j
  simp [up2, upd]
theorem up2_ne (mm : Mem) {q c : Nat} (k : Nat) (v : Int32) (h : c ≠ q) : up2 mm q k v c = mm c := by
  funext j
  simp [up2, h]
theorem cel_congr {C : Cfg} {mm mm' : Mem} {c : Nat} (h : mm' c = mm c) : cel C mm' c = cel C mm c := congrArg (celx C c) h
theorem wl_upd {C : Cfg} {mm mm' : Mem} {q : Nat} {x : va_E} (h0 : 14 ≤ q) (hq : q < 133) (he : cel C mm' q = x) (ho : ∀ c, c ≠ q → mm' c = mm c) : (wl C mm).set (q - 14) (C.1 q, x) = wl C mm' := by
  apply List.ext_getElem?
  intro j
  by_cases hj : j = q - 14
  · subst hj
    rw [List.getElem?_set_self (by unfold wl; rw [List.length_map, List.length_range]; omega), wl_get h0 hq, he]
  · rw [List.getElem?_set_ne (Ne.symm hj)]
    by_cases hl : j < 119
    · have e1 := wl_get (C := C) (mm := mm) (q := j + 14) (by omega) (by omega)
      have e2 := wl_get (C := C) (mm := mm') (q := j + 14) (by omega) (by omega)
      rw [show j + 14 - 14 = j by omega] at e1 e2
      rw [e1, e2, cel_congr (ho (j + 14) (by omega))]
    · unfold wl
      rw [List.getElem?_map, List.getElem?_map, List.getElem?_eq_none (by rw [List.length_range]; omega), Option.map_none, Option.map_none]
theorem wl_setI {C : Cfg} {mm : Mem} {q : Nat} (h : Ob q 8) (k : Nat) (v : Int32) : (wl C mm).set (q - 14) (C.1 q, .inl (C.2.2.1, ln q, .inl (upd (mm q) k v))) = wl C (up2 mm q k v) := by
  refine wl_upd (ob_lo h (by decide)) h.1 ?_ (fun c hc => up2_ne mm k v hc)
  unfold cel celx
  rw [h.2, up2_eq]
  rfl
theorem fl_len (C : Cfg) (f : Nat → Int32) (ci q : Nat) : (fl C f ci q).length = nfl ci := by
  unfold fl
  rw [List.length_map, List.length_range]
theorem fl_get (C : Cfg) (f : Nat → Int32) {ci q k : Nat} (h : k < nfl ci) : (fl C f ci q)[k]? = some (fvv C f ci q k) := by
  unfold fl
  rw [List.getElem?_map, List.getElem?_range h]
  rfl
theorem wl_setF {C : Cfg} {mm : Mem} {q ci : Nat} (h : Ob q ci) (hc : ci < 8) {k : Nat} (hk : k < nfl ci) (hr : rfk ci k q = none) (v : Int32) : (wl C mm).set (q - 14) (C.1 q, .inr (ci, (fl C (mm q) ci q).set k (.int v))) = wl C (up2 mm q k v) := by
  refine wl_upd (ob_lo h (by omega)) h.1 ?_ (fun c hc => up2_ne mm k v hc)
  rw [cel_obj h.2 hc]
  congr 2
  apply List.ext_getElem?
  intro j
  by_cases hj : j = k
  · subst hj
    rw [List.getElem?_set_self (by rw [fl_len]; exact hk), fl_get _ _ hk]
    unfold fvv
    rw [hr]
    simp [up2]
  · rw [List.getElem?_set_ne (Ne.symm hj)]
    by_cases hl : j < nfl ci
    · rw [fl_get _ _ hl, fl_get _ _ hl]
      unfold fvv
      cases rfk ci j q with
      | some z => rfl
      | none => simp [up2, hj]
    · rw [List.getElem?_eq_none (by rw [fl_len]; omega), List.getElem?_eq_none (by rw [fl_len]; omega)]
def zfl (ci k : Nat) : Option (String × String × String) := if ci < 8 then (match zcls[ci]? with
  | some x => if k < x.2.2 then some ((x.2.1 k).1, (x.2.1 k).2.1, (x.2.1 k).2.2.1) else none
  | none => none) else none
def zfin (ci k : Nat) : Bool := match zcls[ci]? with
  | some x => (x.2.1 k).2.2.2
  | none => true
theorem zcls_lt {ci : Nat} {x : vw_C} (h : zcls[ci]? = some x) : ci < 11 := (List.getElem?_eq_some_iff.mp h).1
theorem zcls_ok {ci : Nat} {x : vw_C} (h : zcls[ci]? = some x) : (∀ w ∈ u_ws x.1 x.2.1 x.2.2, w ∈ TW) ∧ x.2.2 = nfl ci ∧ (∀ k, k < x.2.2 → parseFieldDescriptor (x.2.1 k).2.2.1 = some (tyA ci k)) ∧ (∀ a, a < x.2.2 → ∀ b, b < x.2.2 → a ≠ b → (x.2.1 a).2.1 ≠ (x.2.1 b).2.1) := by
  have hl := zcls_lt h
  match ci, hl, h with
  | 0, _, h => cases h; exact ⟨iwX0, rfl, tyX0_ok, nmX0⟩
  | 1, _, h => cases h; exact ⟨iwX1, rfl, tyX1_ok, nmX1⟩
  | 2, _, h => cases h; exact ⟨iwX2, rfl, tyX2_ok, nmX2⟩
  | 3, _, h => cases h; exact ⟨iwX3, rfl, tyX3_ok, nmX3⟩
  | 4, _, h => cases h; exact ⟨iwX4, rfl, tyX4_ok, nmX4⟩
  | 5, _, h => cases h; exact ⟨iwX5, rfl, tyX5_ok, nmX5⟩
  | 6, _, h => cases h; exact ⟨iwX6, rfl, tyX6_ok, nmX6⟩
  | 7, _, h => cases h; exact ⟨iwX7, rfl, tyX7_ok, nmX7⟩
  | 8, _, h => cases h; exact ⟨iwX8, rfl, tyX8_ok, nmX8⟩
  | 9, _, h => cases h; exact ⟨iwJx4a65c, rfl, tyJx4a65c_ok, nmJx4a65c⟩
  | 10, _, h => cases h; exact ⟨iwJx35411, rfl, tyJx35411_ok, nmJx35411⟩
  | n + 11, hl, _ => omega
theorem zfl_spec {ci k : Nat} {rn nm d : String} (h : zfl ci k = some (rn, nm, d)) : ci < 8 ∧ ∃ x : vw_C, zcls[ci]? = some x ∧ k < x.2.2 ∧ (x.2.1 k).1 = rn ∧ (x.2.1 k).2.1 = nm ∧ (x.2.1 k).2.2.1 = d := by
  unfold zfl at h
  by_cases hc : ci < 8
  · rw [if_pos hc] at h
    refine ⟨hc, ?_⟩
    cases hx : zcls[ci]? with
    | none => rw [hx] at h; cases h
    | some x =>
      rw [hx] at h
      dsimp only at h
      by_cases hk : k < x.2.2
      · rw [if_pos hk] at h
        cases h
        exact ⟨x, rfl, hk, rfl, rfl, rfl⟩
      · rw [if_neg hk] at h
        cases h
  · rw [if_neg hc] at h
    cases h
theorem zgetf (B : Bx (p, l, e, R, s, m, args, below, meth, c, Q, C, kc, ks, A, res, mo) own tb nL ret) (hP : va_P C.2.1 zcls (wl C mm) H) {q ci kf n : Nat} (hq : Ob q ci) (hd : decode c.code pc = .ok (.getfield n, 3)) {rn nm d : String} (hw : Cond.fieldLink own n rn nm d ∈ TW) (hf : zfl ci kf = some (rn, nm, d)) {v : Value} (hv : fvv C (mm q) ci q kf = v) (k : W p l e R s m args below meth c H locs kc ks Q (F0 m (pc + 3) ls (v :: rest))) : W p l e R s m args below meth c H locs kc ks Q (F0 m pc ls (.ref (C.1 q) :: rest)) := by
  obtain ⟨hc8, ⟨Cn, T, N⟩, hx, hk, rfl, rfl, rfl⟩ := zfl_spec hf
  obtain ⟨hws, hN, hty, hnm⟩ := zcls_ok hx
  refine va_get (C := Cn) (T := T) (N := N) (fs := fl C (mm q) ci q) B.1 rfl B.tw hws B.hown B.K hP (q - 14) ?_ hx kf hk (B.tw _ hw) (fun _ h => h) ?_ hd k
  · rw [wl_get (ob_lo hq (Nat.lt_succ_of_lt hc8)) hq.1, cel_obj hq.2 hc8]
  · rw [fl_get _ _ (hN ▸ hk), hv]
theorem zputf (B : Bx (p, l, e, R, s, m, args, below, meth, c, Q, C, kc, ks, A, res, mo) own tb nL ret) (hP : va_P C.2.1 zcls (wl C mm) H) (hS : va_S A s.heap H locs) {q ci kf n : Nat} (hq : Ob q ci) (hr : rfk ci kf q = none) (hd : decode c.code pc = .ok (.putfield n, 3)) {rn nm d : String} (hw : Cond.fieldLink own n rn nm d ∈ TW) (hf : zfl ci kf = some (rn, nm, d)) {ty : FieldType} (hd0 : parseFieldDescriptor d = some ty) (hfin : zfin ci kf = false) {v : Int32} (hv : narrow ty (.int v) = .int v) (hfit : fits ty (.int v) = true)
    (k : ∀ (H1 : Heap) (locs1 : List Loc), va_P C.2.1 zcls (wl C (up2 mm q kf v)) H1 → va_S A s.heap H1 locs1 → W p l e R s m args below meth c H1 locs1 kc ks Q (F0 m (pc + 3) ls rest)) : W p l e R s m args below meth c H locs kc ks Q (F0 m pc ls (.int v :: .ref (C.1 q) :: rest)) := by
  obtain ⟨hc8, ⟨Cn, T, N⟩, hx, hk, rfl, rfl, rfl⟩ := zfl_spec hf
  obtain ⟨hws, hN, hty, hnm⟩ := zcls_ok hx
  have hfin' : (T kf).2.2.2 = false := by unfold zfin at hfin; rw [hx] at hfin; exact hfin
  refine va_put (C := Cn) (T := T) (N := N) (ty := ty) (fs := fl C (mm q) ci q) B.1 rfl B.tw hws (tyA ci) hty hnm B.hown B.K hP (wl_D B mm) hS (q - 14) ?_ hx kf hk (B.tw _ hw) (fun _ h => h) hfin' hd0 hv hfit ?_ hd (fun H1 locs1 hP1 _ hS1 => ?_)
  · rw [wl_get (ob_lo hq (Nat.lt_succ_of_lt hc8)) hq.1, cel_obj hq.2 hc8]
  · rw [fl_len]; exact hN ▸ hk
  · rw [wl_setF hq hc8 (hN ▸ hk) hr v] at hP1
    exact k H1 locs1 hP1 hS1
-- what a method's end asks, out of the state there
theorem Wd_end (B : Bx (p, l, e, R, s, m, args, below, meth, c, Q, C, kc, ks, A, res, mo) own tb nL ret) (hP : va_P C.2.1 zcls (wl C mm) H) (hS : va_S A s.heap H locs) {t : State} (ht : t.heap = H) (hW : s.WarmedH t.vm) : Wd C mm t := by
  refine ⟨by rw [ht]; exact hP, va_K.moved hW.alike B.K, ?_⟩
  rw [ht]
  exact B.sx.go hW
theorem z_iret {E : Ev} {own : String} {tb : Tb} {nL : Nat} {ty : FieldType} {pc nx : Nat} {lv : Lv} {mm : Mem} {v : Int32} (B : Bx E own tb nL (some ty)) (i : Nat) (h : tb[i]? = some (pc, .ireturn, 1, nx)) (hn : narrow ty (.int v) = .int v) (hQ : Rt E) (hr : Rs E (some (.int v)) mm) : G E nL pc lv [.int v] mm := by
  obtain ⟨p, l, e, R, s, m, args, below, meth, c, Q, C, kc, ks, A, res, mo⟩ := E
  obtain ⟨hd, -⟩ := Bx.dec B h
  obtain ⟨rfl, rfl⟩ := hr
  have hQ : Q = MQ below (QC C A _ _) args s kc ks A := hQ
  subst hQ
  intro H locs ls hP hS hl
  exact W.zret (v := v) B.1 rfl B.rt hn (fun t ht hW => ⟨rfl, Wd_end B hP hS ht hW, hS.F ht⟩) hS.2.2 hd B.lk
theorem z_lret {E : Ev} {own : String} {tb : Tb} {nL : Nat} {pc nx : Nat} {lv : Lv} {mm : Mem} {v : Int64} (B : Bx E own tb nL (some .long)) (i : Nat) (h : tb[i]? = some (pc, .lreturn, 1, nx)) (hQ : Rt E) (hr : Rs E (some (.long v)) mm) : G E nL pc lv [.long v] mm := by
  obtain ⟨p, l, e, R, s, m, args, below, meth, c, Q, C, kc, ks, A, res, mo⟩ := E
  obtain ⟨hd, -⟩ := Bx.dec B h
  obtain ⟨rfl, rfl⟩ := hr
  have hQ : Q = MQ below (QC C A _ _) args s kc ks A := hQ
  subst hQ
  intro H locs ls hP hS hl
  exact W.lret (v := v) B.1 rfl B.rt (fun t ht hW => ⟨rfl, Wd_end B hP hS ht hW, hS.F ht⟩) hS.2.2 hd B.lk
theorem z_vret {E : Ev} {own : String} {tb : Tb} {nL : Nat} {pc nx : Nat} {lv : Lv} {mm : Mem} (B : Bx E own tb nL none) (i : Nat) (h : tb[i]? = some (pc, .return_, 1, nx)) (hQ : Rt E) (hr : Rs E none mm) : G E nL pc lv [] mm := by
  obtain ⟨p, l, e, R, s, m, args, below, meth, c, Q, C, kc, ks, A, res, mo⟩ := E
  obtain ⟨hd, -⟩ := Bx.dec B h
  obtain ⟨rfl, rfl⟩ := hr
  have hQ : Q = MQ below (QC C A _ _) args s kc ks A := hQ
  subst hQ
  intro H locs ls hP hS hl
  exact W.vret B.1 rfl B.rt (fun t ht hW => ⟨rfl, Wd_end B hP hS ht hW, hS.F ht⟩) hS.2.2 hd B.lk
/-- a contract: over every world that holds mm the method ends with r, and the world holds mo -/
def Ct (l : Launch) (C : Cfg) (y : MethodName) (bytes : ByteArray) (maxL : Nat) (ret : Option FieldType) (fr lo : Nat) (av : List Value) (mm : Mem) (r : Option Value) (mo : Mem) : Prop :=
  Met l y (Cond.code y bytes maxL ret :: TW) ({ frames := fr, cells := 0, slots := 0, locals := lo }) (va_Pc (av.map (cvv C)) (Wd C mm)) (QC C (Aw C) r mo) 0 0 (Aw C)
/-- a method's body, out of G at its entry -/
theorem Ct.of {l : Launch} {C : Cfg} (hj : Dj C) {y : MethodName} {bytes : ByteArray} {nL fr lo : Nat} {ret : Option FieldType} {av : List Value} {mm mo : Mem} {r : Option Value} {tb : Tb} (hy : plainName y.cls = true) (hcode : Cond.code y bytes nL ret ∈ TW) (htb : ∀ q ∈ tb, decode bytes q.1 = .ok (q.2.1, q.2.2.1) ∧ q.1 + q.2.2.1 = q.2.2.2) (hlen : (lg_sl (av.map (fun v => match v with | .long _ => Value.long 0 | .double _ => .double 0 | _ => .null))).length ≤ nL)
    (body : ∀ E : Ev, Bx E y.cls tb nL ret → Rt E → Rs E r mo → Ec E l C ({ frames := fr, cells := 0, slots := 0, locals := lo } : Room) → G E nL 0 (lv_args 0 av) [] mm) : Ct l C y bytes nL ret fr lo av mm r mo := by
  refine Met.ofW (cc := bytes) (maxL := nL) (ret := ret) hy rfl ?_
  intro p e s m args below meth c s₁ B hml hv
  obtain ⟨rfl, hP, hK, hSx⟩ := hv
  have hts : ∀ w ∈ TW, w.before (av.map (cvv C)).toArray s = true := fun w hw => atoms_spec (ws := Cond.code y bytes nL ret :: TW) B.pre w (List.mem_cons_of_mem _ hw)
  have hB : Bx (p, l, e, ({ frames := fr, cells := 0, slots := 0, locals := lo } : Room), s, m, (av.map (cvv C)).toArray, below, meth, c, MQ below (QC C (Aw C) r mo) (av.map (cvv C)).toArray s 0 0 (Aw C), C, 0, 0, Aw C, r, mo) y.cls tb nL ret :=
    ⟨B.exec, fun q hq => by rw [B.bytes]; exact htb q hq, hml, findClass_of_methodNamed B.named, hts, hK, hj, fun c h0 hc => ⟨c, h0, hc, rfl⟩, hSx, B.returns, B.notSynchronized, Nat.zero_le _, Nat.zero_le _⟩
  have hG := body _ hB rfl ⟨rfl, rfl⟩ ⟨rfl, rfl, rfl⟩
  have hll : ∀ (a : List Value), (lg_sl (a.map (cvv C))).length = (lg_sl (a.map (fun v => match v with | .long _ => Value.long 0 | .double _ => .double 0 | _ => .null))).length := by
    intro a
    induction a with
    | nil => rfl
    | cons v a ih =>
      simp only [lg_sl, List.map_cons, List.flatMap_cons, List.length_append] at ih ⊢
      rw [ih]
      congr 1
      cases v <;> rfl
  have hl := lv_entry (av.map (cvv C)) (n := nL) (by rw [hll]; exact hlen)
  rw [lg_entry_eq]
  generalize (lg_sl (av.map (cvv C)) ++ List.replicate (nL - (lg_sl (av.map (cvv C))).length) Slot.unset).toArray = ls at hl ⊢
  have hmap : ∀ (a : List Value) (i : Nat), lv_args i (a.map (cvv C)) = (lv_args i a).map (fun q => (q.1, cvv C q.2)) := by
    intro a
    induction a with
    | nil => intro i; rfl
    | cons v a ih =>
      intro i
      simp only [List.map_cons, lv_args, cvv_cat, ih]
  rw [hmap] at hl
  exact hG s.heap [] ls hP va_S.rf hl
/-- a call's answer -/
theorem zcall (B : Bx (p, l, e, R, s, m, args, below, meth, c, Q, C, kc, ks, A, res, mo) own tb nL ret) {r : Option Value} {mm' : Mem} {a : Array Value} {st0 st2 : List Value} (hS : va_S A s.heap H locs) (hr : va_Run p l e R s m args below meth c H locs kc ks 0 0 (F0 m pc ls st0) st2 (QC C (Aw C) r mm' a) (Aw C))
    (k : ∀ (H1 : Heap) (locs1 : List Loc), va_P C.2.1 zcls (wl C mm') H1 → va_S A s.heap H1 locs1 → W p l e R s m args below meth c H1 locs1 kc ks Q (F0 m (pc + 3) ls ((r.map (cvv C)).toList ++ st2))) : W p l e R s m args below meth c H locs kc ks Q (F0 m pc ls st0) := by
  intro T hT X
  have hAA : ∀ q, Aw C q → A q := fun q hq => by obtain ⟨c, h0, h1, rfl⟩ := hq; exact B.aa c h0 h1
  obtain ⟨v, st₀, t, T', L, h0, X', hL, e1, e2, ⟨hv, hWd, hz, hk⟩, st⟩ := hr T hT X
  cases hv
  rw [h0] at hz hk
  obtain ⟨t2, a1, b1⟩ := k T'.heap (locs ++ L) (by rw [e1]; exact hWd.1)
    ⟨Nat.le_trans hS.1 (by rw [e1]; exact hz), fun q h1 h2 => by rw [e1, hk q (Nat.lt_of_lt_of_le h1 hS.1) (fun z => h2 (hAA q z))]; exact hS.2.1 q h1 h2, fun q hq => by
      rcases List.mem_append.mp hq with h | h
      · exact hS.2.2 q h
      · exact hAA _ (hL q h)⟩ T' rfl X'
  exact ⟨t2, st t2 a1, b1⟩
theorem Wd_blind {av : List Value} : FrameBlind (va_Pc av (Wd C mm)) := fun a U g mk q =>
  ⟨q.1, q.2.1, va_K.moved (u := U) (U := U.calling g mk a) (Vm.Alike.refl U.vm) q.2.2.1, fun x m => va_Nw.same rfl rfl (q.2.2.2.1 x m), fun w m => va_Nw.same (tf_ok m).2 (u := U) (U := U.calling g mk a) rfl (q.2.2.2.2 w m)⟩
theorem Wd_call (B : Bx (p, l, e, R, s, m, args, below, meth, c, Q, C, kc, ks, A, res, mo) own tb nL ret) (hP : va_P C.2.1 zcls (wl C mm) H) (hS : va_S A s.heap H locs) (av : List Value) : ∀ U : State, U.heap = H → s.WarmedH U.vm → va_Pc (av.map (cvv C)) (Wd C mm) (av.map (cvv C)).toArray U := fun U hU hW => ⟨rfl, Wd_end B hP hS hU hW⟩
end BXS
end
section
theorem z_iadd {E : Ev} {own : String} {tb : Tb} {nL : Nat} {ret : Option FieldType} {pc nx : Nat} {lv : Lv} {st : List Value} {mm : Mem} {x y : Int32} (B : Bx E own tb nL ret) (i : Nat) (h : tb[i]? = some (pc, .iadd, 1, nx)) (k : G E nL nx lv (.int (x + y) :: st) mm) : G E nL pc lv (.int y :: .int x :: st) mm := by
  obtain ⟨p, l, e, R, s, m, args, below, meth, c, Q, C, kc, ks, A, res, mo⟩ := E
  obtain ⟨hd, hn⟩ := Bx.dec B h
  subst hn
  intro H locs ls hP hS hl
  exact lv_iadd B.1 rfl hd (k H locs ls hP hS hl)
theorem z_isub {E : Ev} {own : String} {tb : Tb} {nL : Nat} {ret : Option FieldType} {pc nx : Nat} {lv : Lv} {st : List Value} {mm : Mem} {x y : Int32} (B : Bx E own tb nL ret) (i : Nat) (h : tb[i]? = some (pc, .isub, 1, nx)) (k : G E nL nx lv (.int (x - y) :: st) mm) : G E nL pc lv (.int y :: .int x :: st) mm := by
  obtain ⟨p, l, e, R, s, m, args, below, meth, c, Q, C, kc, ks, A, res, mo⟩ := E
  obtain ⟨hd, hn⟩ := Bx.dec B h
  subst hn
  intro H locs ls hP hS hl
  exact lv_isub B.1 rfl hd (k H locs ls hP hS hl)
theorem z_imul {E : Ev} {own : String} {tb : Tb} {nL : Nat} {ret : Option FieldType} {pc nx : Nat} {lv : Lv} {st : List Value} {mm : Mem} {x y : Int32} (B : Bx E own tb nL ret) (i : Nat) (h : tb[i]? = some (pc, .imul, 1, nx)) (k : G E nL nx lv (.int (x * y) :: st) mm) : G E nL pc lv (.int y :: .int x :: st) mm := by
  obtain ⟨p, l, e, R, s, m, args, below, meth, c, Q, C, kc, ks, A, res, mo⟩ := E
  obtain ⟨hd, hn⟩ := Bx.dec B h
  subst hn
  intro H locs ls hP hS hl
  exact lv_imul B.1 rfl hd (k H locs ls hP hS hl)
theorem z_iand {E : Ev} {own : String} {tb : Tb} {nL : Nat} {ret : Option FieldType} {pc nx : Nat} {lv : Lv} {st : List Value} {mm : Mem} {x y : Int32} (B : Bx E own tb nL ret) (i : Nat) (h : tb[i]? = some (pc, .iand, 1, nx)) (k : G E nL nx lv (.int (x &&& y) :: st) mm) : G E nL pc lv (.int y :: .int x :: st) mm := by
  obtain ⟨p, l, e, R, s, m, args, below, meth, c, Q, C, kc, ks, A, res, mo⟩ := E
  obtain ⟨hd, hn⟩ := Bx.dec B h
  subst hn
  intro H locs ls hP hS hl
  exact lv_iand B.1 rfl hd (k H locs ls hP hS hl)
theorem z_ior {E : Ev} {own : String} {tb : Tb} {nL : Nat} {ret : Option FieldType} {pc nx : Nat} {lv : Lv} {st : List Value} {mm : Mem} {x y : Int32} (B : Bx E own tb nL ret) (i : Nat) (h : tb[i]? = some (pc, .ior, 1, nx)) (k : G E nL nx lv (.int (x ||| y) :: st) mm) : G E nL pc lv (.int y :: .int x :: st) mm := by
  obtain ⟨p, l, e, R, s, m, args, below, meth, c, Q, C, kc, ks, A, res, mo⟩ := E
  obtain ⟨hd, hn⟩ := Bx.dec B h
  subst hn
  intro H locs ls hP hS hl
  exact lv_ior B.1 rfl hd (k H locs ls hP hS hl)
theorem z_ishl {E : Ev} {own : String} {tb : Tb} {nL : Nat} {ret : Option FieldType} {pc nx : Nat} {lv : Lv} {st : List Value} {mm : Mem} {x y : Int32} (B : Bx E own tb nL ret) (i : Nat) (h : tb[i]? = some (pc, .ishl, 1, nx)) (k : G E nL nx lv (.int (x <<< (y &&& 31)) :: st) mm) : G E nL pc lv (.int y :: .int x :: st) mm := by
  obtain ⟨p, l, e, R, s, m, args, below, meth, c, Q, C, kc, ks, A, res, mo⟩ := E
  obtain ⟨hd, hn⟩ := Bx.dec B h
  subst hn
  intro H locs ls hP hS hl
  exact lv_ishl B.1 rfl hd (k H locs ls hP hS hl)
theorem z_ishr {E : Ev} {own : String} {tb : Tb} {nL : Nat} {ret : Option FieldType} {pc nx : Nat} {lv : Lv} {st : List Value} {mm : Mem} {x y : Int32} (B : Bx E own tb nL ret) (i : Nat) (h : tb[i]? = some (pc, .ishr, 1, nx)) (k : G E nL nx lv (.int (x >>> (y &&& 31)) :: st) mm) : G E nL pc lv (.int y :: .int x :: st) mm := by
  obtain ⟨p, l, e, R, s, m, args, below, meth, c, Q, C, kc, ks, A, res, mo⟩ := E
  obtain ⟨hd, hn⟩ := Bx.dec B h
  subst hn
  intro H locs ls hP hS hl
  exact lv_ishr B.1 rfl hd (k H locs ls hP hS hl)
theorem z_iushr {E : Ev} {own : String} {tb : Tb} {nL : Nat} {ret : Option FieldType} {pc nx : Nat} {lv : Lv} {st : List Value} {mm : Mem} {x y : Int32} (B : Bx E own tb nL ret) (i : Nat) (h : tb[i]? = some (pc, .iushr, 1, nx)) (k : G E nL nx lv (.int ((x.toUInt32 >>> (y.toUInt32 &&& Int32.toUInt32 31)).toInt32) :: st) mm) : G E nL pc lv (.int y :: .int x :: st) mm := by
  obtain ⟨p, l, e, R, s, m, args, below, meth, c, Q, C, kc, ks, A, res, mo⟩ := E
  obtain ⟨hd, hn⟩ := Bx.dec B h
  subst hn
  intro H locs ls hP hS hl
  exact lv_iushr B.1 rfl hd rfl (k H locs ls hP hS hl)
theorem z_idiv {E : Ev} {own : String} {tb : Tb} {nL : Nat} {ret : Option FieldType} {pc nx : Nat} {lv : Lv} {st : List Value} {mm : Mem} {x y : Int32} (B : Bx E own tb nL ret) (i : Nat) (h : tb[i]? = some (pc, .idiv, 1, nx)) (hy : ¬ y = 0) (k : G E nL nx lv (.int (x / y) :: st) mm) : G E nL pc lv (.int y :: .int x :: st) mm := by
  obtain ⟨p, l, e, R, s, m, args, below, meth, c, Q, C, kc, ks, A, res, mo⟩ := E
  obtain ⟨hd, hn⟩ := Bx.dec B h
  subst hn
  intro H locs ls hP hS hl
  exact lv_idiv B.1 rfl hd hy (k H locs ls hP hS hl)
theorem z_ineg {E : Ev} {own : String} {tb : Tb} {nL : Nat} {ret : Option FieldType} {pc nx : Nat} {lv : Lv} {st : List Value} {mm : Mem} {x : Int32} (B : Bx E own tb nL ret) (i : Nat) (h : tb[i]? = some (pc, .ineg, 1, nx)) (k : G E nL nx lv (.int (-x) :: st) mm) : G E nL pc lv (.int x :: st) mm := by
  obtain ⟨p, l, e, R, s, m, args, below, meth, c, Q, C, kc, ks, A, res, mo⟩ := E
  obtain ⟨hd, hn⟩ := Bx.dec B h
  subst hn
  intro H locs ls hP hS hl
  exact lv_ineg B.1 rfl hd (k H locs ls hP hS hl)
theorem z_i2l {E : Ev} {own : String} {tb : Tb} {nL : Nat} {ret : Option FieldType} {pc nx : Nat} {lv : Lv} {st : List Value} {mm : Mem} {x : Int32} (B : Bx E own tb nL ret) (i : Nat) (h : tb[i]? = some (pc, .i2l, 1, nx)) (k : G E nL nx lv (.long (x.toInt64) :: st) mm) : G E nL pc lv (.int x :: st) mm := by
  obtain ⟨p, l, e, R, s, m, args, below, meth, c, Q, C, kc, ks, A, res, mo⟩ := E
  obtain ⟨hd, hn⟩ := Bx.dec B h
  subst hn
  intro H locs ls hP hS hl
  exact lv_i2l B.1 rfl hd rfl (k H locs ls hP hS hl)
theorem z_ladd {E : Ev} {own : String} {tb : Tb} {nL : Nat} {ret : Option FieldType} {pc nx : Nat} {lv : Lv} {st : List Value} {mm : Mem} {x y : Int64} (B : Bx E own tb nL ret) (i : Nat) (h : tb[i]? = some (pc, .ladd, 1, nx)) (k : G E nL nx lv (.long (x + y) :: st) mm) : G E nL pc lv (.long y :: .long x :: st) mm := by
  obtain ⟨p, l, e, R, s, m, args, below, meth, c, Q, C, kc, ks, A, res, mo⟩ := E
  obtain ⟨hd, hn⟩ := Bx.dec B h
  subst hn
  intro H locs ls hP hS hl
  exact lv_ladd B.1 rfl hd (k H locs ls hP hS hl)
theorem z_lsub {E : Ev} {own : String} {tb : Tb} {nL : Nat} {ret : Option FieldType} {pc nx : Nat} {lv : Lv} {st : List Value} {mm : Mem} {x y : Int64} (B : Bx E own tb nL ret) (i : Nat) (h : tb[i]? = some (pc, .lsub, 1, nx)) (k : G E nL nx lv (.long (x - y) :: st) mm) : G E nL pc lv (.long y :: .long x :: st) mm := by
  obtain ⟨p, l, e, R, s, m, args, below, meth, c, Q, C, kc, ks, A, res, mo⟩ := E
  obtain ⟨hd, hn⟩ := Bx.dec B h
  subst hn
  intro H locs ls hP hS hl
  exact lv_lsub B.1 rfl hd (k H locs ls hP hS hl)
theorem z_lmul {E : Ev} {own : String} {tb : Tb} {nL : Nat} {ret : Option FieldType} {pc nx : Nat} {lv : Lv} {st : List Value} {mm : Mem} {x y : Int64} (B : Bx E own tb nL ret) (i : Nat) (h : tb[i]? = some (pc, .lmul, 1, nx)) (k : G E nL nx lv (.long (x * y) :: st) mm) : G E nL pc lv (.long y :: .long x :: st) mm := by
  obtain ⟨p, l, e, R, s, m, args, below, meth, c, Q, C, kc, ks, A, res, mo⟩ := E
  obtain ⟨hd, hn⟩ := Bx.dec B h
  subst hn
  intro H locs ls hP hS hl
  exact lv_lmul B.1 rfl hd (k H locs ls hP hS hl)
theorem z_lcmp {E : Ev} {own : String} {tb : Tb} {nL : Nat} {ret : Option FieldType} {pc nx : Nat} {lv : Lv} {st : List Value} {mm : Mem} {x y : Int64} (B : Bx E own tb nL ret) (i : Nat) (h : tb[i]? = some (pc, .lcmp, 1, nx)) (k : G E nL nx lv (.int (lg_cmp x y) :: st) mm) : G E nL pc lv (.long y :: .long x :: st) mm := by
  obtain ⟨p, l, e, R, s, m, args, below, meth, c, Q, C, kc, ks, A, res, mo⟩ := E
  obtain ⟨hd, hn⟩ := Bx.dec B h
  subst hn
  intro H locs ls hP hS hl
  exact W.lcmp B.1 rfl hd (k H locs ls hP hS hl)
theorem z_iconst {E : Ev} {own : String} {tb : Tb} {nL : Nat} {ret : Option FieldType} {pc nx : Nat} {lv : Lv} {st : List Value} {mm : Mem} {n : Int} (v : Int32) (B : Bx E own tb nL ret) (i : Nat) (h : tb[i]? = some (pc, .iconst n, 1, nx)) (hv : Int32.ofInt n = v) (k : G E nL nx lv (.int v :: st) mm) : G E nL pc lv st mm := by
  obtain ⟨p, l, e, R, s, m, args, below, meth, c, Q, C, kc, ks, A, res, mo⟩ := E
  obtain ⟨hd, hn⟩ := Bx.dec B h
  subst hn
  intro H locs ls hP hS hl
  exact lv_iconst B.1 rfl hd hv (k H locs ls hP hS hl)
theorem z_bipush {E : Ev} {own : String} {tb : Tb} {nL : Nat} {ret : Option FieldType} {pc nx : Nat} {lv : Lv} {st : List Value} {mm : Mem} {n : Int} (v : Int32) (B : Bx E own tb nL ret) (i : Nat) (h : tb[i]? = some (pc, .bipush n, 2, nx)) (hv : (Int8.ofInt n).toInt32 = v) (k : G E nL nx lv (.int v :: st) mm) : G E nL pc lv st mm := by
  obtain ⟨p, l, e, R, s, m, args, below, meth, c, Q, C, kc, ks, A, res, mo⟩ := E
  obtain ⟨hd, hn⟩ := Bx.dec B h
  subst hn
  intro H locs ls hP hS hl
  exact lv_bipush B.1 rfl hd hv (k H locs ls hP hS hl)
theorem z_sipush {E : Ev} {own : String} {tb : Tb} {nL : Nat} {ret : Option FieldType} {pc nx : Nat} {lv : Lv} {st : List Value} {mm : Mem} {n : Int} (v : Int32) (B : Bx E own tb nL ret) (i : Nat) (h : tb[i]? = some (pc, .sipush n, 3, nx)) (hv : (Int16.ofInt n).toInt32 = v) (k : G E nL nx lv (.int v :: st) mm) : G E nL pc lv st mm := by
  obtain ⟨p, l, e, R, s, m, args, below, meth, c, Q, C, kc, ks, A, res, mo⟩ := E
  obtain ⟨hd, hn⟩ := Bx.dec B h
  subst hn
  intro H locs ls hP hS hl
  exact lv_sipush B.1 rfl hd hv (k H locs ls hP hS hl)
theorem z_lconst {E : Ev} {own : String} {tb : Tb} {nL : Nat} {ret : Option FieldType} {pc nx : Nat} {lv : Lv} {st : List Value} {mm : Mem} {n : Fin 2} (v : Int64) (B : Bx E own tb nL ret) (i : Nat) (h : tb[i]? = some (pc, .lconst n, 1, nx)) (hv : Int64.ofNat (n : Nat) = v) (k : G E nL nx lv (.long v :: st) mm) : G E nL pc lv st mm := by
  obtain ⟨p, l, e, R, s, m, args, below, meth, c, Q, C, kc, ks, A, res, mo⟩ := E
  obtain ⟨hd, hn⟩ := Bx.dec B h
  subst hn
  intro H locs ls hP hS hl
  exact lv_lconst B.1 rfl hd hv (k H locs ls hP hS hl)
theorem z_ldc {E : Ev} {own : String} {tb : Tb} {nL : Nat} {ret : Option FieldType} {pc nx : Nat} {lv : Lv} {st : List Value} {mm : Mem} {n : Nat} (v : Int32) (B : Bx E own tb nL ret) (i : Nat) (h : tb[i]? = some (pc, .ldc n, 2, nx)) (hw : Cond.constant own n v ∈ TW) (k : G E nL nx lv (.int v :: st) mm) : G E nL pc lv st mm := by
  obtain ⟨p, l, e, R, s, m, args, below, meth, c, Q, C, kc, ks, A, res, mo⟩ := E
  obtain ⟨hd, hn⟩ := Bx.dec B h
  subst hn
  intro H locs ls hP hS hl
  exact lv_ldc B.1 rfl B.hown (B.tw _ hw) hd (k H locs ls hP hS hl)
theorem z_ldc2 {E : Ev} {own : String} {tb : Tb} {nL : Nat} {ret : Option FieldType} {pc nx : Nat} {lv : Lv} {st : List Value} {mm : Mem} {n : Nat} (v : Int64) (B : Bx E own tb nL ret) (i : Nat) (h : tb[i]? = some (pc, .ldc2_w n, 3, nx)) (hw : Cond.constantLong own n v ∈ TW) (k : G E nL nx lv (.long v :: st) mm) : G E nL pc lv st mm := by
  obtain ⟨p, l, e, R, s, m, args, below, meth, c, Q, C, kc, ks, A, res, mo⟩ := E
  obtain ⟨hd, hn⟩ := Bx.dec B h
  subst hn
  intro H locs ls hP hS hl
  exact lv_ldc2 B.1 rfl B.hown (B.tw _ hw) hd (k H locs ls hP hS hl)
theorem z_iload_n {E : Ev} {own : String} {tb : Tb} {nL : Nat} {ret : Option FieldType} {pc nx : Nat} {lv : Lv} {st : List Value} {mm : Mem} {x : Int32} {kk : Fin 4} (B : Bx E own tb nL ret) (i : Nat) (h : tb[i]? = some (pc, .iload_n kk, 1, nx)) (q j : Nat) (hq : (kk : Nat) = q) (hj : lv[j]? = some (q, .int x)) (k : G E nL nx lv (.int x :: st) mm) : G E nL pc lv st mm := by
  obtain ⟨p, l, e, R, s, m, args, below, meth, c, Q, C, kc, ks, A, res, mo⟩ := E
  obtain ⟨hd, hn⟩ := Bx.dec B h
  subst hn
  intro H locs ls hP hS hl
  exact lv_iload_n B.1 rfl hd hq (lv_at hl j (lvm hj)) (k H locs ls hP hS hl)
theorem z_iload {E : Ev} {own : String} {tb : Tb} {nL : Nat} {ret : Option FieldType} {pc nx : Nat} {lv : Lv} {st : List Value} {mm : Mem} {x : Int32} {q : Nat} (B : Bx E own tb nL ret) (i : Nat) (h : tb[i]? = some (pc, .iload q, 2, nx)) (j : Nat) (hj : lv[j]? = some (q, .int x)) (k : G E nL nx lv (.int x :: st) mm) : G E nL pc lv st mm := by
  obtain ⟨p, l, e, R, s, m, args, below, meth, c, Q, C, kc, ks, A, res, mo⟩ := E
  obtain ⟨hd, hn⟩ := Bx.dec B h
  subst hn
  intro H locs ls hP hS hl
  exact lv_iload B.1 rfl hd (lv_at hl j (lvm hj)) (k H locs ls hP hS hl)
theorem z_lload_n {E : Ev} {own : String} {tb : Tb} {nL : Nat} {ret : Option FieldType} {pc nx : Nat} {lv : Lv} {st : List Value} {mm : Mem} {x : Int64} {kk : Fin 4} (B : Bx E own tb nL ret) (i : Nat) (h : tb[i]? = some (pc, .lload_n kk, 1, nx)) (q j : Nat) (hq : (kk : Nat) = q) (hj : lv[j]? = some (q, .long x)) (k : G E nL nx lv (.long x :: st) mm) : G E nL pc lv st mm := by
  obtain ⟨p, l, e, R, s, m, args, below, meth, c, Q, C, kc, ks, A, res, mo⟩ := E
  obtain ⟨hd, hn⟩ := Bx.dec B h
  subst hn
  intro H locs ls hP hS hl
  exact lv_lload_n B.1 rfl hd hq (lv_at hl j (lvm hj)) (k H locs ls hP hS hl)
theorem z_lload {E : Ev} {own : String} {tb : Tb} {nL : Nat} {ret : Option FieldType} {pc nx : Nat} {lv : Lv} {st : List Value} {mm : Mem} {x : Int64} {q : Nat} (B : Bx E own tb nL ret) (i : Nat) (h : tb[i]? = some (pc, .lload q, 2, nx)) (j : Nat) (hj : lv[j]? = some (q, .long x)) (k : G E nL nx lv (.long x :: st) mm) : G E nL pc lv st mm := by
  obtain ⟨p, l, e, R, s, m, args, below, meth, c, Q, C, kc, ks, A, res, mo⟩ := E
  obtain ⟨hd, hn⟩ := Bx.dec B h
  subst hn
  intro H locs ls hP hS hl
  exact lv_lload B.1 rfl hd (lv_at hl j (lvm hj)) (k H locs ls hP hS hl)
theorem z_aload_n {E : Ev} {own : String} {tb : Tb} {nL : Nat} {ret : Option FieldType} {pc nx : Nat} {lv : Lv} {st : List Value} {mm : Mem} {x : Nat} {kk : Fin 4} (B : Bx E own tb nL ret) (i : Nat) (h : tb[i]? = some (pc, .aload_n kk, 1, nx)) (q j : Nat) (hq : (kk : Nat) = q) (hj : lv[j]? = some (q, .ref x)) (k : G E nL nx lv (.ref x :: st) mm) : G E nL pc lv st mm := by
  obtain ⟨p, l, e, R, s, m, args, below, meth, c, Q, C, kc, ks, A, res, mo⟩ := E
  obtain ⟨hd, hn⟩ := Bx.dec B h
  subst hn
  intro H locs ls hP hS hl
  exact lv_aload_n B.1 rfl hd hq (lv_at hl j (lvm hj)) (k H locs ls hP hS hl)
theorem z_aload {E : Ev} {own : String} {tb : Tb} {nL : Nat} {ret : Option FieldType} {pc nx : Nat} {lv : Lv} {st : List Value} {mm : Mem} {x : Nat} {q : Nat} (B : Bx E own tb nL ret) (i : Nat) (h : tb[i]? = some (pc, .aload q, 2, nx)) (j : Nat) (hj : lv[j]? = some (q, .ref x)) (k : G E nL nx lv (.ref x :: st) mm) : G E nL pc lv st mm := by
  obtain ⟨p, l, e, R, s, m, args, below, meth, c, Q, C, kc, ks, A, res, mo⟩ := E
  obtain ⟨hd, hn⟩ := Bx.dec B h
  subst hn
  intro H locs ls hP hS hl
  exact lv_aload B.1 rfl hd (lv_at hl j (lvm hj)) (k H locs ls hP hS hl)
theorem z_istore_n {E : Ev} {own : String} {tb : Tb} {nL : Nat} {ret : Option FieldType} {pc nx : Nat} {lv : Lv} {st : List Value} {mm : Mem} {x : Int32} {kk : Fin 4} (lv' : Lv) (B : Bx E own tb nL ret) (i : Nat) (h : tb[i]? = some (pc, .istore_n kk, 1, nx)) (q : Nat) (hq : (kk : Nat) = q) (hn : q < nL) (hl' : zs1 lv q (.int x) = lv') (k : G E nL nx lv' st mm) : G E nL pc lv (.int x :: st) mm := by
  subst hl'
  obtain ⟨p, l, e, R, s, m, args, below, meth, c, Q, C, kc, ks, A, res, mo⟩ := E
  obtain ⟨hd, hn⟩ := Bx.dec B h
  subst hn
  intro H locs ls hP hS hl
  exact lv_istore_n B.1 rfl hd hq hl hn (zs1_map C lv q (.int x)) (fun ls' hl' => k H locs ls' hP hS hl')
theorem z_istore {E : Ev} {own : String} {tb : Tb} {nL : Nat} {ret : Option FieldType} {pc nx : Nat} {lv : Lv} {st : List Value} {mm : Mem} {x : Int32} {q : Nat} (lv' : Lv) (B : Bx E own tb nL ret) (i : Nat) (h : tb[i]? = some (pc, .istore q, 2, nx)) (hn : q < nL) (hl' : zs1 lv q (.int x) = lv') (k : G E nL nx lv' st mm) : G E nL pc lv (.int x :: st) mm := by
  subst hl'
  obtain ⟨p, l, e, R, s, m, args, below, meth, c, Q, C, kc, ks, A, res, mo⟩ := E
  obtain ⟨hd, hn⟩ := Bx.dec B h
  subst hn
  intro H locs ls hP hS hl
  exact lv_istore B.1 rfl hd hl hn (zs1_map C lv q (.int x)) (fun ls' hl' => k H locs ls' hP hS hl')
theorem z_astore_n {E : Ev} {own : String} {tb : Tb} {nL : Nat} {ret : Option FieldType} {pc nx : Nat} {lv : Lv} {st : List Value} {mm : Mem} {x : Nat} {kk : Fin 4} (lv' : Lv) (B : Bx E own tb nL ret) (i : Nat) (h : tb[i]? = some (pc, .astore_n kk, 1, nx)) (q : Nat) (hq : (kk : Nat) = q) (hn : q < nL) (hl' : zs1 lv q (.ref x) = lv') (k : G E nL nx lv' st mm) : G E nL pc lv (.ref x :: st) mm := by
  subst hl'
  obtain ⟨p, l, e, R, s, m, args, below, meth, c, Q, C, kc, ks, A, res, mo⟩ := E
  obtain ⟨hd, hn⟩ := Bx.dec B h
  subst hn
  intro H locs ls hP hS hl
  exact lv_astore_n B.1 rfl hd hq hl hn (zs1_map C lv q (.ref x)) (fun ls' hl' => k H locs ls' hP hS hl')
theorem z_astore {E : Ev} {own : String} {tb : Tb} {nL : Nat} {ret : Option FieldType} {pc nx : Nat} {lv : Lv} {st : List Value} {mm : Mem} {x : Nat} {q : Nat} (lv' : Lv) (B : Bx E own tb nL ret) (i : Nat) (h : tb[i]? = some (pc, .astore q, 2, nx)) (hn : q < nL) (hl' : zs1 lv q (.ref x) = lv') (k : G E nL nx lv' st mm) : G E nL pc lv (.ref x :: st) mm := by
  subst hl'
  obtain ⟨p, l, e, R, s, m, args, below, meth, c, Q, C, kc, ks, A, res, mo⟩ := E
  obtain ⟨hd, hn⟩ := Bx.dec B h
  subst hn
  intro H locs ls hP hS hl
  exact lv_astore B.1 rfl hd hl hn (zs1_map C lv q (.ref x)) (fun ls' hl' => k H locs ls' hP hS hl')
theorem z_lstore_n {E : Ev} {own : String} {tb : Tb} {nL : Nat} {ret : Option FieldType} {pc nx : Nat} {lv : Lv} {st : List Value} {mm : Mem} {x : Int64} {kk : Fin 4} (lv' : Lv) (B : Bx E own tb nL ret) (i : Nat) (h : tb[i]? = some (pc, .lstore_n kk, 1, nx)) (q : Nat) (hq : (kk : Nat) = q) (hn : q + 1 < nL) (hl' : zs2 lv q (.long x) = lv') (k : G E nL nx lv' st mm) : G E nL pc lv (.long x :: st) mm := by
  subst hl'
  obtain ⟨p, l, e, R, s, m, args, below, meth, c, Q, C, kc, ks, A, res, mo⟩ := E
  obtain ⟨hd, hn⟩ := Bx.dec B h
  subst hn
  intro H locs ls hP hS hl
  exact lv_lstore_n B.1 rfl hd hq hl hn (zs2_map C lv q (.long x)) (fun ls' hl' => k H locs ls' hP hS hl')
theorem z_lstore {E : Ev} {own : String} {tb : Tb} {nL : Nat} {ret : Option FieldType} {pc nx : Nat} {lv : Lv} {st : List Value} {mm : Mem} {x : Int64} {q : Nat} (lv' : Lv) (B : Bx E own tb nL ret) (i : Nat) (h : tb[i]? = some (pc, .lstore q, 2, nx)) (hn : q + 1 < nL) (hl' : zs2 lv q (.long x) = lv') (k : G E nL nx lv' st mm) : G E nL pc lv (.long x :: st) mm := by
  subst hl'
  obtain ⟨p, l, e, R, s, m, args, below, meth, c, Q, C, kc, ks, A, res, mo⟩ := E
  obtain ⟨hd, hn⟩ := Bx.dec B h
  subst hn
  intro H locs ls hP hS hl
  exact lv_lstore B.1 rfl hd hl hn (zs2_map C lv q (.long x)) (fun ls' hl' => k H locs ls' hP hS hl')
theorem z_iinc {E : Ev} {own : String} {tb : Tb} {nL : Nat} {ret : Option FieldType} {pc nx : Nat} {lv : Lv} {st : List Value} {mm : Mem} {x : Int32} {q : Nat} {n : Int} (v : Int32) (lv' : Lv) (B : Bx E own tb nL ret) (i : Nat) (h : tb[i]? = some (pc, .iinc q n, 3, nx)) (j : Nat) (hj : lv[j]? = some (q, .int x)) (hv : x + Int32.ofInt n = v) (hn : q < nL) (hl' : zs1 lv q (.int v) = lv') (k : G E nL nx lv' st mm) : G E nL pc lv st mm := by
  subst hl'
  obtain ⟨p, l, e, R, s, m, args, below, meth, c, Q, C, kc, ks, A, res, mo⟩ := E
  obtain ⟨hd, hn⟩ := Bx.dec B h
  subst hn
  intro H locs ls hP hS hl
  exact lv_iinc B.1 rfl hd hl (lvm hj) hv hn (zs1_map C lv q (.int v)) (fun ls' hl' => k H locs ls' hP hS hl')
theorem z_dup {E : Ev} {own : String} {tb : Tb} {nL : Nat} {ret : Option FieldType} {pc nx : Nat} {lv : Lv} {st : List Value} {mm : Mem} {v : Value} (B : Bx E own tb nL ret) (i : Nat) (h : tb[i]? = some (pc, .dup, 1, nx)) (hv : v.category = 1) (k : G E nL nx lv (v :: v :: st) mm) : G E nL pc lv (v :: st) mm := by
  obtain ⟨p, l, e, R, s, m, args, below, meth, c, Q, C, kc, ks, A, res, mo⟩ := E
  obtain ⟨hd, hn⟩ := Bx.dec B h
  subst hn
  intro H locs ls hP hS hl
  exact lv_dup B.1 rfl hd ((cvv_cat C v).trans hv) (k H locs ls hP hS hl)
theorem z_pop {E : Ev} {own : String} {tb : Tb} {nL : Nat} {ret : Option FieldType} {pc nx : Nat} {lv : Lv} {st : List Value} {mm : Mem} {v : Value} (B : Bx E own tb nL ret) (i : Nat) (h : tb[i]? = some (pc, .pop, 1, nx)) (hv : v.category = 1) (k : G E nL nx lv st mm) : G E nL pc lv (v :: st) mm := by
  obtain ⟨p, l, e, R, s, m, args, below, meth, c, Q, C, kc, ks, A, res, mo⟩ := E
  obtain ⟨hd, hn⟩ := Bx.dec B h
  subst hn
  intro H locs ls hP hS hl
  exact lv_pop B.1 rfl hd ((cvv_cat C v).trans hv) (k H locs ls hP hS hl)
theorem z_dup2 {E : Ev} {own : String} {tb : Tb} {nL : Nat} {ret : Option FieldType} {pc nx : Nat} {lv : Lv} {st : List Value} {mm : Mem} {v w : Value} (B : Bx E own tb nL ret) (i : Nat) (h : tb[i]? = some (pc, .dup2, 1, nx)) (hv : v.category = 1) (hw : w.category = 1) (k : G E nL nx lv (v :: w :: v :: w :: st) mm) : G E nL pc lv (v :: w :: st) mm := by
  obtain ⟨p, l, e, R, s, m, args, below, meth, c, Q, C, kc, ks, A, res, mo⟩ := E
  obtain ⟨hd, hn⟩ := Bx.dec B h
  subst hn
  intro H locs ls hP hS hl
  exact lv_dup2_11 B.1 rfl hd ((cvv_cat C v).trans hv) ((cvv_cat C w).trans hw) (k H locs ls hP hS hl)
theorem z_goto {E : Ev} {own : String} {tb : Tb} {nL : Nat} {ret : Option FieldType} {pc nx : Nat} {lv : Lv} {st : List Value} {mm : Mem} {off : Int} (B : Bx E own tb nL ret) (i : Nat) (h : tb[i]? = some (pc, .goto off, 3, nx)) (tgt : Nat) (ht : (pc : Int) + off = (tgt : Int)) (k : G E nL tgt lv st mm) : G E nL pc lv st mm := by
  obtain ⟨p, l, e, R, s, m, args, below, meth, c, Q, C, kc, ks, A, res, mo⟩ := E
  obtain ⟨hd, hn⟩ := Bx.dec B h
  subst hn
  intro H locs ls hP hS hl
  exact lv_goto B.1 rfl hd ht (k H locs ls hP hS hl)
theorem z_if_eq_t {E : Ev} {own : String} {tb : Tb} {nL : Nat} {ret : Option FieldType} {pc nx : Nat} {lv : Lv} {st : List Value} {mm : Mem} {x : Int32} {off : Int} (B : Bx E own tb nL ret) (i : Nat) (h : tb[i]? = some (pc, .ifCond .eq off, 3, nx)) (tgt : Nat) (ht : (pc : Int) + off = (tgt : Int)) (hc : x = 0) (k : G E nL tgt lv st mm) : G E nL pc lv (.int x :: st) mm := by
  obtain ⟨p, l, e, R, s, m, args, below, meth, c, Q, C, kc, ks, A, res, mo⟩ := E
  obtain ⟨hd, hn⟩ := Bx.dec B h
  subst hn
  intro H locs ls hP hS hl
  exact lv_if_eq B.1 rfl hd ht (fun _ => k H locs ls hP hS hl) (fun q => absurd (hc) q)
theorem z_if_eq_f {E : Ev} {own : String} {tb : Tb} {nL : Nat} {ret : Option FieldType} {pc nx : Nat} {lv : Lv} {st : List Value} {mm : Mem} {x : Int32} {off : Int} (B : Bx E own tb nL ret) (i : Nat) (h : tb[i]? = some (pc, .ifCond .eq off, 3, nx)) (tgt : Nat) (ht : (pc : Int) + off = (tgt : Int)) (hc : ¬ x = 0) (k : G E nL nx lv st mm) : G E nL pc lv (.int x :: st) mm := by
  obtain ⟨p, l, e, R, s, m, args, below, meth, c, Q, C, kc, ks, A, res, mo⟩ := E
  obtain ⟨hd, hn⟩ := Bx.dec B h
  subst hn
  intro H locs ls hP hS hl
  exact lv_if_eq B.1 rfl hd ht (fun q => absurd q (hc)) (fun _ => k H locs ls hP hS hl)
theorem z_icmp_eq_t {E : Ev} {own : String} {tb : Tb} {nL : Nat} {ret : Option FieldType} {pc nx : Nat} {lv : Lv} {st : List Value} {mm : Mem} {x y : Int32} {off : Int} (B : Bx E own tb nL ret) (i : Nat) (h : tb[i]? = some (pc, .if_icmp .eq off, 3, nx)) (tgt : Nat) (ht : (pc : Int) + off = (tgt : Int)) (hc : x = y) (k : G E nL tgt lv st mm) : G E nL pc lv (.int y :: .int x :: st) mm := by
  obtain ⟨p, l, e, R, s, m, args, below, meth, c, Q, C, kc, ks, A, res, mo⟩ := E
  obtain ⟨hd, hn⟩ := Bx.dec B h
  subst hn
  intro H locs ls hP hS hl
  exact lv_icmp_eq B.1 rfl hd ht (fun _ => k H locs ls hP hS hl) (fun q => absurd (hc) q)
theorem z_icmp_eq_f {E : Ev} {own : String} {tb : Tb} {nL : Nat} {ret : Option FieldType} {pc nx : Nat} {lv : Lv} {st : List Value} {mm : Mem} {x y : Int32} {off : Int} (B : Bx E own tb nL ret) (i : Nat) (h : tb[i]? = some (pc, .if_icmp .eq off, 3, nx)) (tgt : Nat) (ht : (pc : Int) + off = (tgt : Int)) (hc : ¬ x = y) (k : G E nL nx lv st mm) : G E nL pc lv (.int y :: .int x :: st) mm := by
  obtain ⟨p, l, e, R, s, m, args, below, meth, c, Q, C, kc, ks, A, res, mo⟩ := E
  obtain ⟨hd, hn⟩ := Bx.dec B h
  subst hn
  intro H locs ls hP hS hl
  exact lv_icmp_eq B.1 rfl hd ht (fun q => absurd q (hc)) (fun _ => k H locs ls hP hS hl)
theorem z_if_ne_t {E : Ev} {own : String} {tb : Tb} {nL : Nat} {ret : Option FieldType} {pc nx : Nat} {lv : Lv} {st : List Value} {mm : Mem} {x : Int32} {off : Int} (B : Bx E own tb nL ret) (i : Nat) (h : tb[i]? = some (pc, .ifCond .ne off, 3, nx)) (tgt : Nat) (ht : (pc : Int) + off = (tgt : Int)) (hc : ¬ x = 0) (k : G E nL tgt lv st mm) : G E nL pc lv (.int x :: st) mm := by
  obtain ⟨p, l, e, R, s, m, args, below, meth, c, Q, C, kc, ks, A, res, mo⟩ := E
  obtain ⟨hd, hn⟩ := Bx.dec B h
  subst hn
  intro H locs ls hP hS hl
  exact lv_if_ne B.1 rfl hd ht (fun _ => k H locs ls hP hS hl) (fun q => absurd q hc)
theorem z_if_ne_f {E : Ev} {own : String} {tb : Tb} {nL : Nat} {ret : Option FieldType} {pc nx : Nat} {lv : Lv} {st : List Value} {mm : Mem} {x : Int32} {off : Int} (B : Bx E own tb nL ret) (i : Nat) (h : tb[i]? = some (pc, .ifCond .ne off, 3, nx)) (tgt : Nat) (ht : (pc : Int) + off = (tgt : Int)) (hc : x = 0) (k : G E nL nx lv st mm) : G E nL pc lv (.int x :: st) mm := by
  obtain ⟨p, l, e, R, s, m, args, below, meth, c, Q, C, kc, ks, A, res, mo⟩ := E
  obtain ⟨hd, hn⟩ := Bx.dec B h
  subst hn
  intro H locs ls hP hS hl
  exact lv_if_ne B.1 rfl hd ht (fun q => absurd q (fun z => z hc)) (fun _ => k H locs ls hP hS hl)
theorem z_icmp_ne_t {E : Ev} {own : String} {tb : Tb} {nL : Nat} {ret : Option FieldType} {pc nx : Nat} {lv : Lv} {st : List Value} {mm : Mem} {x y : Int32} {off : Int} (B : Bx E own tb nL ret) (i : Nat) (h : tb[i]? = some (pc, .if_icmp .ne off, 3, nx)) (tgt : Nat) (ht : (pc : Int) + off = (tgt : Int)) (hc : ¬ x = y) (k : G E nL tgt lv st mm) : G E nL pc lv (.int y :: .int x :: st) mm := by
  obtain ⟨p, l, e, R, s, m, args, below, meth, c, Q, C, kc, ks, A, res, mo⟩ := E
  obtain ⟨hd, hn⟩ := Bx.dec B h
  subst hn
  intro H locs ls hP hS hl
  exact lv_icmp_ne B.1 rfl hd ht (fun _ => k H locs ls hP hS hl) (fun q => absurd q hc)
theorem z_icmp_ne_f {E : Ev} {own : String} {tb : Tb} {nL : Nat} {ret : Option FieldType} {pc nx : Nat} {lv : Lv} {st : List Value} {mm : Mem} {x y : Int32} {off : Int} (B : Bx E own tb nL ret) (i : Nat) (h : tb[i]? = some (pc, .if_icmp .ne off, 3, nx)) (tgt : Nat) (ht : (pc : Int) + off = (tgt : Int)) (hc : x = y) (k : G E nL nx lv st mm) : G E nL pc lv (.int y :: .int x :: st) mm := by
  obtain ⟨p, l, e, R, s, m, args, below, meth, c, Q, C, kc, ks, A, res, mo⟩ := E
  obtain ⟨hd, hn⟩ := Bx.dec B h
  subst hn
  intro H locs ls hP hS hl
  exact lv_icmp_ne B.1 rfl hd ht (fun q => absurd q (fun z => z hc)) (fun _ => k H locs ls hP hS hl)
theorem z_if_lt_t {E : Ev} {own : String} {tb : Tb} {nL : Nat} {ret : Option FieldType} {pc nx : Nat} {lv : Lv} {st : List Value} {mm : Mem} {x : Int32} {off : Int} (B : Bx E own tb nL ret) (i : Nat) (h : tb[i]? = some (pc, .ifCond .lt off, 3, nx)) (tgt : Nat) (ht : (pc : Int) + off = (tgt : Int)) (hc : x < 0) (k : G E nL tgt lv st mm) : G E nL pc lv (.int x :: st) mm := by
  obtain ⟨p, l, e, R, s, m, args, below, meth, c, Q, C, kc, ks, A, res, mo⟩ := E
  obtain ⟨hd, hn⟩ := Bx.dec B h
  subst hn
  intro H locs ls hP hS hl
  exact lv_if_lt B.1 rfl hd ht (fun _ => k H locs ls hP hS hl) (fun q => absurd (hc) q)
theorem z_if_lt_f {E : Ev} {own : String} {tb : Tb} {nL : Nat} {ret : Option FieldType} {pc nx : Nat} {lv : Lv} {st : List Value} {mm : Mem} {x : Int32} {off : Int} (B : Bx E own tb nL ret) (i : Nat) (h : tb[i]? = some (pc, .ifCond .lt off, 3, nx)) (tgt : Nat) (ht : (pc : Int) + off = (tgt : Int)) (hc : ¬ x < 0) (k : G E nL nx lv st mm) : G E nL pc lv (.int x :: st) mm := by
  obtain ⟨p, l, e, R, s, m, args, below, meth, c, Q, C, kc, ks, A, res, mo⟩ := E
  obtain ⟨hd, hn⟩ := Bx.dec B h
  subst hn
  intro H locs ls hP hS hl
  exact lv_if_lt B.1 rfl hd ht (fun q => absurd q (hc)) (fun _ => k H locs ls hP hS hl)
theorem z_icmp_lt_t {E : Ev} {own : String} {tb : Tb} {nL : Nat} {ret : Option FieldType} {pc nx : Nat} {lv : Lv} {st : List Value} {mm : Mem} {x y : Int32} {off : Int} (B : Bx E own tb nL ret) (i : Nat) (h : tb[i]? = some (pc, .if_icmp .lt off, 3, nx)) (tgt : Nat) (ht : (pc : Int) + off = (tgt : Int)) (hc : x < y) (k : G E nL tgt lv st mm) : G E nL pc lv (.int y :: .int x :: st) mm := by
  obtain ⟨p, l, e, R, s, m, args, below, meth, c, Q, C, kc, ks, A, res, mo⟩ := E
  obtain ⟨hd, hn⟩ := Bx.dec B h
  subst hn
  intro H locs ls hP hS hl
  exact lv_icmp_lt B.1 rfl hd ht (fun _ => k H locs ls hP hS hl) (fun q => absurd (hc) q)
theorem z_icmp_lt_f {E : Ev} {own : String} {tb : Tb} {nL : Nat} {ret : Option FieldType} {pc nx : Nat} {lv : Lv} {st : List Value} {mm : Mem} {x y : Int32} {off : Int} (B : Bx E own tb nL ret) (i : Nat) (h : tb[i]? = some (pc, .if_icmp .lt off, 3, nx)) (tgt : Nat) (ht : (pc : Int) + off = (tgt : Int)) (hc : ¬ x < y) (k : G E nL nx lv st mm) : G E nL pc lv (.int y :: .int x :: st) mm := by
  obtain ⟨p, l, e, R, s, m, args, below, meth, c, Q, C, kc, ks, A, res, mo⟩ := E
  obtain ⟨hd, hn⟩ := Bx.dec B h
  subst hn
  intro H locs ls hP hS hl
  exact lv_icmp_lt B.1 rfl hd ht (fun q => absurd q (hc)) (fun _ => k H locs ls hP hS hl)
theorem z_if_ge_t {E : Ev} {own : String} {tb : Tb} {nL : Nat} {ret : Option FieldType} {pc nx : Nat} {lv : Lv} {st : List Value} {mm : Mem} {x : Int32} {off : Int} (B : Bx E own tb nL ret) (i : Nat) (h : tb[i]? = some (pc, .ifCond .ge off, 3, nx)) (tgt : Nat) (ht : (pc : Int) + off = (tgt : Int)) (hc : ¬ x < 0) (k : G E nL tgt lv st mm) : G E nL pc lv (.int x :: st) mm := by
  obtain ⟨p, l, e, R, s, m, args, below, meth, c, Q, C, kc, ks, A, res, mo⟩ := E
  obtain ⟨hd, hn⟩ := Bx.dec B h
  subst hn
  intro H locs ls hP hS hl
  exact lv_if_ge B.1 rfl hd ht (fun _ => k H locs ls hP hS hl) (fun q => absurd (i32_nlt hc) q)
theorem z_if_ge_f {E : Ev} {own : String} {tb : Tb} {nL : Nat} {ret : Option FieldType} {pc nx : Nat} {lv : Lv} {st : List Value} {mm : Mem} {x : Int32} {off : Int} (B : Bx E own tb nL ret) (i : Nat) (h : tb[i]? = some (pc, .ifCond .ge off, 3, nx)) (tgt : Nat) (ht : (pc : Int) + off = (tgt : Int)) (hc : x < 0) (k : G E nL nx lv st mm) : G E nL pc lv (.int x :: st) mm := by
  obtain ⟨p, l, e, R, s, m, args, below, meth, c, Q, C, kc, ks, A, res, mo⟩ := E
  obtain ⟨hd, hn⟩ := Bx.dec B h
  subst hn
  intro H locs ls hP hS hl
  exact lv_if_ge B.1 rfl hd ht (fun q => absurd q (fun z => absurd hc (i32_nlt2 z))) (fun _ => k H locs ls hP hS hl)
theorem z_icmp_ge_t {E : Ev} {own : String} {tb : Tb} {nL : Nat} {ret : Option FieldType} {pc nx : Nat} {lv : Lv} {st : List Value} {mm : Mem} {x y : Int32} {off : Int} (B : Bx E own tb nL ret) (i : Nat) (h : tb[i]? = some (pc, .if_icmp .ge off, 3, nx)) (tgt : Nat) (ht : (pc : Int) + off = (tgt : Int)) (hc : ¬ x < y) (k : G E nL tgt lv st mm) : G E nL pc lv (.int y :: .int x :: st) mm := by
  obtain ⟨p, l, e, R, s, m, args, below, meth, c, Q, C, kc, ks, A, res, mo⟩ := E
  obtain ⟨hd, hn⟩ := Bx.dec B h
  subst hn
  intro H locs ls hP hS hl
  exact lv_icmp_ge B.1 rfl hd ht (fun _ => k H locs ls hP hS hl) (fun q => absurd (i32_nlt hc) q)
theorem z_icmp_ge_f {E : Ev} {own : String} {tb : Tb} {nL : Nat} {ret : Option FieldType} {pc nx : Nat} {lv : Lv} {st : List Value} {mm : Mem} {x y : Int32} {off : Int} (B : Bx E own tb nL ret) (i : Nat) (h : tb[i]? = some (pc, .if_icmp .ge off, 3, nx)) (tgt : Nat) (ht : (pc : Int) + off = (tgt : Int)) (hc : x < y) (k : G E nL nx lv st mm) : G E nL pc lv (.int y :: .int x :: st) mm := by
  obtain ⟨p, l, e, R, s, m, args, below, meth, c, Q, C, kc, ks, A, res, mo⟩ := E
  obtain ⟨hd, hn⟩ := Bx.dec B h
  subst hn
  intro H locs ls hP hS hl
  exact lv_icmp_ge B.1 rfl hd ht (fun q => absurd q (fun z => absurd hc (i32_nlt2 z))) (fun _ => k H locs ls hP hS hl)
theorem z_if_gt_t {E : Ev} {own : String} {tb : Tb} {nL : Nat} {ret : Option FieldType} {pc nx : Nat} {lv : Lv} {st : List Value} {mm : Mem} {x : Int32} {off : Int} (B : Bx E own tb nL ret) (i : Nat) (h : tb[i]? = some (pc, .ifCond .gt off, 3, nx)) (tgt : Nat) (ht : (pc : Int) + off = (tgt : Int)) (hc : 0 < x) (k : G E nL tgt lv st mm) : G E nL pc lv (.int x :: st) mm := by
  obtain ⟨p, l, e, R, s, m, args, below, meth, c, Q, C, kc, ks, A, res, mo⟩ := E
  obtain ⟨hd, hn⟩ := Bx.dec B h
  subst hn
  intro H locs ls hP hS hl
  exact lv_if_gt B.1 rfl hd ht (fun _ => k H locs ls hP hS hl) (fun q => absurd (hc) q)
theorem z_if_gt_f {E : Ev} {own : String} {tb : Tb} {nL : Nat} {ret : Option FieldType} {pc nx : Nat} {lv : Lv} {st : List Value} {mm : Mem} {x : Int32} {off : Int} (B : Bx E own tb nL ret) (i : Nat) (h : tb[i]? = some (pc, .ifCond .gt off, 3, nx)) (tgt : Nat) (ht : (pc : Int) + off = (tgt : Int)) (hc : ¬ 0 < x) (k : G E nL nx lv st mm) : G E nL pc lv (.int x :: st) mm := by
  obtain ⟨p, l, e, R, s, m, args, below, meth, c, Q, C, kc, ks, A, res, mo⟩ := E
  obtain ⟨hd, hn⟩ := Bx.dec B h
  subst hn
  intro H locs ls hP hS hl
  exact lv_if_gt B.1 rfl hd ht (fun q => absurd q (hc)) (fun _ => k H locs ls hP hS hl)
theorem z_icmp_gt_t {E : Ev} {own : String} {tb : Tb} {nL : Nat} {ret : Option FieldType} {pc nx : Nat} {lv : Lv} {st : List Value} {mm : Mem} {x y : Int32} {off : Int} (B : Bx E own tb nL ret) (i : Nat) (h : tb[i]? = some (pc, .if_icmp .gt off, 3, nx)) (tgt : Nat) (ht : (pc : Int) + off = (tgt : Int)) (hc : y < x) (k : G E nL tgt lv st mm) : G E nL pc lv (.int y :: .int x :: st) mm := by
  obtain ⟨p, l, e, R, s, m, args, below, meth, c, Q, C, kc, ks, A, res, mo⟩ := E
  obtain ⟨hd, hn⟩ := Bx.dec B h
  subst hn
  intro H locs ls hP hS hl
  exact lv_icmp_gt B.1 rfl hd ht (fun _ => k H locs ls hP hS hl) (fun q => absurd (hc) q)
theorem z_icmp_gt_f {E : Ev} {own : String} {tb : Tb} {nL : Nat} {ret : Option FieldType} {pc nx : Nat} {lv : Lv} {st : List Value} {mm : Mem} {x y : Int32} {off : Int} (B : Bx E own tb nL ret) (i : Nat) (h : tb[i]? = some (pc, .if_icmp .gt off, 3, nx)) (tgt : Nat) (ht : (pc : Int) + off = (tgt : Int)) (hc : ¬ y < x) (k : G E nL nx lv st mm) : G E nL pc lv (.int y :: .int x :: st) mm := by
  obtain ⟨p, l, e, R, s, m, args, below, meth, c, Q, C, kc, ks, A, res, mo⟩ := E
  obtain ⟨hd, hn⟩ := Bx.dec B h
  subst hn
  intro H locs ls hP hS hl
  exact lv_icmp_gt B.1 rfl hd ht (fun q => absurd q (hc)) (fun _ => k H locs ls hP hS hl)
theorem z_if_le_t {E : Ev} {own : String} {tb : Tb} {nL : Nat} {ret : Option FieldType} {pc nx : Nat} {lv : Lv} {st : List Value} {mm : Mem} {x : Int32} {off : Int} (B : Bx E own tb nL ret) (i : Nat) (h : tb[i]? = some (pc, .ifCond .le off, 3, nx)) (tgt : Nat) (ht : (pc : Int) + off = (tgt : Int)) (hc : ¬ 0 < x) (k : G E nL tgt lv st mm) : G E nL pc lv (.int x :: st) mm := by
  obtain ⟨p, l, e, R, s, m, args, below, meth, c, Q, C, kc, ks, A, res, mo⟩ := E
  obtain ⟨hd, hn⟩ := Bx.dec B h
  subst hn
  intro H locs ls hP hS hl
  exact lv_if_le B.1 rfl hd ht (fun _ => k H locs ls hP hS hl) (fun q => absurd (i32_nlt hc) q)
theorem z_if_le_f {E : Ev} {own : String} {tb : Tb} {nL : Nat} {ret : Option FieldType} {pc nx : Nat} {lv : Lv} {st : List Value} {mm : Mem} {x : Int32} {off : Int} (B : Bx E own tb nL ret) (i : Nat) (h : tb[i]? = some (pc, .ifCond .le off, 3, nx)) (tgt : Nat) (ht : (pc : Int) + off = (tgt : Int)) (hc : 0 < x) (k : G E nL nx lv st mm) : G E nL pc lv (.int x :: st) mm := by
  obtain ⟨p, l, e, R, s, m, args, below, meth, c, Q, C, kc, ks, A, res, mo⟩ := E
  obtain ⟨hd, hn⟩ := Bx.dec B h
  subst hn
  intro H locs ls hP hS hl
  exact lv_if_le B.1 rfl hd ht (fun q => absurd q (fun z => absurd hc (i32_nlt2 z))) (fun _ => k H locs ls hP hS hl)
theorem z_icmp_le_t {E : Ev} {own : String} {tb : Tb} {nL : Nat} {ret : Option FieldType} {pc nx : Nat} {lv : Lv} {st : List Value} {mm : Mem} {x y : Int32} {off : Int} (B : Bx E own tb nL ret) (i : Nat) (h : tb[i]? = some (pc, .if_icmp .le off, 3, nx)) (tgt : Nat) (ht : (pc : Int) + off = (tgt : Int)) (hc : ¬ y < x) (k : G E nL tgt lv st mm) : G E nL pc lv (.int y :: .int x :: st) mm := by
  obtain ⟨p, l, e, R, s, m, args, below, meth, c, Q, C, kc, ks, A, res, mo⟩ := E
  obtain ⟨hd, hn⟩ := Bx.dec B h
  subst hn
  intro H locs ls hP hS hl
  exact lv_icmp_le B.1 rfl hd ht (fun _ => k H locs ls hP hS hl) (fun q => absurd (i32_nlt hc) q)
theorem z_icmp_le_f {E : Ev} {own : String} {tb : Tb} {nL : Nat} {ret : Option FieldType} {pc nx : Nat} {lv : Lv} {st : List Value} {mm : Mem} {x y : Int32} {off : Int} (B : Bx E own tb nL ret) (i : Nat) (h : tb[i]? = some (pc, .if_icmp .le off, 3, nx)) (tgt : Nat) (ht : (pc : Int) + off = (tgt : Int)) (hc : y < x) (k : G E nL nx lv st mm) : G E nL pc lv (.int y :: .int x :: st) mm := by
  obtain ⟨p, l, e, R, s, m, args, below, meth, c, Q, C, kc, ks, A, res, mo⟩ := E
  obtain ⟨hd, hn⟩ := Bx.dec B h
  subst hn
  intro H locs ls hP hS hl
  exact lv_icmp_le B.1 rfl hd ht (fun q => absurd q (fun z => absurd hc (i32_nlt2 z))) (fun _ => k H locs ls hP hS hl)
theorem z_ifnonnull {E : Ev} {own : String} {tb : Tb} {nL : Nat} {ret : Option FieldType} {pc nx : Nat} {lv : Lv} {st : List Value} {mm : Mem} {x : Nat} {off : Int} (B : Bx E own tb nL ret) (i : Nat) (h : tb[i]? = some (pc, .ifnonnull off, 3, nx)) (tgt : Nat) (ht : (pc : Int) + off = (tgt : Int)) (k : G E nL tgt lv st mm) : G E nL pc lv (.ref x :: st) mm := by
  obtain ⟨p, l, e, R, s, m, args, below, meth, c, Q, C, kc, ks, A, res, mo⟩ := E
  obtain ⟨hd, hn⟩ := Bx.dec B h
  subst hn
  intro H locs ls hP hS hl
  exact lv_ifnonnull B.1 rfl hd ht (k H locs ls hP hS hl)
theorem z_ifnull {E : Ev} {own : String} {tb : Tb} {nL : Nat} {ret : Option FieldType} {pc nx : Nat} {lv : Lv} {st : List Value} {mm : Mem} {x : Nat} {off : Int} (B : Bx E own tb nL ret) (i : Nat) (h : tb[i]? = some (pc, .ifnull off, 3, nx)) (k : G E nL nx lv st mm) : G E nL pc lv (.ref x :: st) mm := by
  obtain ⟨p, l, e, R, s, m, args, below, meth, c, Q, C, kc, ks, A, res, mo⟩ := E
  obtain ⟨hd, hn⟩ := Bx.dec B h
  subst hn
  intro H locs ls hP hS hl
  exact lv_ifnull B.1 rfl hd (k H locs ls hP hS hl)
theorem z_tswi {E : Ev} {own : String} {tb : Tb} {nL : Nat} {ret : Option FieldType} {pc nx : Nat} {lv : Lv} {st : List Value} {mm : Mem} {dflt lo hi : Int} {offs : Array Int} {len : Nat} {x : Int32} (B : Bx E own tb nL ret) (i : Nat) (h : tb[i]? = some (pc, .tableswitch dflt lo hi offs, len, nx)) (n : Int) (off : Int) (tgt : Nat) (hx : x.toInt = n) (h1 : lo ≤ n ∧ n ≤ hi) (ho : offs[(n - lo).toNat]? = some off) (ht : (pc : Int) + off = (tgt : Int)) (k : G E nL tgt lv st mm) : G E nL pc lv (.int x :: st) mm := by
  obtain ⟨p, l, e, R, s, m, args, below, meth, c, Q, C, kc, ks, A, res, mo⟩ := E
  obtain ⟨hd, hn⟩ := Bx.dec B h
  subst hn
  intro H locs ls hP hS hl
  subst hx
  exact lv_tableIn B.1 rfl hd (by omega) (by omega) ho ht (k H locs ls hP hS hl)
theorem z_tswo {E : Ev} {own : String} {tb : Tb} {nL : Nat} {ret : Option FieldType} {pc nx : Nat} {lv : Lv} {st : List Value} {mm : Mem} {dflt lo hi : Int} {offs : Array Int} {len : Nat} {x : Int32} (B : Bx E own tb nL ret) (i : Nat) (h : tb[i]? = some (pc, .tableswitch dflt lo hi offs, len, nx)) (tgt : Nat) (hx : x.toInt < lo ∨ hi < x.toInt) (ht : (pc : Int) + dflt = (tgt : Int)) (k : G E nL tgt lv st mm) : G E nL pc lv (.int x :: st) mm := by
  obtain ⟨p, l, e, R, s, m, args, below, meth, c, Q, C, kc, ks, A, res, mo⟩ := E
  obtain ⟨hd, hn⟩ := Bx.dec B h
  subst hn
  intro H locs ls hP hS hl
  exact lv_tableOut B.1 rfl hd hx ht (k H locs ls hP hS hl)
theorem z_geti {E : Ev} {own : String} {tb : Tb} {nL : Nat} {ret : Option FieldType} {pc nx : Nat} {lv : Lv} {st : List Value} {mm : Mem} {n : Nat} (ci kf q : Nat) (B : Bx E own tb nL ret) (i : Nat) (h : tb[i]? = some (pc, .getfield n, 3, nx)) (hq : Ob q ci) (hr : rfk ci kf q = none) {rn nm d : String} (hw : Cond.fieldLink own n rn nm d ∈ TW) (hf : zfl ci kf = some (rn, nm, d)) (k : G E nL nx lv (.int (mm q kf) :: st) mm) : G E nL pc lv (.ref q :: st) mm := by
  obtain ⟨p, l, e, R, s, m, args, below, meth, c, Q, C, kc, ks, A, res, mo⟩ := E
  obtain ⟨hd, hn⟩ := Bx.dec B h
  subst hn
  intro H locs ls hP hS hl
  exact zgetf B hP hq hd hw hf (v := .int (mm q kf)) (by unfold fvv; rw [hr]) (k H locs ls hP hS hl)
theorem z_getr {E : Ev} {own : String} {tb : Tb} {nL : Nat} {ret : Option FieldType} {pc nx : Nat} {lv : Lv} {st : List Value} {mm : Mem} {n : Nat} (ci kf q : Nat) {q2 : Nat} (B : Bx E own tb nL ret) (i : Nat) (h : tb[i]? = some (pc, .getfield n, 3, nx)) (hq : Ob q ci) (hr : rfk ci kf q = some q2) {rn nm d : String} (hw : Cond.fieldLink own n rn nm d ∈ TW) (hf : zfl ci kf = some (rn, nm, d)) (k : G E nL nx lv (.ref q2 :: st) mm) : G E nL pc lv (.ref q :: st) mm := by
  obtain ⟨p, l, e, R, s, m, args, below, meth, c, Q, C, kc, ks, A, res, mo⟩ := E
  obtain ⟨hd, hn⟩ := Bx.dec B h
  subst hn
  intro H locs ls hP hS hl
  exact zgetf B hP hq hd hw hf (v := .ref (C.1 q2)) (by unfold fvv; rw [hr]) (k H locs ls hP hS hl)
theorem z_puti {E : Ev} {own : String} {tb : Tb} {nL : Nat} {ret : Option FieldType} {pc nx : Nat} {lv : Lv} {st : List Value} {mm : Mem} {n : Nat} (ci kf q : Nat) {v : Int32} (B : Bx E own tb nL ret) (i : Nat) (h : tb[i]? = some (pc, .putfield n, 3, nx)) (hq : Ob q ci) (hr : rfk ci kf q = none) {rn nm d : String} (hw : Cond.fieldLink own n rn nm d ∈ TW) (hf : zfl ci kf = some (rn, nm, d)) {ty : FieldType} (hd0 : parseFieldDescriptor d = some ty) (hfin : zfin ci kf = false) (hv : narrow ty (.int v) = .int v) (hfit : fits ty (.int v) = true) (k : G E nL nx lv st (up2 mm q kf v)) : G E nL pc lv (.int v :: .ref q :: st) mm := by
  obtain ⟨p, l, e, R, s, m, args, below, meth, c, Q, C, kc, ks, A, res, mo⟩ := E
  obtain ⟨hd, hn⟩ := Bx.dec B h
  subst hn
  intro H locs ls hP hS hl
  exact zputf B hP hS hq hr hd hw hf hd0 hfin hv hfit (fun H1 locs1 hP1 hS1 => k H1 locs1 ls hP1 hS1 hl)
theorem z_iald {E : Ev} {own : String} {tb : Tb} {nL : Nat} {ret : Option FieldType} {pc nx : Nat} {lv : Lv} {st : List Value} {mm : Mem} {q : Nat} {x : Int32} (B : Bx E own tb nL ret) (i : Nat) (h : tb[i]? = some (pc, .iaload, 1, nx)) (hq : Ob q 8) (hx : inb x (ln q) = true) (k : G E nL nx lv (.int (mm q x.toNatClampNeg) :: st) mm) : G E nL pc lv (.int x :: .ref q :: st) mm := by
  obtain ⟨p, l, e, R, s, m, args, below, meth, c, Q, C, kc, ks, A, res, mo⟩ := E
  obtain ⟨hd, hn⟩ := Bx.dec B h
  subst hn
  intro H locs ls hP hS hl
  exact va_iald B.1 rfl B.K hP (q - 14) 0 (wl_arr hq) rfl (inb_in hx) hd (k H locs ls hP hS hl)
theorem z_iast {E : Ev} {own : String} {tb : Tb} {nL : Nat} {ret : Option FieldType} {pc nx : Nat} {lv : Lv} {st : List Value} {mm : Mem} {q : Nat} {x v : Int32} (B : Bx E own tb nL ret) (i : Nat) (h : tb[i]? = some (pc, .iastore, 1, nx)) (hq : Ob q 8) (hx : inb x (ln q) = true) (k : G E nL nx lv st (up2 mm q x.toNatClampNeg v)) : G E nL pc lv (.int v :: .int x :: .ref q :: st) mm := by
  obtain ⟨p, l, e, R, s, m, args, below, meth, c, Q, C, kc, ks, A, res, mo⟩ := E
  obtain ⟨hd, hn⟩ := Bx.dec B h
  subst hn
  intro H locs ls hP hS hl
  exact va_iast B.1 rfl B.K hP (wl_D B mm) hS (q - 14) 0 (wl_arr hq) rfl (inb_in hx) hd (fun H1 locs1 hP1 _ hS1 => k H1 locs1 ls (wl_setI hq _ _ ▸ hP1) hS1 hl)
theorem z_alen {E : Ev} {own : String} {tb : Tb} {nL : Nat} {ret : Option FieldType} {pc nx : Nat} {lv : Lv} {st : List Value} {mm : Mem} {q : Nat} (B : Bx E own tb nL ret) (i : Nat) (h : tb[i]? = some (pc, .arraylength, 1, nx)) (hq : Ob q 8) (k : G E nL nx lv (.int (nI (ln q)) :: st) mm) : G E nL pc lv (.ref q :: st) mm := by
  obtain ⟨p, l, e, R, s, m, args, below, meth, c, Q, C, kc, ks, A, res, mo⟩ := E
  obtain ⟨hd, hn⟩ := Bx.dec B h
  subst hn
  intro H locs ls hP hS hl
  exact va_alen B.1 rfl B.K hP (q - 14) 0 (wl_arr hq) (ty := .int) rfl rfl hd (k H locs ls hP hS hl)
theorem z_top {E : Ev} {nL pc : Nat} {lv : Lv} {st : List Value} {mm : Mem} {x y : Int32} (e : x = y) (k : G E nL pc lv (.int x :: st) mm) : G E nL pc lv (.int y :: st) mm := e ▸ k
theorem z_topl {E : Ev} {nL pc : Nat} {lv : Lv} {st : List Value} {mm : Mem} {x y : Int64} (e : x = y) (k : G E nL pc lv (.long x :: st) mm) : G E nL pc lv (.long y :: st) mm := e ▸ k
theorem z_mem {E : Ev} {nL pc : Nat} {lv : Lv} {st : List Value} {mm mm' : Mem} (e : mm = mm') (k : G E nL pc lv st mm) : G E nL pc lv st mm' := e ▸ k
theorem z_sub {E : Ev} {nL pc : Nat} {lv : Lv} {st : List Value} {mm : Mem} (lv' : Lv) (js : List Nat) (hj : js.filterMap (fun j => lv[j]?) = lv') (k : G E nL pc lv' st mm) : G E nL pc lv st mm := by
  obtain ⟨p, l, e, R, s, m, args, below, meth, c, Q, C, kc, ks, A, res, mo⟩ := E
  intro H locs ls hP hS hl
  exact k H locs ls hP hS (lv_sub hl js (lvs hj))
theorem z_callS {E : Ev} {own : String} {tb : Tb} {nL : Nat} {ret : Option FieldType} {pc nx : Nat} {lv : Lv} {st : List Value} {mm : Mem} {l : Launch} {C : Cfg} {R : Room} {y : MethodName} {bytes : ByteArray} {maxL n fr lo idx : Nat} {rt : Option FieldType} {r : Option Value} {mm2 : Mem} (as rest st2 : List Value) (X : Ec E l C R) (B : Bx E own tb nL ret) (i : Nat) (h : tb[i]? = some (pc, .invokestatic idx, 3, nx)) (hM : MI y bytes maxL rt n) (hw : Cond.methodLink own idx y ∈ TW ∧ Cond.static y ∈ TW) (hc : Ct l C y bytes maxL rt fr lo as mm r mm2) (hR : fr + 1 ≤ R.frames ∧ 8 + (maxL + 11) + lo ≤ R.locals) (hn : as.length = n) (hst : st = as.reverse ++ rest) (hW : (rest.map fun v => v.category).sum ≤ 8) (h2 : st2 = r.toList ++ rest) (k : G E nL nx lv st2 mm2) : G E nL pc lv st mm := by
  obtain ⟨p, l', e, R', s, m, args, below, meth, c, Q, C', kc, ks, A, res, mo⟩ := E
  obtain ⟨rfl, rfl, rfl⟩ := X
  obtain ⟨hd, hnx⟩ := Bx.dec B h
  obtain ⟨rfl, rfl⟩ := hnx
  subst hst
  subst h2
  intro H locs ls hP hS hl
  have hrl : (rest.map (cvv C')).map (fun v => v.category) = rest.map (fun v => v.category) := by rw [List.map_map]; congr 1; funext v; exact cvv_cat C' v
  have hk : ∀ (H1 : Heap) (locs1 : List Loc), va_P C'.2.1 zcls (wl C' mm2) H1 → va_S A s.heap H1 locs1 → W p l' e R' s m args below meth c H1 locs1 kc ks Q (F0 m (pc + 3) ls ((r.map (cvv C')).toList ++ rest.map (cvv C'))) := by
    intro H1 locs1 hP1 hS1
    have := k H1 locs1 ls hP1 hS1 hl
    rw [List.map_append] at this
    cases r <;> exact this
  refine zcall B hS (va_runS (As := as.map (cvv C')) (rest := rest.map (cvv C')) ⟨B.1, rfl, B.ml, B.hown, B.tw⟩ hc ⟨callB_of n B.tw (tw_good hM.1) rfl rfl rfl (B.tw _ hM.2.2.2) (B.tw _ hw.1) hM.2.2.1 hR, B.tw _ hw.2⟩ ⟨Wd_blind, Wd_call B hP hS as⟩ rfl (by rw [List.length_map]; exact hn) hl.1 (by rw [List.map_append, List.map_reverse]) (lv_room (by rw [hrl]; exact hW)) hd B.rm) hk
theorem z_callN {E : Ev} {own : String} {tb : Tb} {nL : Nat} {ret : Option FieldType} {pc nx : Nat} {lv : Lv} {st : List Value} {mm : Mem} {l : Launch} {C : Cfg} {R : Room} {y : MethodName} {bytes : ByteArray} {maxL n fr lo idx : Nat} {rt : Option FieldType} {r : Option Value} {mm2 : Mem} {host : String} (as rest st2 : List Value) (X : Ec E l C R) (B : Bx E own tb nL ret) (i : Nat) (h : tb[i]? = some (pc, .invokestatic idx, 3, nx)) (hM : MI y bytes maxL rt n) (hw : (own, idx, y, host) ∈ zns ∧ Cond.static y ∈ TW) (hc : Ct l C y bytes maxL rt fr lo as mm r mm2) (hR : fr + 1 ≤ R.frames ∧ 8 + (maxL + 11) + lo ≤ R.locals) (hn : as.length = n) (hst : st = as.reverse ++ rest) (hW : (rest.map fun v => v.category).sum ≤ 8) (h2 : st2 = r.toList ++ rest) (k : G E nL nx lv st2 mm2) : G E nL pc lv st mm := by
  obtain ⟨p, l', e, R', s, m, args, below, meth, c, Q, C', kc, ks, A, res, mo⟩ := E
  obtain ⟨rfl, rfl, rfl⟩ := X
  obtain ⟨hd, hnx⟩ := Bx.dec B h
  obtain ⟨rfl, rfl⟩ := hnx
  subst hst
  subst h2
  intro H locs ls hP hS hl
  have hrl : (rest.map (cvv C')).map (fun v => v.category) = rest.map (fun v => v.category) := by rw [List.map_map]; congr 1; funext v; exact cvv_cat C' v
  have hk : ∀ (H1 : Heap) (locs1 : List Loc), va_P C'.2.1 zcls (wl C' mm2) H1 → va_S A s.heap H1 locs1 → W p l' e R' s m args below meth c H1 locs1 kc ks Q (F0 m (pc + 3) ls ((r.map (cvv C')).toList ++ rest.map (cvv C'))) := by
    intro H1 locs1 hP1 hS1
    have := k H1 locs1 ls hP1 hS1 hl
    rw [List.map_append] at this
    cases r <;> exact this
  refine zcall B hS (va_runSN (As := as.map (cvv C')) (rest := rest.map (cvv C')) ⟨B.1, rfl, B.ml, B.hown, B.tw⟩ hc ⟨va_cnB n B.tw (tw_good hM.1) rfl rfl rfl (B.sx.1 _ hw.1) (B.tw _ hM.2.2.2) hM.2.2.1 hR, B.tw _ hw.2, trivial⟩ ⟨Wd_blind, Wd_call B hP hS as⟩ rfl (by rw [List.length_map]; exact hn) hl.1 (by rw [List.map_append, List.map_reverse]) (lv_room (by rw [hrl]; exact hW)) hd B.rm) hk
theorem z_callV {E : Ev} {own : String} {tb : Tb} {nL : Nat} {ret : Option FieldType} {pc nx : Nat} {lv : Lv} {st : List Value} {mm : Mem} {l : Launch} {C : Cfg} {R : Room} {y : MethodName} {bytes : ByteArray} {maxL n fr lo idx : Nat} {rt : Option FieldType} {r : Option Value} {mm2 : Mem} {x : vw_C} (q ci : Nat) (as rest st2 : List Value) (X : Ec E l C R) (B : Bx E own tb nL ret) (i : Nat) (h : tb[i]? = some (pc, .invokevirtual idx, 3, nx)) (hc8 : ci < 8) (hq : Ob q ci) (hx : zcls[ci]? = some x) (hxc : x.1 = y.cls) (hM : MI y bytes maxL rt n) (hw : Cond.methodLink own idx y ∈ TW ∧ Cond.instanceMethod y ∈ TW ∧ Cond.selects y.cls y y ∈ TW) (hc : Ct l C y bytes maxL rt fr lo (.ref q :: as) mm r mm2) (hR : fr + 1 ≤ R.frames ∧ 8 + (maxL + 11) + lo ≤ R.locals) (hn : as.length = n) (hst : st = as.reverse ++ .ref q :: rest) (hW : (rest.map fun v => v.category).sum ≤ 8) (h2 : st2 = r.toList ++ rest) (k : G E nL nx lv st2 mm2) : G E nL pc lv st mm := by
  obtain ⟨p, l', e, R', s, m, args, below, meth, c, Q, C', kc, ks, A, res, mo⟩ := E
  obtain ⟨rfl, rfl, rfl⟩ := X
  obtain ⟨hd, hnx⟩ := Bx.dec B h
  obtain ⟨rfl, rfl⟩ := hnx
  subst hst
  subst h2
  intro H locs ls hP hS hl
  have hrl : (rest.map (cvv C')).map (fun v => v.category) = rest.map (fun v => v.category) := by rw [List.map_map]; congr 1; funext v; exact cvv_cat C' v
  have hk : ∀ (H1 : Heap) (locs1 : List Loc), va_P C'.2.1 zcls (wl C' mm2) H1 → va_S A s.heap H1 locs1 → W p l' e R' s m args below meth c H1 locs1 kc ks Q (F0 m (pc + 3) ls ((r.map (cvv C')).toList ++ rest.map (cvv C'))) := by
    intro H1 locs1 hP1 hS1
    have := k H1 locs1 ls hP1 hS1 hl
    rw [List.map_append] at this
    cases r <;> exact this
  have hrec : ∃ cell : Cell, H[C'.1 q]? = some cell ∧ cell.vm.isStatics = false ∧ s.vm.findClass y.cls = some cell.cls := by
    rw [← hxc]
    exact va_recv B.K hP hx (by rw [wl_get (ob_lo hq (Nat.lt_succ_of_lt hc8)) hq.1, cel_obj hq.2 hc8])
  refine zcall B hS (va_runV (C := y.cls) (b := C'.1 q) (As := as.map (cvv C')) (rest := rest.map (cvv C')) ⟨B.1, rfl, B.ml, B.hown, B.tw⟩ hc ⟨callB_of n B.tw (tw_good hM.1) rfl rfl rfl (B.tw _ hM.2.2.2) (B.tw _ hw.1) hM.2.2.1 hR, B.tw _ hw.2.1, B.tw _ hw.2.2⟩ ⟨Wd_blind, hrec, Wd_call B hP hS (.ref q :: as)⟩ rfl (by rw [List.length_map]; exact hn) hl.1 (by rw [List.map_append, List.map_reverse]; rfl) (lv_room (by rw [hrl]; exact hW)) hd B.rm) hk
theorem z_mmax {E : Ev} {own : String} {tb : Tb} {nL : Nat} {ret : Option FieldType} {pc nx : Nat} {lv : Lv} {st : List Value} {mm : Mem} {l : Launch} {C : Cfg} {R : Room} {x y : Int32} {idx : Nat} (X : Ec E l C R) (B : Bx E own tb nL ret) (i : Nat) (h : tb[i]? = some (pc, .invokestatic idx, 3, nx)) (hw : Cond.methodLink own idx Lib.Math.max.name ∈ TW ∧ Cond.static Lib.Math.max.name ∈ TW ∧ Cond.initialized "java/lang/Math" ∈ TW ∧ Cond.code Lib.Math.max.name Lib.Math.max.code 2 (some .int) ∈ TW) (hR : 1 ≤ R.frames ∧ 21 ≤ R.locals) (hW : (st.map fun v => v.category).sum ≤ 8) (k : G E nL nx lv (.int (if x < y then y else x) :: st) mm) : G E nL pc lv (.int y :: .int x :: st) mm := by
  obtain ⟨p, l', e, R', s, m, args, below, meth, c, Q, C', kc, ks, A, res, mo⟩ := E
  obtain ⟨rfl, rfl, rfl⟩ := X
  obtain ⟨hd, hnx⟩ := Bx.dec B h
  obtain ⟨rfl, rfl⟩ := hnx
  intro H locs ls hP hS hl
  have hrl : (st.map (cvv C')).map (fun v => v.category) = st.map (fun v => v.category) := by rw [List.map_map]; congr 1; funext v; exact cvv_cat C' v
  exact va_mmax B.1 rfl (by rw [B.ml]; exact hl.1.symm) B.hown (B.tw _ hw.1) (B.tw _ hw.2.1) (B.tw _ hw.2.2.1) (B.tw _ hw.2.2.2) hR.1 (by rw [hrl]; omega) B.rm.1 B.rm.2 hd (k H locs ls hP hS hl)
theorem z_mmin {E : Ev} {own : String} {tb : Tb} {nL : Nat} {ret : Option FieldType} {pc nx : Nat} {lv : Lv} {st : List Value} {mm : Mem} {l : Launch} {C : Cfg} {R : Room} {x y : Int32} {idx : Nat} (X : Ec E l C R) (B : Bx E own tb nL ret) (i : Nat) (h : tb[i]? = some (pc, .invokestatic idx, 3, nx)) (hw : Cond.methodLink own idx Lib.Math.min.name ∈ TW ∧ Cond.static Lib.Math.min.name ∈ TW ∧ Cond.initialized "java/lang/Math" ∈ TW ∧ Cond.code Lib.Math.min.name Lib.Math.min.code 2 (some .int) ∈ TW) (hR : 1 ≤ R.frames ∧ 21 ≤ R.locals) (hW : (st.map fun v => v.category).sum ≤ 8) (k : G E nL nx lv (.int (if y < x then y else x) :: st) mm) : G E nL pc lv (.int y :: .int x :: st) mm := by
  obtain ⟨p, l', e, R', s, m, args, below, meth, c, Q, C', kc, ks, A, res, mo⟩ := E
  obtain ⟨rfl, rfl, rfl⟩ := X
  obtain ⟨hd, hnx⟩ := Bx.dec B h
  obtain ⟨rfl, rfl⟩ := hnx
  intro H locs ls hP hS hl
  have hrl : (st.map (cvv C')).map (fun v => v.category) = st.map (fun v => v.category) := by rw [List.map_map]; congr 1; funext v; exact cvv_cat C' v
  exact va_mmin B.1 rfl (by rw [B.ml]; exact hl.1.symm) B.hown (B.tw _ hw.1) (B.tw _ hw.2.1) (B.tw _ hw.2.2.1) (B.tw _ hw.2.2.2) hR.1 (by rw [hrl]; omega) B.rm.1 B.rm.2 hd (k H locs ls hP hS hl)
end
section
def nm {α β : Type} (a : α) (k : α → Option β) : Option β := k a
theorem nm_x {α β : Type} {a : α} {k : α → Option β} {y : β} (h : nm a k = some y) : ∃ x, x = a ∧ k x = some y := ⟨a, rfl, h⟩
def bd {α β : Type} (a : Option α) (k : α → Option β) : Option β := match a with
  | some x => k x
  | none => none
theorem bd_e {α β : Type} {a : Option α} {k : α → Option β} {y : β} (h : bd a k = some y) : ∃ x, a = some x ∧ k x = some y := by
  cases a with
  | none => cases h
  | some x => exact ⟨x, rfl, h⟩
def rdc {β : Type} (q : Nat) (i : Int32) (k : Option β) : Option β := if inb i (ln q) = true then k else none
theorem rdc_e {β : Type} {q : Nat} {i : Int32} {k : Option β} {y : β} (h : rdc q i k = some y) : inb i (ln q) = true ∧ k = some y := by
  unfold rdc at h
  by_cases hc : inb i (ln q) = true
  · exact ⟨hc, (if_pos hc).symm.trans h⟩
  · rw [if_neg hc] at h; cases h
def dvz {β : Type} (y : Int32) (k : Option β) : Option β := if y = 0 then none else k
theorem dvz_e {β : Type} {y : Int32} {k : Option β} {z : β} (h : dvz y k = some z) : ¬ y = 0 ∧ k = some z := by
  unfold dvz at h
  by_cases hc : y = 0
  · rw [if_pos hc] at h; cases h
  · exact ⟨hc, (if_neg hc).symm.trans h⟩
def bok {β : Type} (v : Int32) (k : Option β) : Option β := if v = 0 ∨ v = 1 then k else none
theorem bok_e {β : Type} {v : Int32} {k : Option β} {z : β} (h : bok v k = some z) : (v = 0 ∨ v = 1) ∧ k = some z := by
  unfold bok at h
  by_cases hc : v = 0 ∨ v = 1
  · exact ⟨hc, (if_pos hc).symm.trans h⟩
  · rw [if_neg hc] at h; cases h
theorem bok_n {v : Int32} (h : v = 0 ∨ v = 1) : narrow .boolean (.int v) = .int v := by
  rcases h with rfl | rfl <;> decide
def mni (x y : Int32) : Int32 := if y < x then y else x
def mxi (x y : Int32) : Int32 := if x < y then y else x
def FU : Nat := 20000
theorem tsw_ne {x : Int32} {n : Int} {k : Int32} (h : ¬ x = k) (hk : k.toInt = n) : x.toInt ≠ n := fun e => h (Int32.toInt_inj.mp (e.trans hk.symm))
theorem tsw_out4 {x : Int32} (h0 : ¬ x = 0) (h1 : ¬ x = 1) (h2 : ¬ x = 2) (h3 : ¬ x = 3) : x.toInt < 0 ∨ 3 < x.toInt := by
  have g0 := tsw_ne (n := 0) h0 (by decide)
  have g1 := tsw_ne (n := 1) h1 (by decide)
  have g2 := tsw_ne (n := 2) h2 (by decide)
  have g3 := tsw_ne (n := 3) h3 (by decide)
  omega
theorem tsw_out5 {x : Int32} (h0 : ¬ x = 0) (h1 : ¬ x = 1) (h2 : ¬ x = 2) (h3 : ¬ x = 3) (h4 : ¬ x = 4) : x.toInt < 0 ∨ 4 < x.toInt := by
  have g0 := tsw_ne (n := 0) h0 (by decide)
  have g1 := tsw_ne (n := 1) h1 (by decide)
  have g2 := tsw_ne (n := 2) h2 (by decide)
  have g3 := tsw_ne (n := 3) h3 (by decide)
  have g4 := tsw_ne (n := 4) h4 (by decide)
  omega
theorem tsw_out6 {x : Int32} (h0 : ¬ x = 0) (h1 : ¬ x = 1) (h2 : ¬ x = 2) (h3 : ¬ x = 3) (h4 : ¬ x = 4) (h5 : ¬ x = 5) : x.toInt < 0 ∨ 5 < x.toInt := by
  have g0 := tsw_ne (n := 0) h0 (by decide)
  have g1 := tsw_ne (n := 1) h1 (by decide)
  have g2 := tsw_ne (n := 2) h2 (by decide)
  have g3 := tsw_ne (n := 3) h3 (by decide)
  have g4 := tsw_ne (n := 4) h4 (by decide)
  have g5 := tsw_ne (n := 5) h5 (by decide)
  omega
theorem tsw_out7 {x : Int32} (h0 : ¬ x = 0) (h1 : ¬ x = 1) (h2 : ¬ x = 2) (h3 : ¬ x = 3) (h4 : ¬ x = 4) (h5 : ¬ x = 5) (h6 : ¬ x = 6) : x.toInt < 0 ∨ 6 < x.toInt := by
  have g0 := tsw_ne (n := 0) h0 (by decide)
  have g1 := tsw_ne (n := 1) h1 (by decide)
  have g2 := tsw_ne (n := 2) h2 (by decide)
  have g3 := tsw_ne (n := 3) h3 (by decide)
  have g4 := tsw_ne (n := 4) h4 (by decide)
  have g5 := tsw_ne (n := 5) h5 (by decide)
  have g6 := tsw_ne (n := 6) h6 (by decide)
  omega
theorem obx_0_0 : ∀ c, c < NC → kd c = 0 → (c + 1 < NC ∧ kd (c + 1) = 1) := by decide +kernel
theorem obf_0_0 {c : Nat} (h : Ob c 0) : Ob (c + 1) 1 := obx_0_0 c h.1 h.2
theorem obx_0_1 : ∀ c, c < NC → kd c = 0 → (c + 20 < NC ∧ kd (c + 20) = 8) := by decide +kernel
theorem obf_0_1 {c : Nat} (h : Ob c 0) : Ob (c + 20) 8 := obx_0_1 c h.1 h.2
theorem obx_0_2 : ∀ c, c < NC → kd c = 0 → (c + 21 < NC ∧ kd (c + 21) = 8) := by decide +kernel
theorem obf_0_2 {c : Nat} (h : Ob c 0) : Ob (c + 21) 8 := obx_0_2 c h.1 h.2
theorem obx_0_3 : ∀ c, c < NC → kd c = 0 → (c + 22 < NC ∧ kd (c + 22) = 8) := by decide +kernel
theorem obf_0_3 {c : Nat} (h : Ob c 0) : Ob (c + 22) 8 := obx_0_3 c h.1 h.2
theorem obx_0_4 : ∀ c, c < NC → kd c = 0 → (c + 23 < NC ∧ kd (c + 23) = 8) := by decide +kernel
theorem obf_0_4 {c : Nat} (h : Ob c 0) : Ob (c + 23) 8 := obx_0_4 c h.1 h.2
theorem obx_0_5 : ∀ c, c < NC → kd c = 0 → (c + 24 < NC ∧ kd (c + 24) = 8) := by decide +kernel
theorem obf_0_5 {c : Nat} (h : Ob c 0) : Ob (c + 24) 8 := obx_0_5 c h.1 h.2
theorem obx_0_6 : ∀ c, c < NC → kd c = 0 → (c + 25 < NC ∧ kd (c + 25) = 8) := by decide +kernel
theorem obf_0_6 {c : Nat} (h : Ob c 0) : Ob (c + 25) 8 := obx_0_6 c h.1 h.2
theorem obx_0_7 : ∀ c, c < NC → kd c = 0 → (c + 26 < NC ∧ kd (c + 26) = 8) := by decide +kernel
theorem obf_0_7 {c : Nat} (h : Ob c 0) : Ob (c + 26) 8 := obx_0_7 c h.1 h.2
theorem obx_0_8 : ∀ c, c < NC → kd c = 0 → (c + 27 < NC ∧ kd (c + 27) = 8) := by decide +kernel
theorem obf_0_8 {c : Nat} (h : Ob c 0) : Ob (c + 27) 8 := obx_0_8 c h.1 h.2
theorem obx_0_9 : ∀ c, c < NC → kd c = 0 → (c + 28 < NC ∧ kd (c + 28) = 8) := by decide +kernel
theorem obf_0_9 {c : Nat} (h : Ob c 0) : Ob (c + 28) 8 := obx_0_9 c h.1 h.2
theorem obx_1_0 : ∀ c, c < NC → kd c = 1 → (c + 1 < NC ∧ kd (c + 1) = 5) := by decide +kernel
theorem obf_1_0 {c : Nat} (h : Ob c 1) : Ob (c + 1) 5 := obx_1_0 c h.1 h.2
theorem obx_1_1 : ∀ c, c < NC → kd c = 1 → (c + 8 < NC ∧ kd (c + 8) = 2) := by decide +kernel
theorem obf_1_1 {c : Nat} (h : Ob c 1) : Ob (c + 8) 2 := obx_1_1 c h.1 h.2
theorem obx_2_2 : ∀ c, c < NC → kd c = 2 → (c + 1 < NC ∧ kd (c + 1) = 8) := by decide +kernel
theorem obf_2_2 {c : Nat} (h : Ob c 2) : Ob (c + 1) 8 := obx_2_2 c h.1 h.2
theorem obx_2_3 : ∀ c, c < NC → kd c = 2 → (c + 2 < NC ∧ kd (c + 2) = 8) := by decide +kernel
theorem obf_2_3 {c : Nat} (h : Ob c 2) : Ob (c + 2) 8 := obx_2_3 c h.1 h.2
theorem obx_2_4 : ∀ c, c < NC → kd c = 2 → (c + 3 < NC ∧ kd (c + 3) = 8) := by decide +kernel
theorem obf_2_4 {c : Nat} (h : Ob c 2) : Ob (c + 3) 8 := obx_2_4 c h.1 h.2
theorem obx_2_5 : ∀ c, c < NC → kd c = 2 → (c + 4 < NC ∧ kd (c + 4) = 8) := by decide +kernel
theorem obf_2_5 {c : Nat} (h : Ob c 2) : Ob (c + 4) 8 := obx_2_5 c h.1 h.2
theorem obx_2_6 : ∀ c, c < NC → kd c = 2 → (c + 5 < NC ∧ kd (c + 5) = 8) := by decide +kernel
theorem obf_2_6 {c : Nat} (h : Ob c 2) : Ob (c + 5) 8 := obx_2_6 c h.1 h.2
theorem obx_2_7 : ∀ c, c < NC → kd c = 2 → (c + 6 < NC ∧ kd (c + 6) = 8) := by decide +kernel
theorem obf_2_7 {c : Nat} (h : Ob c 2) : Ob (c + 6) 8 := obx_2_7 c h.1 h.2
theorem obx_2_8 : ∀ c, c < NC → kd c = 2 → (c + 7 < NC ∧ kd (c + 7) = 8) := by decide +kernel
theorem obf_2_8 {c : Nat} (h : Ob c 2) : Ob (c + 7) 8 := obx_2_8 c h.1 h.2
theorem obx_2_9 : ∀ c, c < NC → kd c = 2 → (c + 8 < NC ∧ kd (c + 8) = 8) := by decide +kernel
theorem obf_2_9 {c : Nat} (h : Ob c 2) : Ob (c + 8) 8 := obx_2_9 c h.1 h.2
theorem obx_2_10 : ∀ c, c < NC → kd c = 2 → (c + 9 < NC ∧ kd (c + 9) = 8) := by decide +kernel
theorem obf_2_10 {c : Nat} (h : Ob c 2) : Ob (c + 9) 8 := obx_2_10 c h.1 h.2
theorem obx_2_11 : ∀ c, c < NC → kd c = 2 → (c + 10 < NC ∧ kd (c + 10) = 8) := by decide +kernel
theorem obf_2_11 {c : Nat} (h : Ob c 2) : Ob (c + 10) 8 := obx_2_11 c h.1 h.2
theorem obx_5_1 : ∀ c, c < NC → kd c = 5 → (c + 1 < NC ∧ kd (c + 1) = 8) := by decide +kernel
theorem obf_5_1 {c : Nat} (h : Ob c 5) : Ob (c + 1) 8 := obx_5_1 c h.1 h.2
theorem obx_5_2 : ∀ c, c < NC → kd c = 5 → (c + 2 < NC ∧ kd (c + 2) = 8) := by decide +kernel
theorem obf_5_2 {c : Nat} (h : Ob c 5) : Ob (c + 2) 8 := obx_5_2 c h.1 h.2
theorem obx_5_3 : ∀ c, c < NC → kd c = 5 → (c + 3 < NC ∧ kd (c + 3) = 8) := by decide +kernel
theorem obf_5_3 {c : Nat} (h : Ob c 5) : Ob (c + 3) 8 := obx_5_3 c h.1 h.2
theorem obx_5_4 : ∀ c, c < NC → kd c = 5 → (c + 4 < NC ∧ kd (c + 4) = 8) := by decide +kernel
theorem obf_5_4 {c : Nat} (h : Ob c 5) : Ob (c + 4) 8 := obx_5_4 c h.1 h.2
theorem obx_5_5 : ∀ c, c < NC → kd c = 5 → (c + 5 < NC ∧ kd (c + 5) = 8) := by decide +kernel
theorem obf_5_5 {c : Nat} (h : Ob c 5) : Ob (c + 5) 8 := obx_5_5 c h.1 h.2
theorem obx_5_6 : ∀ c, c < NC → kd c = 5 → (c + 6 < NC ∧ kd (c + 6) = 8) := by decide +kernel
theorem obf_5_6 {c : Nat} (h : Ob c 5) : Ob (c + 6) 8 := obx_5_6 c h.1 h.2
theorem ob_14 : Ob 14 6 := ⟨by decide, rfl⟩
theorem ob_15 : Ob 15 0 := ⟨by decide, rfl⟩
theorem ob_16 : Ob 16 1 := ⟨by decide, rfl⟩
theorem ob_17 : Ob 17 5 := ⟨by decide, rfl⟩
theorem ob_18 : Ob 18 8 := ⟨by decide, rfl⟩
theorem ob_19 : Ob 19 8 := ⟨by decide, rfl⟩
theorem ob_20 : Ob 20 8 := ⟨by decide, rfl⟩
theorem ob_21 : Ob 21 8 := ⟨by decide, rfl⟩
theorem ob_22 : Ob 22 8 := ⟨by decide, rfl⟩
theorem ob_23 : Ob 23 8 := ⟨by decide, rfl⟩
theorem ob_24 : Ob 24 2 := ⟨by decide, rfl⟩
theorem ob_25 : Ob 25 8 := ⟨by decide, rfl⟩
theorem ob_26 : Ob 26 8 := ⟨by decide, rfl⟩
theorem ob_27 : Ob 27 8 := ⟨by decide, rfl⟩
theorem ob_28 : Ob 28 8 := ⟨by decide, rfl⟩
theorem ob_29 : Ob 29 8 := ⟨by decide, rfl⟩
theorem ob_30 : Ob 30 8 := ⟨by decide, rfl⟩
theorem ob_31 : Ob 31 8 := ⟨by decide, rfl⟩
theorem ob_32 : Ob 32 8 := ⟨by decide, rfl⟩
theorem ob_33 : Ob 33 8 := ⟨by decide, rfl⟩
theorem ob_34 : Ob 34 8 := ⟨by decide, rfl⟩
theorem ob_35 : Ob 35 8 := ⟨by decide, rfl⟩
theorem ob_36 : Ob 36 8 := ⟨by decide, rfl⟩
theorem ob_37 : Ob 37 8 := ⟨by decide, rfl⟩
theorem ob_38 : Ob 38 8 := ⟨by decide, rfl⟩
theorem ob_39 : Ob 39 8 := ⟨by decide, rfl⟩
theorem ob_40 : Ob 40 8 := ⟨by decide, rfl⟩
theorem ob_41 : Ob 41 8 := ⟨by decide, rfl⟩
theorem ob_42 : Ob 42 8 := ⟨by decide, rfl⟩
theorem ob_43 : Ob 43 8 := ⟨by decide, rfl⟩
theorem ob_44 : Ob 44 0 := ⟨by decide, rfl⟩
theorem ob_45 : Ob 45 1 := ⟨by decide, rfl⟩
theorem ob_46 : Ob 46 5 := ⟨by decide, rfl⟩
theorem ob_47 : Ob 47 8 := ⟨by decide, rfl⟩
theorem ob_48 : Ob 48 8 := ⟨by decide, rfl⟩
theorem ob_49 : Ob 49 8 := ⟨by decide, rfl⟩
theorem ob_50 : Ob 50 8 := ⟨by decide, rfl⟩
theorem ob_51 : Ob 51 8 := ⟨by decide, rfl⟩
theorem ob_52 : Ob 52 8 := ⟨by decide, rfl⟩
theorem ob_53 : Ob 53 2 := ⟨by decide, rfl⟩
theorem ob_54 : Ob 54 8 := ⟨by decide, rfl⟩
theorem ob_55 : Ob 55 8 := ⟨by decide, rfl⟩
theorem ob_56 : Ob 56 8 := ⟨by decide, rfl⟩
theorem ob_57 : Ob 57 8 := ⟨by decide, rfl⟩
theorem ob_58 : Ob 58 8 := ⟨by decide, rfl⟩
theorem ob_59 : Ob 59 8 := ⟨by decide, rfl⟩
theorem ob_60 : Ob 60 8 := ⟨by decide, rfl⟩
theorem ob_61 : Ob 61 8 := ⟨by decide, rfl⟩
theorem ob_62 : Ob 62 8 := ⟨by decide, rfl⟩
theorem ob_63 : Ob 63 8 := ⟨by decide, rfl⟩
theorem ob_64 : Ob 64 8 := ⟨by decide, rfl⟩
theorem ob_65 : Ob 65 8 := ⟨by decide, rfl⟩
theorem ob_66 : Ob 66 8 := ⟨by decide, rfl⟩
theorem ob_67 : Ob 67 8 := ⟨by decide, rfl⟩
theorem ob_68 : Ob 68 8 := ⟨by decide, rfl⟩
theorem ob_69 : Ob 69 8 := ⟨by decide, rfl⟩
theorem ob_70 : Ob 70 8 := ⟨by decide, rfl⟩
theorem ob_71 : Ob 71 8 := ⟨by decide, rfl⟩
theorem ob_72 : Ob 72 8 := ⟨by decide, rfl⟩
theorem ob_73 : Ob 73 4 := ⟨by decide, rfl⟩
theorem ob_74 : Ob 74 3 := ⟨by decide, rfl⟩
theorem ob_75 : Ob 75 8 := ⟨by decide, rfl⟩
theorem ob_76 : Ob 76 1 := ⟨by decide, rfl⟩
theorem ob_77 : Ob 77 5 := ⟨by decide, rfl⟩
theorem ob_78 : Ob 78 8 := ⟨by decide, rfl⟩
theorem ob_79 : Ob 79 8 := ⟨by decide, rfl⟩
theorem ob_80 : Ob 80 8 := ⟨by decide, rfl⟩
theorem ob_81 : Ob 81 8 := ⟨by decide, rfl⟩
theorem ob_82 : Ob 82 8 := ⟨by decide, rfl⟩
theorem ob_83 : Ob 83 8 := ⟨by decide, rfl⟩
theorem ob_84 : Ob 84 2 := ⟨by decide, rfl⟩
theorem ob_85 : Ob 85 8 := ⟨by decide, rfl⟩
theorem ob_86 : Ob 86 8 := ⟨by decide, rfl⟩
theorem ob_87 : Ob 87 8 := ⟨by decide, rfl⟩
theorem ob_88 : Ob 88 8 := ⟨by decide, rfl⟩
theorem ob_89 : Ob 89 8 := ⟨by decide, rfl⟩
theorem ob_90 : Ob 90 8 := ⟨by decide, rfl⟩
theorem ob_91 : Ob 91 8 := ⟨by decide, rfl⟩
theorem ob_92 : Ob 92 8 := ⟨by decide, rfl⟩
theorem ob_93 : Ob 93 8 := ⟨by decide, rfl⟩
theorem ob_94 : Ob 94 8 := ⟨by decide, rfl⟩
theorem ob_95 : Ob 95 1 := ⟨by decide, rfl⟩
theorem ob_96 : Ob 96 5 := ⟨by decide, rfl⟩
theorem ob_97 : Ob 97 8 := ⟨by decide, rfl⟩
theorem ob_98 : Ob 98 8 := ⟨by decide, rfl⟩
theorem ob_99 : Ob 99 8 := ⟨by decide, rfl⟩
theorem ob_100 : Ob 100 8 := ⟨by decide, rfl⟩
theorem ob_101 : Ob 101 8 := ⟨by decide, rfl⟩
theorem ob_102 : Ob 102 8 := ⟨by decide, rfl⟩
theorem ob_103 : Ob 103 2 := ⟨by decide, rfl⟩
theorem ob_104 : Ob 104 8 := ⟨by decide, rfl⟩
theorem ob_105 : Ob 105 8 := ⟨by decide, rfl⟩
theorem ob_106 : Ob 106 8 := ⟨by decide, rfl⟩
theorem ob_107 : Ob 107 8 := ⟨by decide, rfl⟩
theorem ob_108 : Ob 108 8 := ⟨by decide, rfl⟩
theorem ob_109 : Ob 109 8 := ⟨by decide, rfl⟩
theorem ob_110 : Ob 110 8 := ⟨by decide, rfl⟩
theorem ob_111 : Ob 111 8 := ⟨by decide, rfl⟩
theorem ob_112 : Ob 112 8 := ⟨by decide, rfl⟩
theorem ob_113 : Ob 113 8 := ⟨by decide, rfl⟩
theorem ob_114 : Ob 114 1 := ⟨by decide, rfl⟩
theorem ob_115 : Ob 115 5 := ⟨by decide, rfl⟩
theorem ob_116 : Ob 116 8 := ⟨by decide, rfl⟩
theorem ob_117 : Ob 117 8 := ⟨by decide, rfl⟩
theorem ob_118 : Ob 118 8 := ⟨by decide, rfl⟩
theorem ob_119 : Ob 119 8 := ⟨by decide, rfl⟩
theorem ob_120 : Ob 120 8 := ⟨by decide, rfl⟩
theorem ob_121 : Ob 121 8 := ⟨by decide, rfl⟩
theorem ob_122 : Ob 122 2 := ⟨by decide, rfl⟩
theorem ob_123 : Ob 123 8 := ⟨by decide, rfl⟩
theorem ob_124 : Ob 124 8 := ⟨by decide, rfl⟩
theorem ob_125 : Ob 125 8 := ⟨by decide, rfl⟩
theorem ob_126 : Ob 126 8 := ⟨by decide, rfl⟩
theorem ob_127 : Ob 127 8 := ⟨by decide, rfl⟩
theorem ob_128 : Ob 128 8 := ⟨by decide, rfl⟩
theorem ob_129 : Ob 129 8 := ⟨by decide, rfl⟩
theorem ob_130 : Ob 130 8 := ⟨by decide, rfl⟩
theorem ob_131 : Ob 131 8 := ⟨by decide, rfl⟩
theorem ob_132 : Ob 132 8 := ⟨by decide, rfl⟩
end
section
theorem kp_keep {A0 A1 : Nat → Prop} {free : Addr → Prop} {H0 H : Heap} {locs L : List Loc} {st₀ t T' : State} (h0 : st₀.heap = H) (e1 : T'.heap = t.heap) (hS : va_S A0 H0 H locs) (hA : ∀ q, q < H.size → A1 q → A0 q) (hf : ∀ q, free q → A0 q) (hL : ∀ q ∈ L, free q.base) (hF : va_F A1 st₀ t) : H.size ≤ T'.heap.size ∧ (∀ q : Nat, q < H.size → ¬ A1 q → T'.heap[q]? = H[q]?) ∧ va_S A0 H0 T'.heap (locs ++ L) := by
  obtain ⟨hz, hk⟩ := hF
  rw [h0] at hz hk
  refine ⟨by rw [e1]; exact hz, fun q h1 h2 => by rw [e1]; exact hk q h1 h2, Nat.le_trans hS.1 (by rw [e1]; exact hz), fun q h1 h2 => ?_, fun q hq => ?_⟩
  · rw [e1, hk q (Nat.lt_of_lt_of_le h1 hS.1) (fun z => h2 (hA q (Nat.lt_of_lt_of_le h1 hS.1) z))]
    exact hS.2.1 q h1 h2
  · rcases List.mem_append.mp hq with h | h
    · exact hS.2.2 q h
    · exact hf _ (hL q h)
/-! making: worlds of cells that lie one behind another, from the address n on -/
def shv (n : Nat) : Value → Value
  | .ref a => .ref (n + a)
  | .null => .null
  | .int x => .int x
  | .long x => .long x
  | .float x => .float x
  | .double x => .double x
  | .retAddr x => .retAddr x
def she (n : Nat) : va_E → va_E
  | .inl a => .inl a
  | .inr o => .inr (o.1, o.2.map (shv n))
def wsn (n : Nat) (cs : List va_E) : va_W := cs.mapIdx (fun j e => (n + j, she n e))
abbrev En : Type := Program × Launch × Env × Room × State × MethodId × Array Value × List Frame × Method × Code × (State → Prop) × va_G × ClassId × ClassId × ClassId × Nat × Lv
abbrev tyn (cI cZ cJ : ClassId) : List (ClassId × FieldType) := [(cI, .int), (cZ, .object "java/lang/Object"), (cJ, .array .int)]
def Nx (U : State) : Prop := ∀ q ∈ zns, va_Nw (.methodLinkNest q.1 q.2.1 q.2.2.1 q.2.2.2) U
def GN : En → Nat → Nat → Lv → List Value → List va_E → Nat → Nat → Nat → Prop
  | (p, l, e, R, s, m, args, below, meth, c, Q, D, _, _, _, n, lr), nL, pc, lv, st, cs, len, kc, ks => ∀ (H : Heap) (locs : List Loc) (ls : Array Slot), cs.length = len → va_P D zcls (wsn n cs) H → H.size = n + cs.length → va_S (fun q => n ≤ q) s.heap H locs → lv_has ls nL (lr ++ lv.map (fun q => (q.1, shv n q.2))) → W p l e R s m args below meth c H locs kc ks Q (F0 m pc ls (st.map (shv n)))
def BN : En → String → Tb → Nat → Prop
  | (p, _, _, _, s, m, args, _, meth, c, _, D, cI, cZ, cJ, n, lr), own, tb, nL => p.tables.exec = Jvm.exec ∧ (∀ q ∈ tb, decode c.code q.1 = .ok (q.2.1, q.2.2.1) ∧ q.1 + q.2.2.1 = q.2.2.2) ∧ c.maxLocals = nL ∧ s.vm.findClass own = some m.cls ∧ (∀ w ∈ TW, w.before args s = true) ∧ va_K D zcls (tyn cI cZ cJ) s ∧ Nx s ∧ n ≤ s.heap.size ∧ meth.locks = false
def RN : En → Room → Prop
  | (_, _, _, R, _, _, _, _, _, _, _, _, _, _, _, _, _), R' => R = R'
def LN : En → Launch → va_G → ClassId → ClassId → ClassId → Prop
  | (_, l, _, _, _, _, _, _, _, _, _, D, cI, cZ, cJ, _, _), l', D', cI', cZ', cJ' => l = l' ∧ D = D' ∧ cI = cI' ∧ cZ = cZ' ∧ cJ = cJ'
def IN : En → Prop
  | (_, _, _, _, _, _, _, _, meth, _, _, _, _, _, _, _, _) => meth.name = "<init>"
theorem shv_cat (n : Nat) (v : Value) : (shv n v).category = v.category := by cases v <;> rfl
theorem wsn_get {n j : Nat} {cs : List va_E} {x : va_E} (h : cs[j]? = some x) : (wsn n cs)[j]? = some (n + j, she n x) := by
  unfold wsn
  rw [List.getElem?_mapIdx, h]
  rfl
theorem wsn_at {n k : Nat} {cs : List va_E} {q : Nat × va_E} (h : (wsn n cs)[k]? = some q) : ∃ x, cs[k]? = some x ∧ q = (n + k, she n x) := by
  unfold wsn at h
  rw [List.getElem?_mapIdx] at h
  cases hc : cs[k]? with
  | none => rw [hc] at h; cases h
  | some x => rw [hc] at h; exact ⟨x, rfl, (Option.some.inj h).symm⟩
theorem wsn_D (n : Nat) (cs : List va_E) : va_D (fun q => n ≤ q) (wsn n cs) := by
  refine ⟨fun i j x y hx hy hxy => ?_, fun k x hx => ?_⟩
  · obtain ⟨a, -, rfl⟩ := wsn_at hx
    obtain ⟨b, -, rfl⟩ := wsn_at hy
    have : n + i = n + j := hxy
    omega
  · obtain ⟨a, -, rfl⟩ := wsn_at hx
    exact Nat.le_add_right _ _
theorem wsn_app (n : Nat) (cs : List va_E) (x : va_E) : wsn n (cs ++ [x]) = wsn n cs ++ [(n + cs.length, she n x)] := by
  unfold wsn
  rw [List.mapIdx_append]
  simp
theorem wsn_set (n j : Nat) (cs : List va_E) (x : va_E) : (wsn n cs).set j (n + j, she n x) = wsn n (cs.set j x) := by
  apply List.ext_getElem?
  intro i
  unfold wsn
  rw [List.getElem?_mapIdx]
  by_cases hij : i = j
  · subst hij
    by_cases hl : i < cs.length
    · rw [List.getElem?_set_self (by rw [List.length_mapIdx]; exact hl), List.getElem?_set_self hl]
      rfl
    · rw [List.getElem?_eq_none (by rw [List.length_set, List.length_mapIdx]; omega), List.getElem?_eq_none (by rw [List.length_set]; omega)]
      rfl
  · rw [List.getElem?_set_ne (Ne.symm hij), List.getElem?_set_ne (Ne.symm hij), List.getElem?_mapIdx]
theorem shv_shv (n j : Nat) (v : Value) : shv n (shv j v) = shv (n + j) v := by
  cases v <;> simp [shv, Nat.add_assoc]
theorem she_she (n j : Nat) (x : va_E) : she n (she j x) = she (n + j) x := by
  cases x with
  | inl a => rfl
  | inr o =>
    simp only [she, List.map_map]
    congr 2
    apply List.map_congr_left
    intro v _
    exact shv_shv n j v
section NS
variable {p : Program} {l : Launch} {e : Env} {R : Room} {s : State} {m : MethodId} {args : Array Value} {below : List Frame} {meth : Method} {c : Code} {Q : State → Prop} {D : va_G} {cI cZ cJ : ClassId} {n : Nat} {lr : Lv} {ow : String} {tb : Tb} {nL : Nat}
variable {pc nx len : Nat} {ins : Instr}
theorem BN.dec (B : BN (p, l, e, R, s, m, args, below, meth, c, Q, D, cI, cZ, cJ, n, lr) ow tb nL) {i : Nat} (h : tb[i]? = some (pc, ins, len, nx)) : decode c.code pc = .ok (ins, len) ∧ pc + len = nx := by
  have h1 : ∀ q ∈ tb, decode c.code q.1 = .ok (q.2.1, q.2.2.1) ∧ q.1 + q.2.2.1 = q.2.2.2 := B.2.1
  exact h1 (pc, ins, len, nx) (List.mem_of_getElem? h)
theorem BN.ml (B : BN (p, l, e, R, s, m, args, below, meth, c, Q, D, cI, cZ, cJ, n, lr) ow tb nL) : c.maxLocals = nL := B.2.2.1
theorem BN.hown (B : BN (p, l, e, R, s, m, args, below, meth, c, Q, D, cI, cZ, cJ, n, lr) ow tb nL) : s.vm.findClass ow = some m.cls := B.2.2.2.1
theorem BN.tw (B : BN (p, l, e, R, s, m, args, below, meth, c, Q, D, cI, cZ, cJ, n, lr) ow tb nL) : ∀ w ∈ TW, w.before args s = true := B.2.2.2.2.1
theorem BN.K (B : BN (p, l, e, R, s, m, args, below, meth, c, Q, D, cI, cZ, cJ, n, lr) ow tb nL) : va_K D zcls (tyn cI cZ cJ) s := B.2.2.2.2.2.1
theorem BN.hnx (B : BN (p, l, e, R, s, m, args, below, meth, c, Q, D, cI, cZ, cJ, n, lr) ow tb nL) : Nx s := B.2.2.2.2.2.2.1
theorem BN.hn (B : BN (p, l, e, R, s, m, args, below, meth, c, Q, D, cI, cZ, cJ, n, lr) ow tb nL) : n ≤ s.heap.size := B.2.2.2.2.2.2.2.1
theorem BN.lk (B : BN (p, l, e, R, s, m, args, below, meth, c, Q, D, cI, cZ, cJ, n, lr) ow tb nL) : meth.locks = false := B.2.2.2.2.2.2.2.2
end NS
theorem lvmn {n : Nat} {lr lv : Lv} {j q : Nat} {v : Value} (h : lv[j]? = some (q, v)) : (lr ++ lv.map (fun q => (q.1, shv n q.2)))[lr.length + j]? = some (q, shv n v) := by
  rw [List.getElem?_append_right (Nat.le_add_right _ _), Nat.add_sub_cancel_left, List.getElem?_map, h]
  rfl
theorem zs1_mapn {n : Nat} {ls : Array Slot} {nL : Nat} {lr lv : Lv} {i : Nat} {v : Value} (hlr : ∀ q ∈ lr, (!(q.1 == i) && !(q.1 + 1 == i && q.2.category == 2)) = true) (h : lv_has ls nL ((i, shv n v) :: (lr ++ lv.map (fun q => (q.1, shv n q.2))).filter (fun q => !(q.1 == i) && !(q.1 + 1 == i && q.2.category == 2)))) : lv_has ls nL (lr ++ (zs1 lv i v).map (fun q => (q.1, shv n q.2))) := by
  refine ⟨h.1, h.2.1, fun q hq => h.2.2 q ?_⟩
  rcases List.mem_append.mp hq with h1 | h1
  · exact List.mem_cons_of_mem _ (List.mem_filter.mpr ⟨List.mem_append_left _ h1, hlr q h1⟩)
  · obtain ⟨x, hx, rfl⟩ := List.mem_map.mp h1
    unfold zs1 at hx
    rcases List.mem_cons.mp hx with e | e
    · rw [e]; exact List.mem_cons_self
    · obtain ⟨g1, g2⟩ := List.mem_filter.mp e
      refine List.mem_cons_of_mem _ (List.mem_filter.mpr ⟨List.mem_append_right _ (List.mem_map.mpr ⟨x, g1, rfl⟩), ?_⟩)
      simpa only [shv_cat] using g2
def LR : En → Nat → Prop
  | (_, _, _, _, _, _, _, _, _, _, _, _, _, _, _, _, lr), i => ∀ q ∈ lr, (!(q.1 == i) && !(q.1 + 1 == i && q.2.category == 2)) = true
/-- a constructor's contract -/
def CtN (l : Launch) (D : va_G) (cI cZ cJ : ClassId) (y : MethodName) (bytes : ByteArray) (maxL fr lo : Nat) (e0 : va_E) (blk : List va_E) (mc ms : Nat) : Prop := ∀ h0 : Nat,
  Met l y (Cond.code y bytes maxL none :: TW) ({ frames := fr, cells := mc, slots := ms, locals := lo }) (va_Pc [.ref h0] (fun U => U.heap.size = h0 + 1 ∧ va_P D zcls (wsn h0 [e0]) U.heap ∧ va_K D zcls (tyn cI cZ cJ) U ∧ Nx U)) (fun _ st oc t => oc = .returned none ∧ va_P D zcls (wsn h0 blk) t.heap ∧ t.heap.size = h0 + blk.length ∧ va_F (fun q => h0 ≤ q) st t) mc ms (fun q => h0 ≤ q)
def RtN : En → List va_E → Nat → Nat → Prop
  | (_, _, _, _, s, _, args, below, meth, _, Q, D, _, _, _, n, _), blk, mc, ms => Q = MQ below (fun _ st oc t => oc = .returned none ∧ va_P D zcls (wsn n blk) t.heap ∧ t.heap.size = n + blk.length ∧ va_F (fun q => n ≤ q) st t) args s mc ms (fun q => n ≤ q) ∧ meth.sig.returnType = none
theorem CtN.of {l : Launch} {D : va_G} {cI cZ cJ : ClassId} {y : MethodName} {bytes : ByteArray} {nL fr lo mc ms : Nat} {e0 : va_E} {blk : List va_E} {tb : Tb} (hy : plainName y.cls = true) (hcode : Cond.code y bytes nL none ∈ TW) (hnm : y.name = "<init>") (htb : ∀ q ∈ tb, decode bytes q.1 = .ok (q.2.1, q.2.2.1) ∧ q.1 + q.2.2.1 = q.2.2.2) (hlen : 1 ≤ nL)
    (body : ∀ E : En, BN E y.cls tb nL → RtN E blk mc ms → RN E ({ frames := fr, cells := mc, slots := ms, locals := lo } : Room) → LN E l D cI cZ cJ → IN E → GN E nL 0 [(0, .ref 0)] [] [e0] 1 0 0) : CtN l D cI cZ cJ y bytes nL fr lo e0 blk mc ms := by
  intro h0
  refine Met.ofW (cc := bytes) (maxL := nL) (ret := none) hy rfl ?_
  intro p e s m args below meth c s₁ B hml hv
  obtain ⟨rfl, hsz, hP, hK, hN⟩ := hv
  have hts : ∀ w ∈ TW, w.before (([.ref h0] : List Value)).toArray s = true := fun w hw => atoms_spec (ws := Cond.code y bytes nL none :: TW) B.pre w (List.mem_cons_of_mem _ hw)
  have hin : meth.name = "<init>" := (name_of_methodNamed B.named B.method).1.trans hnm
  have hG := body (p, l, e, ({ frames := fr, cells := mc, slots := ms, locals := lo } : Room), s, m, (([.ref h0] : List Value)).toArray, below, meth, c, MQ below (fun _ st oc t => oc = .returned none ∧ va_P D zcls (wsn h0 blk) t.heap ∧ t.heap.size = h0 + blk.length ∧ va_F (fun q => h0 ≤ q) st t) (([.ref h0] : List Value)).toArray s mc ms (fun q => h0 ≤ q), D, cI, cZ, cJ, h0, [])
    ⟨B.exec, fun q hq => by rw [B.bytes]; exact htb q hq, hml, findClass_of_methodNamed B.named, hts, hK, hN, by rw [hsz]; exact Nat.le_succ _, B.notSynchronized⟩ ⟨rfl, B.returns⟩ rfl ⟨rfl, rfl, rfl, rfl, rfl⟩ hin
  have hl := lv_entry [.ref h0] (n := nL) hlen
  rw [lg_entry_eq]
  generalize (lg_sl [.ref h0] ++ List.replicate (nL - (lg_sl [.ref h0]).length) Slot.unset).toArray = ls at hl ⊢
  exact hG s.heap [] ls rfl hP (by rw [hsz]; rfl) va_S.rf hl
theorem n_aload_n {E : En} {ow : String} {tb : Tb} {nL pc nx len kc ks : Nat} {lv : Lv} {st : List Value} {cs : List va_E} {x : Nat} {kk : Fin 4} (B : BN E ow tb nL) (i : Nat) (h : tb[i]? = some (pc, .aload_n kk, 1, nx)) (q j : Nat) (hq : (kk : Nat) = q) (hj : lv[j]? = some (q, .ref x)) (k : GN E nL nx lv (.ref x :: st) cs len kc ks) : GN E nL pc lv st cs len kc ks := by
  obtain ⟨p, l, e, R, s, m, args, below, meth, c, Q, D, cI, cZ, cJ, n, lr⟩ := E
  obtain ⟨hd, hn⟩ := BN.dec B h
  subst hn
  intro H locs ls hlen hP hz hS hl
  exact lv_aload_n B.1 rfl hd hq (lv_at hl (lr.length + j) (lvmn hj)) (k H locs ls hlen hP hz hS hl)
theorem n_iconst {E : En} {ow : String} {tb : Tb} {nL pc nx len kc ks : Nat} {lv : Lv} {st : List Value} {cs : List va_E} {z : Int} (v : Int32) (B : BN E ow tb nL) (i : Nat) (h : tb[i]? = some (pc, .iconst z, 1, nx)) (hv : Int32.ofInt z = v) (k : GN E nL nx lv (.int v :: st) cs len kc ks) : GN E nL pc lv st cs len kc ks := by
  obtain ⟨p, l, e, R, s, m, args, below, meth, c, Q, D, cI, cZ, cJ, n, lr⟩ := E
  obtain ⟨hd, hn⟩ := BN.dec B h
  subst hn
  intro H locs ls hlen hP hz hS hl
  exact lv_iconst B.1 rfl hd hv (k H locs ls hlen hP hz hS hl)
theorem n_bipush {E : En} {ow : String} {tb : Tb} {nL pc nx len kc ks : Nat} {lv : Lv} {st : List Value} {cs : List va_E} {z : Int} (v : Int32) (B : BN E ow tb nL) (i : Nat) (h : tb[i]? = some (pc, .bipush z, 2, nx)) (hv : (Int8.ofInt z).toInt32 = v) (k : GN E nL nx lv (.int v :: st) cs len kc ks) : GN E nL pc lv st cs len kc ks := by
  obtain ⟨p, l, e, R, s, m, args, below, meth, c, Q, D, cI, cZ, cJ, n, lr⟩ := E
  obtain ⟨hd, hn⟩ := BN.dec B h
  subst hn
  intro H locs ls hlen hP hz hS hl
  exact lv_bipush B.1 rfl hd hv (k H locs ls hlen hP hz hS hl)
theorem n_sipush {E : En} {ow : String} {tb : Tb} {nL pc nx len kc ks : Nat} {lv : Lv} {st : List Value} {cs : List va_E} {z : Int} (v : Int32) (B : BN E ow tb nL) (i : Nat) (h : tb[i]? = some (pc, .sipush z, 3, nx)) (hv : (Int16.ofInt z).toInt32 = v) (k : GN E nL nx lv (.int v :: st) cs len kc ks) : GN E nL pc lv st cs len kc ks := by
  obtain ⟨p, l, e, R, s, m, args, below, meth, c, Q, D, cI, cZ, cJ, n, lr⟩ := E
  obtain ⟨hd, hn⟩ := BN.dec B h
  subst hn
  intro H locs ls hlen hP hz hS hl
  exact lv_sipush B.1 rfl hd hv (k H locs ls hlen hP hz hS hl)
theorem n_dup {E : En} {ow : String} {tb : Tb} {nL pc nx len kc ks : Nat} {lv : Lv} {st : List Value} {cs : List va_E} {v : Value} (B : BN E ow tb nL) (i : Nat) (h : tb[i]? = some (pc, .dup, 1, nx)) (hv : v.category = 1) (k : GN E nL nx lv (v :: v :: st) cs len kc ks) : GN E nL pc lv (v :: st) cs len kc ks := by
  obtain ⟨p, l, e, R, s, m, args, below, meth, c, Q, D, cI, cZ, cJ, n, lr⟩ := E
  obtain ⟨hd, hn⟩ := BN.dec B h
  subst hn
  intro H locs ls hlen hP hz hS hl
  exact lv_dup B.1 rfl hd ((shv_cat n v).trans hv) (k H locs ls hlen hP hz hS hl)
theorem n_astore_n {E : En} {ow : String} {tb : Tb} {nL pc nx len kc ks : Nat} {lv : Lv} {st : List Value} {cs : List va_E} {x : Nat} {kk : Fin 4} (lv' : Lv) (q : Nat) (hlr : LR E q) (B : BN E ow tb nL) (i : Nat) (h : tb[i]? = some (pc, .astore_n kk, 1, nx)) (hq : (kk : Nat) = q) (hn : q < nL) (hl' : zs1 lv q (.ref x) = lv') (k : GN E nL nx lv' st cs len kc ks) : GN E nL pc lv (.ref x :: st) cs len kc ks := by
  subst hl'
  obtain ⟨p, l, e, R, s, m, args, below, meth, c, Q, D, cI, cZ, cJ, n, lr⟩ := E
  obtain ⟨hd, hn2⟩ := BN.dec B h
  subst hn2
  intro H locs ls hlen hP hz hS hl
  exact lv_astore_n B.1 rfl hd hq hl hn rfl (fun ls' hl' => k H locs ls' hlen hP hz hS (zs1_mapn hlr hl'))
theorem n_istore {E : En} {ow : String} {tb : Tb} {nL pc nx len kc ks : Nat} {lv : Lv} {st : List Value} {cs : List va_E} {x : Int32} {q : Nat} (lv' : Lv) (hlr : LR E q) (B : BN E ow tb nL) (i : Nat) (h : tb[i]? = some (pc, .istore q, 2, nx)) (hn : q < nL) (hl' : zs1 lv q (.int x) = lv') (k : GN E nL nx lv' st cs len kc ks) : GN E nL pc lv (.int x :: st) cs len kc ks := by
  subst hl'
  obtain ⟨p, l, e, R, s, m, args, below, meth, c, Q, D, cI, cZ, cJ, n, lr⟩ := E
  obtain ⟨hd, hn2⟩ := BN.dec B h
  subst hn2
  intro H locs ls hlen hP hz hS hl
  exact lv_istore B.1 rfl hd hl hn rfl (fun ls' hl' => k H locs ls' hlen hP hz hS (zs1_mapn hlr hl'))
theorem n_obj {E : En} {ow : String} {tb : Tb} {nL pc nx len kc ks : Nat} {lv : Lv} {st : List Value} {cs : List va_E} {R : Room} {x idx : Nat} (hR0 : RN E R) (B : BN E ow tb nL) (i : Nat) (h : tb[i]? = some (pc, .invokespecial idx, 3, nx)) (hw : Cond.methodLink ow idx Lib.objectInit ∈ TW ∧ Cond.instanceMethod Lib.objectInit ∈ TW ∧ Cond.code Lib.objectInit ⟨#[0xb1]⟩ 1 none ∈ TW) (hR : 1 ≤ R.frames ∧ 20 ≤ R.locals) (hW : (st.map fun v => v.category).sum ≤ 8) (k : GN E nL nx lv st cs len kc ks) : GN E nL pc lv (.ref x :: st) cs len kc ks := by
  obtain ⟨p, l, e, R', s, m, args, below, meth, c, Q, D, cI, cZ, cJ, n, lr⟩ := E
  obtain rfl : R' = R := hR0
  obtain ⟨hd, hn⟩ := BN.dec B h
  subst hn
  intro H locs ls hlen hP hz hS hl
  have hrl : ((st.map (shv n)).map (fun v => v.category)).sum ≤ 8 := by
    rw [List.map_map]
    have : ((fun v : Value => v.category) ∘ shv n) = fun v => v.category := by funext v; exact shv_cat n v
    rw [this]; exact hW
  refine W.objInit B.1 rfl B.hown (B.tw _ hw.1) (B.tw _ hw.2.1) (B.tw _ hw.2.2) rfl (by rw [B.ml]; exact hl.1) rfl hd hR.1 (by have := hR.2; have := hrl; show 2 * 0 + _ + 12 ≤ _; omega) ?_
  exact k H locs ls hlen hP hz hS hl
theorem n_new {E : En} {ow : String} {tb : Tb} {nL pc nx len kc ks : Nat} {lv : Lv} {st : List Value} {cs : List va_E} {R : Room} {idx N : Nat} {Cn : String} {T : u_T} (ci j0 : Nat) (fs : List Value) (cs2 : List va_E) (len2 kc2 ks2 : Nat) (hR0 : RN E R) (B : BN E ow tb nL) (i : Nat) (h : tb[i]? = some (pc, .new idx, 3, nx)) (hx : zcls[ci]? = some (Cn, T, N)) (hw : Cond.classLink ow idx Cn ∈ TW ∧ Cond.instantiable Cn N ∈ TW ∧ Cond.initialized Cn ∈ TW) (hj : len = j0 ∧ len + 1 = len2) (h2 : cs ++ [.inr (ci, fs)] = cs2) (hfs : ∀ j, j < N → defaultValue (tyA ci j) = vp_V (fs.map (shv 0)) j) (hf2 : ∀ z, fs.map (shv z) = fs.map (shv 0)) (hk : kc + 1 = kc2 ∧ ks + N = ks2 ∧ kc2 ≤ R.cells ∧ ks2 ≤ R.slots) (k : GN E nL nx lv (.ref j0 :: st) cs2 len2 kc2 ks2) : GN E nL pc lv st cs len kc ks := by
  subst h2
  obtain ⟨rfl, rfl⟩ := hj
  obtain ⟨rfl, rfl, hk1, hk2⟩ := hk
  obtain ⟨p, l, e, R', s, m, args, below, meth, c, Q, D, cI, cZ, cJ, n, lr⟩ := E
  obtain rfl : R' = R := hR0
  obtain ⟨hd, hn⟩ := BN.dec B h
  subst hn
  intro H locs ls hlen hP hz hS hl
  obtain ⟨hws, hN, hty, hnm⟩ := zcls_ok hx
  have hKn := B.K.1 ci _ hx
  refine W.newcK B.1 rfl B.hown (B.tw _ hw.1) (B.tw _ hw.2.1) (B.tw _ hw.2.2) rfl hd hk1 hk2 hKn.2.1 rfl fun H1 kC hkC e1 z1 o1 => ?_
  have hkp : ∀ (k : Nat) (x : Nat × va_E), (wsn n cs)[k]? = some x → H1[x.1]? = H[x.1]? := fun k x hx => o1 x.1 ((hP k x hx).lt)
  have hnew : va_P D zcls [(n + cs.length, she n (.inr (ci, fs)))] H1 := by
    intro k x hx2
    have hz0 : k < 1 := (List.getElem?_eq_some_iff.mp hx2).1
    rw [show k = 0 by omega] at hx2
    cases hx2
    refine ⟨_, hx, ?_⟩
    show t_OB (n + cs.length) _ _ _ _ (vp_V (fs.map (shv n)))
    rw [← hz, hf2 n]
    exact (u_born (tyA ci) B.tw hws hKn hkC e1 hty).to hfs
  subst hlen
  have := k H1 locs ls (by rw [List.length_append]; rfl) (by rw [wsn_app]; exact (hP.kept hkp).app hnew) (by rw [z1, hz, List.length_append]; rfl) ⟨Nat.le_trans hS.1 (by omega), fun x h1 h2 => (o1 x (Nat.lt_of_lt_of_le h1 hS.1)).trans (hS.2.1 x h1 h2), hS.2.2⟩ hl
  rw [hz]
  exact this
theorem n_newaI {E : En} {ow : String} {tb : Tb} {nL pc nx len kc ks : Nat} {lv : Lv} {st : List Value} {cs : List va_E} {R : Room} {l0 : Launch} {D0 : va_G} {cI cZ cJ : ClassId} {v : Int32} (N j0 : Nat) (cs2 : List va_E) (len2 kc2 ks2 : Nat) (hR0 : RN E R) (hL : LN E l0 D0 cI cZ cJ) (B : BN E ow tb nL) (i : Nat) (h : tb[i]? = some (pc, .newarray .int, 2, nx)) (hw : Cond.arrayClass .int ∈ TW) (hv : ¬ v < 0 ∧ v.toNatClampNeg = N ∧ N * 8 ≤ 536870912) (hj : len = j0 ∧ len + 1 = len2) (h2 : cs ++ [.inl (cI, N, .inl (fun _ => 0))] = cs2) (hk : kc + 1 = kc2 ∧ ks + N = ks2 ∧ kc2 ≤ R.cells ∧ ks2 ≤ R.slots) (k : GN E nL nx lv (.ref j0 :: st) cs2 len2 kc2 ks2) : GN E nL pc lv (.int v :: st) cs len kc ks := by
  subst h2
  obtain ⟨rfl, rfl⟩ := hj
  obtain ⟨rfl, rfl, hk1, hk2⟩ := hk
  obtain ⟨p, l, e, R', s, m, args, below, meth, c, Q, D, cI', cZ', cJ', n, lr⟩ := E
  obtain rfl : R' = R := hR0
  obtain ⟨rfl, rfl, rfl, rfl, rfl⟩ := hL
  obtain ⟨hd, hn⟩ := BN.dec B h
  subst hn
  intro H locs ls hlen hP hz hS hl
  refine va_newaK B.1 rfl (atype := .int) (B.tw _ hw) rfl hd rfl hv.1 hv.2.1 (Nat.le_trans (Nat.mul_le_mul_left _ (by decide)) hv.2.2) hk1 hk2 rfl fun H1 cA e1 z1 o1 hAr hNm => ?_
  have hcA : cA = cI' := by
    have h1 := (B.K.2 0 _ rfl).2
    have h2 : s.vm.findClass _ = some cI' := h1
    exact Option.some.inj (hNm.symm.trans h2)
  subst hcA
  have hkp : ∀ (k : Nat) (x : Nat × va_E), (wsn n cs)[k]? = some x → H1[x.1]? = H[x.1]? := fun k x hx => o1 x.1 ((hP k x hx).lt)
  have hnew : va_P D zcls [(n + cs.length, she n (.inl (cA, N, .inl (fun _ => 0))))] H1 := by
    intro k x hx2
    have hz0 : k < 1 := (List.getElem?_eq_some_iff.mp hx2).1
    rw [show k = 0 by omega] at hx2
    cases hx2
    show H1[n + cs.length]? = some (vp_cell _ _)
    rw [← hz]
    exact e1
  subst hlen
  have := k H1 locs ls (by rw [List.length_append]; rfl) (by rw [wsn_app]; exact (hP.kept hkp).app hnew) (by rw [z1, hz, List.length_append]; rfl) ⟨Nat.le_trans hS.1 (by omega), fun x h1 h2 => (o1 x (Nat.lt_of_lt_of_le h1 hS.1)).trans (hS.2.1 x h1 h2), hS.2.2⟩ hl
  rw [hz]
  exact this
theorem n_putF {E : En} {ow : String} {tb : Tb} {nL pc nx len kc ks : Nat} {lv : Lv} {st : List Value} {cs : List va_E} {idx : Nat} {v : Value} {fs : List Value} (ci kf j : Nat) (cs2 : List va_E) (B : BN E ow tb nL) (i : Nat) (h : tb[i]? = some (pc, .putfield idx, 3, nx)) {rn nm d : String} (hw : Cond.fieldLink ow idx rn nm d ∈ TW) (hf : zfl ci kf = some (rn, nm, d)) {ty : FieldType} (hd0 : parseFieldDescriptor d = some ty) (hfin : zfin ci kf = true) (hI : IN E) (hdecl : rn = ow) (hv : ∀ z, narrow ty (shv z v) = shv z v ∧ fits ty (shv z v) = true) (he : cs[j]? = some (.inr (ci, fs))) (hl0 : kf < fs.length) (h2 : cs.set j (.inr (ci, fs.set kf v)) = cs2) (k : GN E nL nx lv st cs2 len kc ks) : GN E nL pc lv (v :: .ref j :: st) cs len kc ks := by
  subst h2
  obtain ⟨p, l, e, R, s, m, args, below, meth, c, Q, D, cI, cZ, cJ, n, lr⟩ := E
  obtain ⟨hd, hn⟩ := BN.dec B h
  subst hn
  intro H locs ls hlen hP hz hS hl
  obtain ⟨-, ⟨Cn, T, N⟩, hx, hkN, rfl, rfl, rfl⟩ := zfl_spec hf
  obtain ⟨hws, hN, hty, hnm⟩ := zcls_ok hx
  have hfin' : (T kf).2.2.2 = true := by unfold zfin at hfin; rw [hx] at hfin; exact hfin
  have he' := wsn_get (n := n) he
  have hap := va_apart (own := ow) B.tw hws (tyA ci) hty hnm B.K hx
  obtain ⟨r, h1, cell, q1, q2, q3, q4⟩ := hP j _ he'
  have hr : r = (Cn, T, N) := Option.some.inj (h1.symm.trans hx)
  subst hr
  obtain ⟨hSl, hfc, kC, hkC, hkind⟩ := B.K.1 ci _ hx
  obtain ⟨cf, kk9, fi, f, hi, hsl⟩ := hSl kf hkN
  have hst := (u_facts hfc hkC (u_lays B.tw hws hkN) hi).1
  have hlay := B.tw _ (hws _ (u_in_lay hkN))
  unfold u_lay at hlay
  rw [if_pos hfin'] at hlay
  have hcf : m.cls = cf := by
    obtain ⟨_, _, c', _, _, _, -, -, hf', -, -, -, hown2, -⟩ := Cond.laysFinal_spec hlay
    have e1 : c' = cf := by have := hi.symm.trans hf'; simp at this; exact this.1.symm
    rw [hdecl] at hown2
    rw [← e1]; exact Option.some.inj (B.hown.symm.trans hown2)
  have h6 := u_fits hfc hkC hkind (Or.inr hlay) hi hd0 (hv n).1 (hv n).2
  refine W.putFinK B.1 rfl B.hown (B.tw _ hw) hi hst hcf hI (by rw [q2]; exact h6) q1 q3 (by rw [hsl]; exact k2_hasslot (q4 kf hkN)) rfl rfl hd fun H1 e1 e2 e3 => ?_
  rw [hsl] at e1 ⊢
  have hP1 : va_P D zcls ((wsn n cs).set j (n + j, .inr (ci, (fs.map (shv n)).set kf (shv n v)))) H1 := hP.set (wsn_D n cs) he' ⟨_, hx, t_OB.to (V := updV (vp_V (fs.map (shv n))) kf (shv n v)) ⟨_, e1, q2, q3, t_set q4 hap hkN (shv n v)⟩ (fun i _ => vp_updV_set (by rw [List.length_map]; exact hl0) (shv n v) i)⟩ e3
  have hset : (fs.map (shv n)).set kf (shv n v) = (fs.set kf v).map (shv n) := by rw [List.map_set]
  rw [hset] at hP1
  have hP1 : va_P D zcls ((wsn n cs).set j (n + j, she n (.inr (ci, fs.set kf v)))) H1 := hP1
  rw [wsn_set] at hP1
  exact k H1 _ ls (by rw [List.length_set]; exact hlen) hP1 (by rw [List.length_set]; omega) (hS.put e2 e3 (Nat.le_add_right n j)) hl
theorem n_put {E : En} {ow : String} {tb : Tb} {nL pc nx len kc ks : Nat} {lv : Lv} {st : List Value} {cs : List va_E} {idx : Nat} {v : Value} {fs : List Value} (ci kf j : Nat) (cs2 : List va_E) (B : BN E ow tb nL) (i : Nat) (h : tb[i]? = some (pc, .putfield idx, 3, nx)) {rn nm d : String} (hw : Cond.fieldLink ow idx rn nm d ∈ TW) (hf : zfl ci kf = some (rn, nm, d)) {ty : FieldType} (hd0 : parseFieldDescriptor d = some ty) (hfin : zfin ci kf = false) (hv : ∀ z, narrow ty (shv z v) = shv z v ∧ fits ty (shv z v) = true) (he : cs[j]? = some (.inr (ci, fs))) (hl0 : kf < fs.length) (h2 : cs.set j (.inr (ci, fs.set kf v)) = cs2) (k : GN E nL nx lv st cs2 len kc ks) : GN E nL pc lv (v :: .ref j :: st) cs len kc ks := by
  subst h2
  obtain ⟨p, l, e, R, s, m, args, below, meth, c, Q, D, cI, cZ, cJ, n, lr⟩ := E
  obtain ⟨hd, hn⟩ := BN.dec B h
  subst hn
  intro H locs ls hlen hP hz hS hl
  obtain ⟨-, ⟨Cn, T, N⟩, hx, hkN, rfl, rfl, rfl⟩ := zfl_spec hf
  obtain ⟨hws, hN, hty, hnm⟩ := zcls_ok hx
  have hfin' : (T kf).2.2.2 = false := by unfold zfin at hfin; rw [hx] at hfin; exact hfin
  have he' := wsn_get (n := n) he
  have hap := va_apart (own := ow) B.tw hws (tyA ci) hty hnm B.K hx
  obtain ⟨r, h1, cell, q1, q2, q3, q4⟩ := hP j _ he'
  have hr : r = (Cn, T, N) := Option.some.inj (h1.symm.trans hx)
  subst hr
  obtain ⟨hSl, hfc, kC, hkC, hkind⟩ := B.K.1 ci _ hx
  obtain ⟨cf, kk9, fi, f, hi, hsl⟩ := hSl kf hkN
  have hst := (u_facts hfc hkC (u_lays B.tw hws hkN) hi).1
  have hlay := B.tw _ (hws _ (u_in_lay hkN))
  unfold u_lay at hlay
  rw [if_neg (by rw [hfin']; decide)] at hlay
  have h6 := u_store hfc hkC hkind hlay hi hd0 (hv n).1 (hv n).2
  refine W.putK B.1 rfl (f := f) ⟨B.hown, B.tw _ hw, ⟨_, _, _, hi⟩, hst⟩ (by rw [q2]; exact h6) q1 q3 (by rw [hsl]; exact k2_hasslot (q4 kf hkN)) rfl rfl hd fun H1 e1 e2 e3 => ?_
  rw [hsl] at e1 ⊢
  have hP1 : va_P D zcls ((wsn n cs).set j (n + j, .inr (ci, (fs.map (shv n)).set kf (shv n v)))) H1 := hP.set (wsn_D n cs) he' ⟨_, hx, t_OB.to (V := updV (vp_V (fs.map (shv n))) kf (shv n v)) ⟨_, e1, q2, q3, t_set q4 hap hkN (shv n v)⟩ (fun i _ => vp_updV_set (by rw [List.length_map]; exact hl0) (shv n v) i)⟩ e3
  have hset : (fs.map (shv n)).set kf (shv n v) = (fs.set kf v).map (shv n) := by rw [List.map_set]
  rw [hset] at hP1
  have hP1 : va_P D zcls ((wsn n cs).set j (n + j, she n (.inr (ci, fs.set kf v)))) H1 := hP1
  rw [wsn_set] at hP1
  exact k H1 _ ls (by rw [List.length_set]; exact hlen) hP1 (by rw [List.length_set]; omega) (hS.put e2 e3 (Nat.le_add_right n j)) hl
theorem n_get {E : En} {ow : String} {tb : Tb} {nL pc nx len kc ks : Nat} {lv : Lv} {st : List Value} {cs : List va_E} {idx q2 : Nat} {fs : List Value} (ci kf j : Nat) (B : BN E ow tb nL) (i : Nat) (h : tb[i]? = some (pc, .getfield idx, 3, nx)) {rn nm d : String} (hw : Cond.fieldLink ow idx rn nm d ∈ TW) (hf : zfl ci kf = some (rn, nm, d)) (he : cs[j]? = some (.inr (ci, fs))) (hv : fs[kf]? = some (.ref q2)) (k : GN E nL nx lv (.ref q2 :: st) cs len kc ks) : GN E nL pc lv (.ref j :: st) cs len kc ks := by
  obtain ⟨p, l, e, R, s, m, args, below, meth, c, Q, D, cI, cZ, cJ, n, lr⟩ := E
  obtain ⟨hd, hn⟩ := BN.dec B h
  subst hn
  intro H locs ls hlen hP hz hS hl
  obtain ⟨-, ⟨Cn, T, N⟩, hx, hkN, rfl, rfl, rfl⟩ := zfl_spec hf
  obtain ⟨hws, hN, hty, hnm⟩ := zcls_ok hx
  exact va_get (C := Cn) (T := T) (N := N) (fs := fs.map (shv n)) B.1 rfl B.tw hws B.hown B.K hP j (wsn_get he) hx kf hkN (B.tw _ hw) (fun _ h => h) (v := .ref (n + q2)) (by rw [List.getElem?_map, hv]; rfl) hd (k H locs ls hlen hP hz hS hl)
theorem n_iast {E : En} {ow : String} {tb : Tb} {nL pc nx len kc ks : Nat} {lv : Lv} {st : List Value} {cs : List va_E} {R : Room} {l0 : Launch} {D0 : va_G} {cI cZ cJ : ClassId} {N : Nat} {f : Nat → Int32} {x v : Int32} (j : Nat) (cs2 : List va_E) (hL : LN E l0 D0 cI cZ cJ) (B : BN E ow tb nL) (i : Nat) (h : tb[i]? = some (pc, .iastore, 1, nx)) (he : cs[j]? = some (.inl (cI, N, .inl f))) (hx : vp_in x N) (h2 : cs.set j (.inl (cI, N, .inl (upd f x.toNatClampNeg v))) = cs2) (k : GN E nL nx lv st cs2 len kc ks) : GN E nL pc lv (.int v :: .int x :: .ref j :: st) cs len kc ks := by
  subst h2
  obtain ⟨p, l, e, R', s, m, args, below, meth, c, Q, D, cI', cZ', cJ', n, lr⟩ := E
  obtain ⟨rfl, rfl, rfl, rfl, rfl⟩ := hL
  obtain ⟨hd, hn⟩ := BN.dec B h
  subst hn
  intro H locs ls hlen hP hz hS hl
  have he' := wsn_get (n := n) he
  refine W.iast B.1 rfl (hP j _ he') ((B.K.2 0 _ rfl).1 N (fun i => .int (f i))) (fun q => by cases q) (by show ¬ (x < 0 ∨ (arrV _ _ _).slots.size ≤ _); rw [arrV_size]; exact hx) rfl rfl hd fun H1 e1 z1 oq => ?_
  have hP1 : va_P D zcls ((wsn n cs).set j (n + j, .inl (cI', N, .inl (upd f x.toNatClampNeg v)))) H1 := by
    refine hP.set (wsn_D n cs) he' ?_ oq
    show H1[n + j]? = some (vp_cell _ _)
    rw [e1]
    rw [vp_cell_i, vp_cell_i, arrV_store]
    congr 2
    funext q
    by_cases hq : q = x.toNatClampNeg
    · subst hq
      simp [updV, upd]
    · simp [updV, upd, hq]
  have hP1 : va_P D zcls ((wsn n cs).set j (n + j, she n (.inl (cI', N, .inl (upd f x.toNatClampNeg v))))) H1 := hP1
  rw [wsn_set] at hP1
  exact k H1 _ ls (by rw [List.length_set]; exact hlen) hP1 (by rw [List.length_set]; omega) (hS.put z1 oq (Nat.le_add_right n j)) hl
theorem n_vret {E : En} {ow : String} {tb : Tb} {nL pc nx len kc ks : Nat} {lv : Lv} {cs : List va_E} {blk : List va_E} {mc ms : Nat} (B : BN E ow tb nL) (i : Nat) (h : tb[i]? = some (pc, .return_, 1, nx)) (hQ : RtN E blk mc ms) (hb : cs = blk ∧ kc = mc ∧ ks = ms) : GN E nL pc lv [] cs len kc ks := by
  obtain ⟨p, l, e, R, s, m, args, below, meth, c, Q, D, cI, cZ, cJ, n, lr⟩ := E
  obtain ⟨hd, hn⟩ := BN.dec B h
  subst hn
  intro H locs ls hlen hP hz hS hl
  obtain ⟨hQ, hrt⟩ := hQ
  obtain ⟨rfl, rfl, rfl⟩ := hb
  have hQ : Q = _ := hQ
  subst hQ
  exact W.vret B.1 rfl hrt (fun t ht hW => ⟨rfl, by rw [ht]; exact hP, by rw [ht]; exact hz, hS.F ht⟩) hS.2.2 hd B.lk
theorem n_callO {E : En} {ow : String} {tb : Tb} {nL pc nx len kc ks : Nat} {lv : Lv} {st : List Value} {cs : List va_E} {R : Room} {l0 : Launch} {D0 : va_G} {cI cZ cJ : ClassId} {y : MethodName} {bytes : ByteArray} {maxL fr lo idx mc ms : Nat} {e0 : va_E} {blk : List va_E} (j0 : Nat) (cs0 cs2 : List va_E) (len2 kc2 ks2 : Nat) (hR0 : RN E R) (hL : LN E l0 D0 cI cZ cJ) (B : BN E ow tb nL) (i : Nat) (h : tb[i]? = some (pc, .invokespecial idx, 3, nx)) (hM : MI y bytes maxL none 0) (hw : Cond.methodLink ow idx y ∈ TW) (hin : Cond.instanceMethod y ∈ TW) (hnm : y.name = "<init>") (hc : CtN l0 D0 cI cZ cJ y bytes maxL fr lo e0 blk mc ms) (hR : fr + 1 ≤ R.frames ∧ 8 + (maxL + 11) + lo ≤ R.locals ∧ kc + mc = kc2 ∧ ks + ms = ks2 ∧ kc2 ≤ R.cells ∧ ks2 ≤ R.slots) (hcs : cs = cs0 ++ [e0]) (bl : Nat) (hj : j0 + 1 = len ∧ blk.length = bl ∧ j0 + bl = len2) (he0 : ∀ z, she z e0 = e0) (h2 : cs0 ++ blk.map (she j0) = cs2) (hW : (st.map fun v => v.category).sum ≤ 8) (k : GN E nL nx lv st cs2 len2 kc2 ks2) : GN E nL pc lv (.ref j0 :: st) cs len kc ks := by
  subst h2
  subst hcs
  obtain ⟨hj1, hj2, hj3⟩ := hj
  obtain ⟨p, l, e, R', s, m, args, below, meth, c, Q, D, cI', cZ', cJ', n, lr⟩ := E
  obtain rfl : R' = R := hR0
  obtain ⟨rfl, rfl, rfl, rfl, rfl⟩ := hL
  obtain ⟨hd, hn⟩ := BN.dec B h
  subst hn
  intro H locs ls hlen hP hz hS hl
  rw [List.length_append] at hz hlen
  have hj : cs0.length = j0 := by
    have h1 : cs0.length + 1 = len := hlen
    omega
  subst hj
  have hrl : ((st.map (shv n)).map (fun v => v.category)).sum ≤ 8 := by
    rw [List.map_map]
    have : ((fun v : Value => v.category) ∘ shv n) = fun v => v.category := by funext v; exact shv_cat n v
    rw [this]; exact hW
  have hPl : va_P D zcls (wsn (n + cs0.length) [e0]) H := by
    intro k q hq
    obtain ⟨x, hx, rfl⟩ := wsn_at hq
    have h0 : k < 1 := (List.getElem?_eq_some_iff.mp hx).1
    rw [show k = 0 by omega] at hx ⊢
    cases hx
    have h1 := hP cs0.length _ (wsn_get (n := n) (by rw [List.getElem?_append_right (Nat.le_refl _), Nat.sub_self]; rfl))
    rw [he0] at h1
    rw [he0]
    exact h1
  have hrun := va_runI (As := []) (b := n + cs0.length) (rest := st.map (shv n)) (g := F0 m pc ls (.ref (n + cs0.length) :: st.map (shv n))) (cells := kc) (slots := ks) (locs := locs) (H := H) (e := e) (below := below) (meth := meth) ⟨B.1, rfl, B.ml, B.hown, B.tw⟩ (hc (n + cs0.length)) ⟨callB_of 0 B.tw (tw_good hM.1) rfl rfl rfl (B.tw _ hM.2.2.2) (B.tw _ hw) hM.2.2.1 ⟨hR.1, hR.2.1⟩, hnm, B.tw _ hin⟩ ⟨fun a U g mk q => ⟨q.1, q.2.1, q.2.2.1, va_K.moved (u := U) (U := U.calling g mk a) (Vm.Alike.refl U.vm) q.2.2.2.1, fun x m => va_Nw.same rfl (u := U) (U := U.calling g mk a) rfl (q.2.2.2.2 x m)⟩, fun U hU hW => ⟨rfl, by rw [hU, hz]; rfl, by rw [hU]; exact hPl, va_K.moved hW.alike B.K, fun x m => (B.hnx x m).warmM hW⟩⟩ rfl rfl hl.1 rfl (lv_room hrl) hd (by have := hR.2.2; omega)
  intro T hT Y
  obtain ⟨v, st₀, t, T', L, h0, X', hL, e1, e2, ⟨hv, hP1, hz1, hF⟩, hst⟩ := hrun T hT Y
  cases hv
  have hAA : ∀ q, (n + cs0.length ≤ q) → n ≤ q := fun q h => by omega
  obtain ⟨g1, g2, hS1⟩ := kp_keep h0 e1 hS (fun q _ h => hAA q h) hAA hL hF
  have hP2 : va_P D zcls (wsn n (cs0 ++ blk.map (she cs0.length))) T'.heap := by
    intro k q hq
    obtain ⟨x, hx, rfl⟩ := wsn_at hq
    by_cases hk : k < cs0.length
    · rw [List.getElem?_append_left hk] at hx
      refine (hP k _ (wsn_get (n := n) (x := x) (by rw [List.getElem?_append_left hk]; exact hx))).kept ?_
      exact g2 (n + k) (by omega) (by show ¬ _ ≤ _; omega)
    · rw [List.getElem?_append_right (by omega), List.getElem?_map] at hx
      cases hb : blk[k - cs0.length]? with
      | none => rw [hb] at hx; cases hx
      | some b =>
        rw [hb] at hx
        cases hx
        rw [she_she, show n + k = n + cs0.length + (k - cs0.length) by omega, e1]
        exact hP1 _ _ (wsn_get hb)
  have hgo := k T'.heap (locs ++ L) ls (by rw [List.length_append, List.length_map]; omega) hP2 (by rw [e1, hz1, List.length_append, List.length_map]; omega) hS1 hl
  have hr3 := hR.2.2
  rw [← hr3.1, ← hr3.2.1] at hgo
  obtain ⟨t2, a1, b1⟩ := hgo T' rfl X'
  exact ⟨t2, hst t2 a1, b1⟩
theorem n_callN {E : En} {ow : String} {tb : Tb} {nL pc nx len kc ks : Nat} {lv : Lv} {st : List Value} {cs : List va_E} {R : Room} {l0 : Launch} {D0 : va_G} {cI cZ cJ : ClassId} {y : MethodName} {bytes : ByteArray} {maxL fr lo idx mc ms : Nat} {host : String} {e0 : va_E} {blk : List va_E} (j0 : Nat) (cs0 cs2 : List va_E) (len2 kc2 ks2 : Nat) (hR0 : RN E R) (hL : LN E l0 D0 cI cZ cJ) (B : BN E ow tb nL) (i : Nat) (h : tb[i]? = some (pc, .invokespecial idx, 3, nx)) (hM : MI y bytes maxL none 0) (hw : (ow, idx, y, host) ∈ zns) (hin : Cond.instanceMethod y ∈ TW) (hnm : y.name = "<init>") (hc : CtN l0 D0 cI cZ cJ y bytes maxL fr lo e0 blk mc ms) (hR : fr + 1 ≤ R.frames ∧ 8 + (maxL + 11) + lo ≤ R.locals ∧ kc + mc = kc2 ∧ ks + ms = ks2 ∧ kc2 ≤ R.cells ∧ ks2 ≤ R.slots) (hcs : cs = cs0 ++ [e0]) (bl : Nat) (hj : j0 + 1 = len ∧ blk.length = bl ∧ j0 + bl = len2) (he0 : ∀ z, she z e0 = e0) (h2 : cs0 ++ blk.map (she j0) = cs2) (hW : (st.map fun v => v.category).sum ≤ 8) (k : GN E nL nx lv st cs2 len2 kc2 ks2) : GN E nL pc lv (.ref j0 :: st) cs len kc ks := by
  subst h2
  subst hcs
  obtain ⟨hj1, hj2, hj3⟩ := hj
  obtain ⟨p, l, e, R', s, m, args, below, meth, c, Q, D, cI', cZ', cJ', n, lr⟩ := E
  obtain rfl : R' = R := hR0
  obtain ⟨rfl, rfl, rfl, rfl, rfl⟩ := hL
  obtain ⟨hd, hn⟩ := BN.dec B h
  subst hn
  intro H locs ls hlen hP hz hS hl
  rw [List.length_append] at hz hlen
  have hj : cs0.length = j0 := by
    have h1 : cs0.length + 1 = len := hlen
    omega
  subst hj
  have hrl : ((st.map (shv n)).map (fun v => v.category)).sum ≤ 8 := by
    rw [List.map_map]
    have : ((fun v : Value => v.category) ∘ shv n) = fun v => v.category := by funext v; exact shv_cat n v
    rw [this]; exact hW
  have hPl : va_P D zcls (wsn (n + cs0.length) [e0]) H := by
    intro k q hq
    obtain ⟨x, hx, rfl⟩ := wsn_at hq
    have h0 : k < 1 := (List.getElem?_eq_some_iff.mp hx).1
    rw [show k = 0 by omega] at hx ⊢
    cases hx
    have h1 := hP cs0.length _ (wsn_get (n := n) (by rw [List.getElem?_append_right (Nat.le_refl _), Nat.sub_self]; rfl))
    rw [he0] at h1
    rw [he0]
    exact h1
  have hrun := va_runIN (As := []) (b := n + cs0.length) (rest := st.map (shv n)) (g := F0 m pc ls (.ref (n + cs0.length) :: st.map (shv n))) (cells := kc) (slots := ks) (locs := locs) (H := H) (e := e) (below := below) (meth := meth) ⟨B.1, rfl, B.ml, B.hown, B.tw⟩ (hc (n + cs0.length)) ⟨va_cnB 0 B.tw (tw_good hM.1) rfl rfl rfl (B.hnx _ hw) (B.tw _ hM.2.2.2) hM.2.2.1 ⟨hR.1, hR.2.1⟩, hnm, B.tw _ hin⟩ ⟨fun a U g mk q => ⟨q.1, q.2.1, q.2.2.1, va_K.moved (u := U) (U := U.calling g mk a) (Vm.Alike.refl U.vm) q.2.2.2.1, fun x m => va_Nw.same rfl (u := U) (U := U.calling g mk a) rfl (q.2.2.2.2 x m)⟩, fun U hU hW => ⟨rfl, by rw [hU, hz]; rfl, by rw [hU]; exact hPl, va_K.moved hW.alike B.K, fun x m => (B.hnx x m).warmM hW⟩⟩ rfl rfl hl.1 rfl (lv_room hrl) hd (by have := hR.2.2; omega)
  intro T hT Y
  obtain ⟨v, st₀, t, T', L, h0, X', hL, e1, e2, ⟨hv, hP1, hz1, hF⟩, hst⟩ := hrun T hT Y
  cases hv
  have hAA : ∀ q, (n + cs0.length ≤ q) → n ≤ q := fun q h => by omega
  obtain ⟨g1, g2, hS1⟩ := kp_keep h0 e1 hS (fun q _ h => hAA q h) hAA hL hF
  have hP2 : va_P D zcls (wsn n (cs0 ++ blk.map (she cs0.length))) T'.heap := by
    intro k q hq
    obtain ⟨x, hx, rfl⟩ := wsn_at hq
    by_cases hk : k < cs0.length
    · rw [List.getElem?_append_left hk] at hx
      refine (hP k _ (wsn_get (n := n) (x := x) (by rw [List.getElem?_append_left hk]; exact hx))).kept ?_
      exact g2 (n + k) (by omega) (by show ¬ _ ≤ _; omega)
    · rw [List.getElem?_append_right (by omega), List.getElem?_map] at hx
      cases hb : blk[k - cs0.length]? with
      | none => rw [hb] at hx; cases hx
      | some b =>
        rw [hb] at hx
        cases hx
        rw [she_she, show n + k = n + cs0.length + (k - cs0.length) by omega, e1]
        exact hP1 _ _ (wsn_get hb)
  have hgo := k T'.heap (locs ++ L) ls (by rw [List.length_append, List.length_map]; omega) hP2 (by rw [e1, hz1, List.length_append, List.length_map]; omega) hS1 hl
  have hr3 := hR.2.2
  rw [← hr3.1, ← hr3.2.1] at hgo
  obtain ⟨t2, a1, b1⟩ := hgo T' rfl X'
  exact ⟨t2, hst t2 a1, b1⟩
end
section
/-! ZoneCapacity.at([II)I -/
def tbX6_at : Tb := [(0, .aload_n 0, 1, 1), (1, .ifnull 19, 3, 4), (4, .iload_n 1, 1, 5), (5, .ifCond .lt 15, 3, 8), (8, .iload_n 1, 1, 9), (9, .aload_n 0, 1, 10), (10, .arraylength, 1, 11), (11, .if_icmp .ge 9, 3, 14), (14, .aload_n 0, 1, 15), (15, .iload_n 1, 1, 16), (16, .iaload, 1, 17), (17, .goto 4, 3, 20), (20, .iconst 0, 1, 21), (21, .ireturn, 1, 22)]
theorem dtX6_at : ∀ q ∈ tbX6_at, decode cX6_at q.1 = .ok (q.2.1, q.2.2.1) ∧ q.1 + q.2.2.1 = q.2.2.2 := by decide +kernel
theorem miX6_at : MI yX6_at cX6_at 2 (some .int) 2 := ⟨tw_mem (List.mem_of_getElem? (i := 273) (by decide +kernel)) rfl, by decide, by decide +kernel, tw_mem (List.mem_of_getElem? (i := 14) (by decide +kernel)) rfl⟩
abbrev rmX6_at : Room := { frames := 0, cells := 0, slots := 0, locals := 0 }
def f6_at (mm : Mem) (a0 : Nat) (a1 : Int32) : Option Int32 := if a1 < 0 then some ((0 : Int32)) else if a1 < (nI (ln a0)) then rdc a0 a1 (nm (mm a0 a1.toNatClampNeg) (fun v1 => some (v1))) else some ((0 : Int32))
theorem ctX6_at {l : Launch} {C : Cfg} (hj : Dj C) {mm : Mem} {a0 : Nat} {a1 : Int32} {x : Int32} (o_a0 : Ob a0 8) (hf : f6_at mm a0 a1 = some x) : Ct l C yX6_at cX6_at 2 (some .int) 0 0 [.ref a0, .int a1] mm (some (.int x)) mm := by
  refine Ct.of (tb := tbX6_at) hj miX6_at.2.1 miX6_at.1 dtX6_at (Nat.le_of_ble_eq_true rfl) ?_
  intro E B hQ hr X
  unfold f6_at at hf
  show G E 2 0 [(0, .ref a0), (1, .int a1)] [] mm
  refine z_aload_n B 0 rfl 0 0 rfl rfl ?_
  refine z_ifnull B 1 rfl ?_
  refine z_iload_n B 2 rfl 1 1 rfl rfl ?_
  by_cases hc : a1 < 0
  · replace hf := (if_pos hc).symm.trans hf
    refine z_if_lt_t B 3 rfl 20 (by decide) hc ?_
    refine z_iconst 0 B 12 rfl (by decide) ?_
    cases hf
    exact z_iret B 13 rfl rfl hQ hr
  · replace hf := (if_neg hc).symm.trans hf
    refine z_if_lt_f B 3 rfl 20 (by decide) hc ?_
    refine z_iload_n B 4 rfl 1 1 rfl rfl ?_
    refine z_aload_n B 5 rfl 0 0 rfl rfl ?_
    refine z_alen B 6 rfl o_a0 ?_
    by_cases hc : a1 < (nI (ln a0))
    · replace hf := (if_pos hc).symm.trans hf
      refine z_icmp_ge_f B 7 rfl 20 (by decide) hc ?_
      refine z_aload_n B 8 rfl 0 0 rfl rfl ?_
      refine z_iload_n B 9 rfl 1 1 rfl rfl ?_
      obtain ⟨hx, hf⟩ := rdc_e hf
      refine z_iald B 10 rfl o_a0 hx ?_
      obtain ⟨v1, ex, hf⟩ := nm_x hf
      refine z_top ex ?_
      refine z_goto B 11 rfl 21 (by decide) ?_
      cases hf
      exact z_iret B 13 rfl rfl hQ hr
    · replace hf := (if_neg hc).symm.trans hf
      refine z_icmp_ge_t B 7 rfl 20 (by decide) hc ?_
      refine z_iconst 0 B 12 rfl (by decide) ?_
      cases hf
      exact z_iret B 13 rfl rfl hQ hr
/-! ZoneCapacity$Offers.rest(I)I -/
def tbX2_rest : Tb := [(0, .aload_n 0, 1, 1), (1, .getfield 22, 3, 4), (4, .iload_n 1, 1, 5), (5, .invokestatic 57, 3, 8), (8, .istore_n 2, 1, 9), (9, .iconst 0, 1, 10), (10, .istore_n 3, 1, 11), (11, .iload_n 3, 1, 12), (12, .aload_n 0, 1, 13), (13, .getfield 37, 3, 16), (16, .iload_n 1, 1, 17), (17, .invokestatic 57, 3, 20), (20, .if_icmp .ge 24, 3, 23), (23, .iload_n 2, 1, 24), (24, .aload_n 0, 1, 25), (25, .getfield 40, 3, 28), (28, .iload_n 1, 1, 29), (29, .iconst 3, 1, 30), (30, .imul, 1, 31), (31, .iload_n 3, 1, 32), (32, .iadd, 1, 33), (33, .invokestatic 57, 3, 36), (36, .isub, 1, 37), (37, .istore_n 2, 1, 38), (38, .iinc 3 1, 3, 41), (41, .goto (-30), 3, 44), (44, .iload_n 2, 1, 45), (45, .ireturn, 1, 46)]
theorem dtX2_rest : ∀ q ∈ tbX2_rest, decode cX2_rest q.1 = .ok (q.2.1, q.2.2.1) ∧ q.1 + q.2.2.1 = q.2.2.2 := by decide +kernel
theorem miX2_rest : MI yX2_rest cX2_rest 4 (some .int) 1 := ⟨tw_mem (List.mem_of_getElem? (i := 347) (by decide +kernel)) rfl, by decide, by decide +kernel, tw_mem (List.mem_of_getElem? (i := 18) (by decide +kernel)) rfl⟩
abbrev rmX2_rest : Room := { frames := 1, cells := 0, slots := 0, locals := 21 }
def wX2_rest : List Cond := [.fieldLink "ZoneCapacity$Offers" 22 "ZoneCapacity$Offers" "sizes" "[I", .static yX6_at, .fieldLink "ZoneCapacity$Offers" 37 "ZoneCapacity$Offers" "steps" "[I", .fieldLink "ZoneCapacity$Offers" 40 "ZoneCapacity$Offers" "stepUnits" "[I"]
theorem iX2_rest : ∀ w ∈ wX2_rest, w ∈ TW := tw_of (ids := [113, 272, 120, 122]) (by decide +kernel)
def f2_rest_l11 (mm : Mem) : Nat → Nat → Int32 → Int32 → Int32 → Option Int32
  | 0, _, _, _, _ => none
  | n + 1, x0, x1, x2, x3 => bd (f6_at mm (x0 + 8) x1) (fun r2 => if x3 < r2 then bd (f6_at mm (x0 + 9) ((x1 * (3 : Int32)) + x3)) (fun r3 => nm (x2 - r3) (fun v4 => nm (x3 + 1) (fun v5 => f2_rest_l11 mm n x0 x1 v4 v5))) else some (x2))
theorem f2_rest_l11_ok {E : Ev} {l : Launch} {C : Cfg} {mm : Mem} {x : Int32} (hj : Dj C) (X : Ec E l C rmX2_rest) (B : Bx E RX2 tbX2_rest 4 (some .int)) (hQ : Rt E) (hr : Rs E (some (.int x)) mm) (n : Nat) : ∀ (x0 : Nat) (x1 : Int32) (x2 : Int32) (x3 : Int32), Ob x0 2 → f2_rest_l11 mm n x0 x1 x2 x3 = some x → G E 4 11 [(0, .ref x0), (1, .int x1), (2, .int x2), (3, .int x3)] [] mm := by
  induction n with
  | zero =>
    intro x0 x1 x2 x3 o_x0 hf
    rw [f2_rest_l11] at hf
    cases hf
  | succ n ih =>
    intro x0 x1 x2 x3 o_x0 hf
    rw [f2_rest_l11] at hf
    refine z_iload_n B 7 rfl 3 3 rfl rfl ?_
    refine z_aload_n B 8 rfl 0 0 rfl rfl ?_
    refine z_getr 2 9 x0 B 9 rfl o_x0 rfl (iX2_rest _ (List.mem_of_getElem? (i := 2) rfl)) rfl ?_
    refine z_iload_n B 10 rfl 1 1 rfl rfl ?_
    obtain ⟨r2, ec, hf⟩ := bd_e hf
    refine z_callN [.ref (x0 + 8), .int x1] [.int x3] [.int r2, .int x3] X B 11 rfl miX6_at ⟨List.mem_of_getElem? (i := 10) rfl, (iX2_rest _ (List.mem_of_getElem? (i := 1) rfl))⟩ (ctX6_at hj (obf_2_9 o_x0) ec) ⟨Nat.le_of_ble_eq_true rfl, Nat.le_of_ble_eq_true rfl⟩ rfl rfl (Nat.le_of_ble_eq_true rfl) rfl ?_
    by_cases hc : x3 < r2
    · replace hf := (if_pos hc).symm.trans hf
      refine z_icmp_ge_f B 12 rfl 44 (by decide) hc ?_
      refine z_iload_n B 13 rfl 2 2 rfl rfl ?_
      refine z_aload_n B 14 rfl 0 0 rfl rfl ?_
      refine z_getr 2 10 x0 B 15 rfl o_x0 rfl (iX2_rest _ (List.mem_of_getElem? (i := 3) rfl)) rfl ?_
      refine z_iload_n B 16 rfl 1 1 rfl rfl ?_
      refine z_iconst 3 B 17 rfl (by decide) ?_
      refine z_imul B 18 rfl ?_
      refine z_iload_n B 19 rfl 3 3 rfl rfl ?_
      refine z_iadd B 20 rfl ?_
      obtain ⟨r3, ec, hf⟩ := bd_e hf
      refine z_callN [.ref (x0 + 9), .int ((x1 * (3 : Int32)) + x3)] [.int x2] [.int r3, .int x2] X B 21 rfl miX6_at ⟨List.mem_of_getElem? (i := 10) rfl, (iX2_rest _ (List.mem_of_getElem? (i := 1) rfl))⟩ (ctX6_at hj (obf_2_10 o_x0) ec) ⟨Nat.le_of_ble_eq_true rfl, Nat.le_of_ble_eq_true rfl⟩ rfl rfl (Nat.le_of_ble_eq_true rfl) rfl ?_
      refine z_isub B 22 rfl ?_
      obtain ⟨v4, ex, hf⟩ := nm_x hf
      refine z_top ex ?_
      refine z_istore_n [(2, .int v4), (0, .ref x0), (1, .int x1), (3, .int x3)] B 23 rfl 2 rfl (by decide) rfl ?_
      obtain ⟨v5, ex, hf⟩ := nm_x hf
      refine z_iinc v5 [(3, .int v5), (2, .int v4), (0, .ref x0), (1, .int x1)] B 24 rfl 3 rfl (ex.symm) (by decide) rfl ?_
      refine z_goto B 25 rfl 11 (by decide) ?_
      refine z_sub [(0, .ref x0), (1, .int x1), (2, .int v4), (3, .int v5)] [2, 3, 1, 0] rfl ?_
      exact ih _ _ _ _ o_x0  hf
    · replace hf := (if_neg hc).symm.trans hf
      refine z_icmp_ge_t B 12 rfl 44 (by decide) hc ?_
      refine z_iload_n B 26 rfl 2 2 rfl rfl ?_
      cases hf
      exact z_iret B 27 rfl rfl hQ hr
def f2_rest (mm : Mem) (a0 : Nat) (a1 : Int32) : Option Int32 := bd (f6_at mm (a0 + 3) a1) (fun r1 => f2_rest_l11 mm FU a0 a1 r1 (0 : Int32))
theorem ctX2_rest {l : Launch} {C : Cfg} (hj : Dj C) {mm : Mem} {a0 : Nat} {a1 : Int32} {x : Int32} (o_a0 : Ob a0 2) (hf : f2_rest mm a0 a1 = some x) : Ct l C yX2_rest cX2_rest 4 (some .int) 1 21 [.ref a0, .int a1] mm (some (.int x)) mm := by
  refine Ct.of (tb := tbX2_rest) hj miX2_rest.2.1 miX2_rest.1 dtX2_rest (Nat.le_of_ble_eq_true rfl) ?_
  intro E B hQ hr X
  unfold f2_rest at hf
  show G E 4 0 [(0, .ref a0), (1, .int a1)] [] mm
  refine z_aload_n B 0 rfl 0 0 rfl rfl ?_
  refine z_getr 2 4 a0 B 1 rfl o_a0 rfl (iX2_rest _ (List.mem_of_getElem? (i := 0) rfl)) rfl ?_
  refine z_iload_n B 2 rfl 1 1 rfl rfl ?_
  obtain ⟨r1, ec, hf⟩ := bd_e hf
  refine z_callN [.ref (a0 + 3), .int a1] [] [.int r1] X B 3 rfl miX6_at ⟨List.mem_of_getElem? (i := 10) rfl, (iX2_rest _ (List.mem_of_getElem? (i := 1) rfl))⟩ (ctX6_at hj (obf_2_4 o_a0) ec) ⟨Nat.le_of_ble_eq_true rfl, Nat.le_of_ble_eq_true rfl⟩ rfl rfl (Nat.le_of_ble_eq_true rfl) rfl ?_
  refine z_istore_n [(2, .int r1), (0, .ref a0), (1, .int a1)] B 4 rfl 2 rfl (by decide) rfl ?_
  refine z_iconst 0 B 5 rfl (by decide) ?_
  refine z_istore_n [(3, .int (0 : Int32)), (2, .int r1), (0, .ref a0), (1, .int a1)] B 6 rfl 3 rfl (by decide) rfl ?_
  refine z_sub [(0, .ref a0), (1, .int a1), (2, .int r1), (3, .int (0 : Int32))] [2, 3, 1, 0] rfl ?_
  exact f2_rest_l11_ok hj X B hQ hr FU _ _ _ _ o_a0  hf
/-! ZoneCapacity$Offers.unitsOf(II)I -/
def tbX2_unitsOf : Tb := [(0, .iload_n 2, 1, 1), (1, .iconst 3, 1, 2), (2, .if_icmp .ne 25, 3, 5), (5, .aload_n 0, 1, 6), (6, .getfield 31, 3, 9), (9, .iload_n 1, 1, 10), (10, .invokestatic 57, 3, 13), (13, .iconst 1, 1, 14), (14, .if_icmp .ne 11, 3, 17), (17, .aload_n 0, 1, 18), (18, .iload_n 1, 1, 19), (19, .invokevirtual 77, 3, 22), (22, .goto 4, 3, 25), (25, .iconst 0, 1, 26), (26, .ireturn, 1, 27), (27, .iload_n 2, 1, 28), (28, .aload_n 0, 1, 29), (29, .getfield 37, 3, 32), (32, .iload_n 1, 1, 33), (33, .invokestatic 57, 3, 36), (36, .if_icmp .ge 18, 3, 39), (39, .aload_n 0, 1, 40), (40, .getfield 40, 3, 43), (43, .iload_n 1, 1, 44), (44, .iconst 3, 1, 45), (45, .imul, 1, 46), (46, .iload_n 2, 1, 47), (47, .iadd, 1, 48), (48, .invokestatic 57, 3, 51), (51, .goto 4, 3, 54), (54, .iconst 0, 1, 55), (55, .ireturn, 1, 56)]
theorem dtX2_unitsOf : ∀ q ∈ tbX2_unitsOf, decode cX2_unitsOf q.1 = .ok (q.2.1, q.2.2.1) ∧ q.1 + q.2.2.1 = q.2.2.2 := by decide +kernel
theorem miX2_unitsOf : MI yX2_unitsOf cX2_unitsOf 3 (some .int) 2 := ⟨tw_mem (List.mem_of_getElem? (i := 343) (by decide +kernel)) rfl, by decide, by decide +kernel, tw_mem (List.mem_of_getElem? (i := 18) (by decide +kernel)) rfl⟩
abbrev rmX2_unitsOf : Room := { frames := 2, cells := 0, slots := 0, locals := 44 }
def wX2_unitsOf : List Cond := [.fieldLink "ZoneCapacity$Offers" 37 "ZoneCapacity$Offers" "steps" "[I", .static yX6_at, .fieldLink "ZoneCapacity$Offers" 40 "ZoneCapacity$Offers" "stepUnits" "[I", .fieldLink "ZoneCapacity$Offers" 31 "ZoneCapacity$Offers" "must" "[I", .methodLink "ZoneCapacity$Offers" 77 yX2_rest, .instanceMethod yX2_rest, .selects "ZoneCapacity$Offers" yX2_rest yX2_rest]
theorem iX2_unitsOf : ∀ w ∈ wX2_unitsOf, w ∈ TW := tw_of (ids := [120, 272, 122, 117, 344, 345, 346]) (by decide +kernel)
def f2_unitsOf (mm : Mem) (a0 : Nat) (a1 : Int32) (a2 : Int32) : Option Int32 := if a2 = (3 : Int32) then bd (f6_at mm (a0 + 6) a1) (fun r3 => if r3 = (1 : Int32) then bd (f2_rest mm a0 a1) (fun r4 => some (r4)) else some ((0 : Int32))) else bd (f6_at mm (a0 + 8) a1) (fun r1 => if a2 < r1 then bd (f6_at mm (a0 + 9) ((a1 * (3 : Int32)) + a2)) (fun r2 => some (r2)) else some ((0 : Int32)))
theorem ctX2_unitsOf {l : Launch} {C : Cfg} (hj : Dj C) {mm : Mem} {a0 : Nat} {a1 : Int32} {a2 : Int32} {x : Int32} (o_a0 : Ob a0 2) (hf : f2_unitsOf mm a0 a1 a2 = some x) : Ct l C yX2_unitsOf cX2_unitsOf 3 (some .int) 2 44 [.ref a0, .int a1, .int a2] mm (some (.int x)) mm := by
  refine Ct.of (tb := tbX2_unitsOf) hj miX2_unitsOf.2.1 miX2_unitsOf.1 dtX2_unitsOf (Nat.le_of_ble_eq_true rfl) ?_
  intro E B hQ hr X
  unfold f2_unitsOf at hf
  show G E 3 0 [(0, .ref a0), (1, .int a1), (2, .int a2)] [] mm
  refine z_iload_n B 0 rfl 2 2 rfl rfl ?_
  refine z_iconst 3 B 1 rfl (by decide) ?_
  by_cases hc : a2 = (3 : Int32)
  · replace hf := (if_pos hc).symm.trans hf
    refine z_icmp_ne_f B 2 rfl 27 (by decide) hc ?_
    refine z_aload_n B 3 rfl 0 0 rfl rfl ?_
    refine z_getr 2 7 a0 B 4 rfl o_a0 rfl (iX2_unitsOf _ (List.mem_of_getElem? (i := 3) rfl)) rfl ?_
    refine z_iload_n B 5 rfl 1 1 rfl rfl ?_
    obtain ⟨r3, ec, hf⟩ := bd_e hf
    refine z_callN [.ref (a0 + 6), .int a1] [] [.int r3] X B 6 rfl miX6_at ⟨List.mem_of_getElem? (i := 10) rfl, (iX2_unitsOf _ (List.mem_of_getElem? (i := 1) rfl))⟩ (ctX6_at hj (obf_2_7 o_a0) ec) ⟨Nat.le_of_ble_eq_true rfl, Nat.le_of_ble_eq_true rfl⟩ rfl rfl (Nat.le_of_ble_eq_true rfl) rfl ?_
    refine z_iconst 1 B 7 rfl (by decide) ?_
    by_cases hc : r3 = (1 : Int32)
    · replace hf := (if_pos hc).symm.trans hf
      refine z_icmp_ne_f B 8 rfl 25 (by decide) hc ?_
      refine z_aload_n B 9 rfl 0 0 rfl rfl ?_
      refine z_iload_n B 10 rfl 1 1 rfl rfl ?_
      obtain ⟨r4, ec, hf⟩ := bd_e hf
      refine z_callV a0 2 [.int a1] [] [.int r4] X B 11 rfl (by decide) o_a0 rfl rfl miX2_rest ⟨(iX2_unitsOf _ (List.mem_of_getElem? (i := 4) rfl)), (iX2_unitsOf _ (List.mem_of_getElem? (i := 5) rfl)), (iX2_unitsOf _ (List.mem_of_getElem? (i := 6) rfl))⟩ (ctX2_rest hj o_a0 ec) ⟨Nat.le_of_ble_eq_true rfl, Nat.le_of_ble_eq_true rfl⟩ rfl rfl (Nat.le_of_ble_eq_true rfl) rfl ?_
      refine z_goto B 12 rfl 26 (by decide) ?_
      cases hf
      exact z_iret B 14 rfl rfl hQ hr
    · replace hf := (if_neg hc).symm.trans hf
      refine z_icmp_ne_t B 8 rfl 25 (by decide) hc ?_
      refine z_iconst 0 B 13 rfl (by decide) ?_
      cases hf
      exact z_iret B 14 rfl rfl hQ hr
  · replace hf := (if_neg hc).symm.trans hf
    refine z_icmp_ne_t B 2 rfl 27 (by decide) hc ?_
    refine z_iload_n B 15 rfl 2 2 rfl rfl ?_
    refine z_aload_n B 16 rfl 0 0 rfl rfl ?_
    refine z_getr 2 9 a0 B 17 rfl o_a0 rfl (iX2_unitsOf _ (List.mem_of_getElem? (i := 0) rfl)) rfl ?_
    refine z_iload_n B 18 rfl 1 1 rfl rfl ?_
    obtain ⟨r1, ec, hf⟩ := bd_e hf
    refine z_callN [.ref (a0 + 8), .int a1] [.int a2] [.int r1, .int a2] X B 19 rfl miX6_at ⟨List.mem_of_getElem? (i := 10) rfl, (iX2_unitsOf _ (List.mem_of_getElem? (i := 1) rfl))⟩ (ctX6_at hj (obf_2_9 o_a0) ec) ⟨Nat.le_of_ble_eq_true rfl, Nat.le_of_ble_eq_true rfl⟩ rfl rfl (Nat.le_of_ble_eq_true rfl) rfl ?_
    by_cases hc : a2 < r1
    · replace hf := (if_pos hc).symm.trans hf
      refine z_icmp_ge_f B 20 rfl 54 (by decide) hc ?_
      refine z_aload_n B 21 rfl 0 0 rfl rfl ?_
      refine z_getr 2 10 a0 B 22 rfl o_a0 rfl (iX2_unitsOf _ (List.mem_of_getElem? (i := 2) rfl)) rfl ?_
      refine z_iload_n B 23 rfl 1 1 rfl rfl ?_
      refine z_iconst 3 B 24 rfl (by decide) ?_
      refine z_imul B 25 rfl ?_
      refine z_iload_n B 26 rfl 2 2 rfl rfl ?_
      refine z_iadd B 27 rfl ?_
      obtain ⟨r2, ec, hf⟩ := bd_e hf
      refine z_callN [.ref (a0 + 9), .int ((a1 * (3 : Int32)) + a2)] [] [.int r2] X B 28 rfl miX6_at ⟨List.mem_of_getElem? (i := 10) rfl, (iX2_unitsOf _ (List.mem_of_getElem? (i := 1) rfl))⟩ (ctX6_at hj (obf_2_10 o_a0) ec) ⟨Nat.le_of_ble_eq_true rfl, Nat.le_of_ble_eq_true rfl⟩ rfl rfl (Nat.le_of_ble_eq_true rfl) rfl ?_
      refine z_goto B 29 rfl 55 (by decide) ?_
      cases hf
      exact z_iret B 31 rfl rfl hQ hr
    · replace hf := (if_neg hc).symm.trans hf
      refine z_icmp_ge_t B 20 rfl 54 (by decide) hc ?_
      refine z_iconst 0 B 30 rfl (by decide) ?_
      cases hf
      exact z_iret B 31 rfl rfl hQ hr
/-! ZoneCapacity.put([III)V -/
def tbX6_put : Tb := [(0, .aload_n 0, 1, 1), (1, .ifnull 17, 3, 4), (4, .iload_n 1, 1, 5), (5, .ifCond .lt 13, 3, 8), (8, .iload_n 1, 1, 9), (9, .aload_n 0, 1, 10), (10, .arraylength, 1, 11), (11, .if_icmp .ge 7, 3, 14), (14, .aload_n 0, 1, 15), (15, .iload_n 1, 1, 16), (16, .iload_n 2, 1, 17), (17, .iastore, 1, 18), (18, .return_, 1, 19)]
theorem dtX6_put : ∀ q ∈ tbX6_put, decode cX6_put q.1 = .ok (q.2.1, q.2.2.1) ∧ q.1 + q.2.2.1 = q.2.2.2 := by decide +kernel
theorem miX6_put : MI yX6_put cX6_put 3 none 3 := ⟨tw_mem (List.mem_of_getElem? (i := 292) (by decide +kernel)) rfl, by decide, by decide +kernel, tw_mem (List.mem_of_getElem? (i := 14) (by decide +kernel)) rfl⟩
abbrev rmX6_put : Room := { frames := 0, cells := 0, slots := 0, locals := 0 }
def f6_put (mm : Mem) (a0 : Nat) (a1 : Int32) (a2 : Int32) : Option Mem := if a1 < 0 then some mm else if a1 < (nI (ln a0)) then rdc a0 a1 (nm (up2 mm a0 a1.toNatClampNeg a2) (fun m1 => some m1)) else some mm
theorem ctX6_put {l : Launch} {C : Cfg} (hj : Dj C) {mm : Mem} {a0 : Nat} {a1 : Int32} {a2 : Int32} {x : Mem} (o_a0 : Ob a0 8) (hf : f6_put mm a0 a1 a2 = some x) : Ct l C yX6_put cX6_put 3 none 0 0 [.ref a0, .int a1, .int a2] mm none x := by
  refine Ct.of (tb := tbX6_put) hj miX6_put.2.1 miX6_put.1 dtX6_put (Nat.le_of_ble_eq_true rfl) ?_
  intro E B hQ hr X
  unfold f6_put at hf
  show G E 3 0 [(0, .ref a0), (1, .int a1), (2, .int a2)] [] mm
  refine z_aload_n B 0 rfl 0 0 rfl rfl ?_
  refine z_ifnull B 1 rfl ?_
  refine z_iload_n B 2 rfl 1 1 rfl rfl ?_
  by_cases hc : a1 < 0
  · replace hf := (if_pos hc).symm.trans hf
    refine z_if_lt_t B 3 rfl 18 (by decide) hc ?_
    cases hf
    exact z_vret B 12 rfl hQ hr
  · replace hf := (if_neg hc).symm.trans hf
    refine z_if_lt_f B 3 rfl 18 (by decide) hc ?_
    refine z_iload_n B 4 rfl 1 1 rfl rfl ?_
    refine z_aload_n B 5 rfl 0 0 rfl rfl ?_
    refine z_alen B 6 rfl o_a0 ?_
    by_cases hc : a1 < (nI (ln a0))
    · replace hf := (if_pos hc).symm.trans hf
      refine z_icmp_ge_f B 7 rfl 18 (by decide) hc ?_
      refine z_aload_n B 8 rfl 0 0 rfl rfl ?_
      refine z_iload_n B 9 rfl 1 1 rfl rfl ?_
      refine z_iload_n B 10 rfl 2 2 rfl rfl ?_
      obtain ⟨hx, hf⟩ := rdc_e hf
      refine z_iast B 11 rfl o_a0 hx ?_
      obtain ⟨m1, ex, hf⟩ := nm_x hf
      refine z_mem ex ?_
      cases hf
      exact z_vret B 12 rfl hQ hr
    · replace hf := (if_neg hc).symm.trans hf
      refine z_icmp_ge_t B 7 rfl 18 (by decide) hc ?_
      cases hf
      exact z_vret B 12 rfl hQ hr
/-! ZoneCapacity$Offers.itsOf(II)I -/
def tbX2_itsOf : Tb := [(0, .iload_n 2, 1, 1), (1, .iconst 3, 1, 2), (2, .if_icmp .ne 5, 3, 5), (5, .iconst 0, 1, 6), (6, .ireturn, 1, 7), (7, .aload_n 0, 1, 8), (8, .getfield 43, 3, 11), (11, .iload_n 1, 1, 12), (12, .iconst 3, 1, 13), (13, .imul, 1, 14), (14, .iload_n 2, 1, 15), (15, .iadd, 1, 16), (16, .invokestatic 57, 3, 19), (19, .istore_n 3, 1, 20), (20, .aload_n 0, 1, 21), (21, .getfield 34, 3, 24), (24, .iload_n 1, 1, 25), (25, .invokestatic 57, 3, 28), (28, .ifCond .ne 23, 3, 31), (31, .iload_n 3, 1, 32), (32, .aload_n 0, 1, 33), (33, .getfield 15, 3, 36), (36, .aload_n 0, 1, 37), (37, .getfield 25, 3, 40), (40, .iload_n 1, 1, 41), (41, .invokestatic 57, 3, 44), (44, .invokestatic 57, 3, 47), (47, .invokestatic 81, 3, 50), (50, .istore_n 3, 1, 51), (51, .aload_n 0, 1, 52), (52, .getfield 31, 3, 55), (55, .iload_n 1, 1, 56), (56, .invokestatic 57, 3, 59), (59, .iconst 1, 1, 60), (60, .if_icmp .ne 14, 3, 63), (63, .iload_n 3, 1, 64), (64, .aload_n 0, 1, 65), (65, .getfield 9, 3, 68), (68, .invokestatic 86, 3, 71), (71, .goto 4, 3, 74), (74, .iload_n 3, 1, 75), (75, .ireturn, 1, 76)]
theorem dtX2_itsOf : ∀ q ∈ tbX2_itsOf, decode cX2_itsOf q.1 = .ok (q.2.1, q.2.2.1) ∧ q.1 + q.2.2.1 = q.2.2.2 := by decide +kernel
theorem miX2_itsOf : MI yX2_itsOf cX2_itsOf 4 (some .int) 2 := ⟨tw_mem (List.mem_of_getElem? (i := 352) (by decide +kernel)) rfl, by decide, by decide +kernel, tw_mem (List.mem_of_getElem? (i := 18) (by decide +kernel)) rfl⟩
abbrev rmX2_itsOf : Room := { frames := 1, cells := 0, slots := 0, locals := 21 }
def wX2_itsOf : List Cond := [.fieldLink "ZoneCapacity$Offers" 43 "ZoneCapacity$Offers" "stepPrices" "[I", .static yX6_at, .fieldLink "ZoneCapacity$Offers" 34 "ZoneCapacity$Offers" "free" "[I", .fieldLink "ZoneCapacity$Offers" 31 "ZoneCapacity$Offers" "must" "[I", .fieldLink "ZoneCapacity$Offers" 9 "ZoneCapacity$Offers" "ceiling" "I", .methodLink "ZoneCapacity$Offers" 86 ⟨"java/lang/Math", "min", "(II)I"⟩, .static ⟨"java/lang/Math", "min", "(II)I"⟩, .initialized "java/lang/Math", .code Lib.Math.min.name Lib.Math.min.code 2 (some .int), .fieldLink "ZoneCapacity$Offers" 15 "ZoneCapacity$Offers" "floors" "[I", .fieldLink "ZoneCapacity$Offers" 25 "ZoneCapacity$Offers" "kinds" "[I", .methodLink "ZoneCapacity$Offers" 81 ⟨"java/lang/Math", "max", "(II)I"⟩, .static ⟨"java/lang/Math", "max", "(II)I"⟩, .code Lib.Math.max.name Lib.Math.max.code 2 (some .int)]
theorem iX2_itsOf : ∀ w ∈ wX2_itsOf, w ∈ TW := tw_of (ids := [123, 272, 118, 117, 108, 356, 357, 26, 358, 109, 114, 353, 354, 355]) (by decide +kernel)
def f2_itsOf_j51 (mm : Mem) (x0 : Nat) (x1 : Int32) (x3 : Int32) : Option Int32 := bd (f6_at mm (x0 + 6) x1) (fun r3 => if r3 = (1 : Int32) then nm (mni x3 (mm x0 1)) (fun v4 => some (v4)) else some (x3))
theorem f2_itsOf_j51_ok {E : Ev} {l : Launch} {C : Cfg} {mm : Mem} {x : Int32} (hj : Dj C) (X : Ec E l C rmX2_itsOf) (B : Bx E RX2 tbX2_itsOf 4 (some .int)) (hQ : Rt E) (hr : Rs E (some (.int x)) mm) (x0 : Nat) (x1 : Int32) (x3 : Int32) (o_x0 : Ob x0 2) (hf : f2_itsOf_j51 mm x0 x1 x3 = some x) : G E 4 51 [(0, .ref x0), (1, .int x1), (3, .int x3)] [] mm := by
  unfold f2_itsOf_j51 at hf
  refine z_aload_n B 29 rfl 0 0 rfl rfl ?_
  refine z_getr 2 7 x0 B 30 rfl o_x0 rfl (iX2_itsOf _ (List.mem_of_getElem? (i := 3) rfl)) rfl ?_
  refine z_iload_n B 31 rfl 1 1 rfl rfl ?_
  obtain ⟨r3, ec, hf⟩ := bd_e hf
  refine z_callN [.ref (x0 + 6), .int x1] [] [.int r3] X B 32 rfl miX6_at ⟨List.mem_of_getElem? (i := 10) rfl, (iX2_itsOf _ (List.mem_of_getElem? (i := 1) rfl))⟩ (ctX6_at hj (obf_2_7 o_x0) ec) ⟨Nat.le_of_ble_eq_true rfl, Nat.le_of_ble_eq_true rfl⟩ rfl rfl (Nat.le_of_ble_eq_true rfl) rfl ?_
  refine z_iconst 1 B 33 rfl (by decide) ?_
  by_cases hc : r3 = (1 : Int32)
  · replace hf := (if_pos hc).symm.trans hf
    refine z_icmp_ne_f B 34 rfl 74 (by decide) hc ?_
    refine z_iload_n B 35 rfl 3 2 rfl rfl ?_
    refine z_aload_n B 36 rfl 0 0 rfl rfl ?_
    refine z_geti 2 1 x0 B 37 rfl o_x0 rfl (iX2_itsOf _ (List.mem_of_getElem? (i := 4) rfl)) rfl ?_
    refine z_mmin X B 38 rfl ⟨(iX2_itsOf _ (List.mem_of_getElem? (i := 5) rfl)), (iX2_itsOf _ (List.mem_of_getElem? (i := 6) rfl)), (iX2_itsOf _ (List.mem_of_getElem? (i := 7) rfl)), (iX2_itsOf _ (List.mem_of_getElem? (i := 8) rfl))⟩ ⟨Nat.le_of_ble_eq_true rfl, Nat.le_of_ble_eq_true rfl⟩ (Nat.le_of_ble_eq_true rfl) ?_
    obtain ⟨v4, ex, hf⟩ := nm_x hf
    refine z_top ex ?_
    refine z_goto B 39 rfl 75 (by decide) ?_
    cases hf
    exact z_iret B 41 rfl rfl hQ hr
  · replace hf := (if_neg hc).symm.trans hf
    refine z_icmp_ne_t B 34 rfl 74 (by decide) hc ?_
    refine z_iload_n B 40 rfl 3 2 rfl rfl ?_
    cases hf
    exact z_iret B 41 rfl rfl hQ hr
def f2_itsOf (mm : Mem) (a0 : Nat) (a1 : Int32) (a2 : Int32) : Option Int32 := if a2 = (3 : Int32) then some ((0 : Int32)) else bd (f6_at mm (a0 + 10) ((a1 * (3 : Int32)) + a2)) (fun r1 => bd (f6_at mm (a0 + 7) a1) (fun r2 => if r2 = 0 then bd (f6_at mm (a0 + 4) a1) (fun r5 => bd (f6_at mm (a0 + 1) r5) (fun r6 => nm (mxi r1 r6) (fun v7 => f2_itsOf_j51 mm a0 a1 v7))) else f2_itsOf_j51 mm a0 a1 r1))
theorem ctX2_itsOf {l : Launch} {C : Cfg} (hj : Dj C) {mm : Mem} {a0 : Nat} {a1 : Int32} {a2 : Int32} {x : Int32} (o_a0 : Ob a0 2) (hf : f2_itsOf mm a0 a1 a2 = some x) : Ct l C yX2_itsOf cX2_itsOf 4 (some .int) 1 21 [.ref a0, .int a1, .int a2] mm (some (.int x)) mm := by
  refine Ct.of (tb := tbX2_itsOf) hj miX2_itsOf.2.1 miX2_itsOf.1 dtX2_itsOf (Nat.le_of_ble_eq_true rfl) ?_
  intro E B hQ hr X
  unfold f2_itsOf at hf
  show G E 4 0 [(0, .ref a0), (1, .int a1), (2, .int a2)] [] mm
  refine z_iload_n B 0 rfl 2 2 rfl rfl ?_
  refine z_iconst 3 B 1 rfl (by decide) ?_
  by_cases hc : a2 = (3 : Int32)
  · replace hf := (if_pos hc).symm.trans hf
    refine z_icmp_ne_f B 2 rfl 7 (by decide) hc ?_
    refine z_iconst 0 B 3 rfl (by decide) ?_
    cases hf
    exact z_iret B 4 rfl rfl hQ hr
  · replace hf := (if_neg hc).symm.trans hf
    refine z_icmp_ne_t B 2 rfl 7 (by decide) hc ?_
    refine z_aload_n B 5 rfl 0 0 rfl rfl ?_
    refine z_getr 2 11 a0 B 6 rfl o_a0 rfl (iX2_itsOf _ (List.mem_of_getElem? (i := 0) rfl)) rfl ?_
    refine z_iload_n B 7 rfl 1 1 rfl rfl ?_
    refine z_iconst 3 B 8 rfl (by decide) ?_
    refine z_imul B 9 rfl ?_
    refine z_iload_n B 10 rfl 2 2 rfl rfl ?_
    refine z_iadd B 11 rfl ?_
    obtain ⟨r1, ec, hf⟩ := bd_e hf
    refine z_callN [.ref (a0 + 10), .int ((a1 * (3 : Int32)) + a2)] [] [.int r1] X B 12 rfl miX6_at ⟨List.mem_of_getElem? (i := 10) rfl, (iX2_itsOf _ (List.mem_of_getElem? (i := 1) rfl))⟩ (ctX6_at hj (obf_2_11 o_a0) ec) ⟨Nat.le_of_ble_eq_true rfl, Nat.le_of_ble_eq_true rfl⟩ rfl rfl (Nat.le_of_ble_eq_true rfl) rfl ?_
    refine z_istore_n [(3, .int r1), (0, .ref a0), (1, .int a1), (2, .int a2)] B 13 rfl 3 rfl (by decide) rfl ?_
    refine z_aload_n B 14 rfl 0 1 rfl rfl ?_
    refine z_getr 2 8 a0 B 15 rfl o_a0 rfl (iX2_itsOf _ (List.mem_of_getElem? (i := 2) rfl)) rfl ?_
    refine z_iload_n B 16 rfl 1 2 rfl rfl ?_
    obtain ⟨r2, ec, hf⟩ := bd_e hf
    refine z_callN [.ref (a0 + 7), .int a1] [] [.int r2] X B 17 rfl miX6_at ⟨List.mem_of_getElem? (i := 10) rfl, (iX2_itsOf _ (List.mem_of_getElem? (i := 1) rfl))⟩ (ctX6_at hj (obf_2_8 o_a0) ec) ⟨Nat.le_of_ble_eq_true rfl, Nat.le_of_ble_eq_true rfl⟩ rfl rfl (Nat.le_of_ble_eq_true rfl) rfl ?_
    by_cases hc : r2 = 0
    · replace hf := (if_pos hc).symm.trans hf
      refine z_if_ne_f B 18 rfl 51 (by decide) hc ?_
      refine z_iload_n B 19 rfl 3 0 rfl rfl ?_
      refine z_aload_n B 20 rfl 0 1 rfl rfl ?_
      refine z_getr 2 2 a0 B 21 rfl o_a0 rfl (iX2_itsOf _ (List.mem_of_getElem? (i := 9) rfl)) rfl ?_
      refine z_aload_n B 22 rfl 0 1 rfl rfl ?_
      refine z_getr 2 5 a0 B 23 rfl o_a0 rfl (iX2_itsOf _ (List.mem_of_getElem? (i := 10) rfl)) rfl ?_
      refine z_iload_n B 24 rfl 1 2 rfl rfl ?_
      obtain ⟨r5, ec, hf⟩ := bd_e hf
      refine z_callN [.ref (a0 + 4), .int a1] [.ref (a0 + 1), .int r1] [.int r5, .ref (a0 + 1), .int r1] X B 25 rfl miX6_at ⟨List.mem_of_getElem? (i := 10) rfl, (iX2_itsOf _ (List.mem_of_getElem? (i := 1) rfl))⟩ (ctX6_at hj (obf_2_5 o_a0) ec) ⟨Nat.le_of_ble_eq_true rfl, Nat.le_of_ble_eq_true rfl⟩ rfl rfl (Nat.le_of_ble_eq_true rfl) rfl ?_
      obtain ⟨r6, ec, hf⟩ := bd_e hf
      refine z_callN [.ref (a0 + 1), .int r5] [.int r1] [.int r6, .int r1] X B 26 rfl miX6_at ⟨List.mem_of_getElem? (i := 10) rfl, (iX2_itsOf _ (List.mem_of_getElem? (i := 1) rfl))⟩ (ctX6_at hj (obf_2_2 o_a0) ec) ⟨Nat.le_of_ble_eq_true rfl, Nat.le_of_ble_eq_true rfl⟩ rfl rfl (Nat.le_of_ble_eq_true rfl) rfl ?_
      refine z_mmax X B 27 rfl ⟨(iX2_itsOf _ (List.mem_of_getElem? (i := 11) rfl)), (iX2_itsOf _ (List.mem_of_getElem? (i := 12) rfl)), (iX2_itsOf _ (List.mem_of_getElem? (i := 7) rfl)), (iX2_itsOf _ (List.mem_of_getElem? (i := 13) rfl))⟩ ⟨Nat.le_of_ble_eq_true rfl, Nat.le_of_ble_eq_true rfl⟩ (Nat.le_of_ble_eq_true rfl) ?_
      obtain ⟨v7, ex, hf⟩ := nm_x hf
      refine z_top ex ?_
      refine z_istore_n [(3, .int v7), (0, .ref a0), (1, .int a1), (2, .int a2)] B 28 rfl 3 rfl (by decide) rfl ?_
      refine z_sub [(0, .ref a0), (1, .int a1), (3, .int v7)] [1, 2, 0] rfl ?_
      exact f2_itsOf_j51_ok hj X B hQ hr _ _ _ o_a0  hf
    · replace hf := (if_neg hc).symm.trans hf
      refine z_if_ne_t B 18 rfl 51 (by decide) hc ?_
      refine z_sub [(0, .ref a0), (1, .int a1), (3, .int r1)] [1, 2, 0] rfl ?_
      exact f2_itsOf_j51_ok hj X B hQ hr _ _ _ o_a0  hf
/-! ZoneCapacity$Auction.readLines()V -/
def tbX0_readLines : Tb := [(0, .aload_n 0, 1, 1), (1, .getfield 12, 3, 4), (4, .getfield 85, 3, 7), (7, .astore_n 1, 1, 8), (8, .iconst 0, 1, 9), (9, .istore_n 2, 1, 10), (10, .iload_n 2, 1, 11), (11, .aload_n 1, 1, 12), (12, .getfield 89, 3, 15), (15, .if_icmp .ge 58, 3, 18), (18, .iconst 0, 1, 19), (19, .istore_n 3, 1, 20), (20, .iload_n 3, 1, 21), (21, .iconst 4, 1, 22), (22, .if_icmp .ge 45, 3, 25), (25, .aload_n 0, 1, 26), (26, .getfield 31, 3, 29), (29, .iload_n 2, 1, 30), (30, .iconst 4, 1, 31), (31, .imul, 1, 32), (32, .iload_n 3, 1, 33), (33, .iadd, 1, 34), (34, .aload_n 1, 1, 35), (35, .iload_n 2, 1, 36), (36, .iload_n 3, 1, 37), (37, .invokevirtual 92, 3, 40), (40, .invokestatic 56, 3, 43), (43, .aload_n 0, 1, 44), (44, .getfield 34, 3, 47), (47, .iload_n 2, 1, 48), (48, .iconst 4, 1, 49), (49, .imul, 1, 50), (50, .iload_n 3, 1, 51), (51, .iadd, 1, 52), (52, .aload_n 1, 1, 53), (53, .iload_n 2, 1, 54), (54, .iload_n 3, 1, 55), (55, .invokevirtual 95, 3, 58), (58, .invokestatic 56, 3, 61), (61, .iinc 3 1, 3, 64), (64, .goto (-44), 3, 67), (67, .iinc 2 1, 3, 70), (70, .goto (-60), 3, 73), (73, .return_, 1, 74)]
theorem dtX0_readLines : ∀ q ∈ tbX0_readLines, decode cX0_readLines q.1 = .ok (q.2.1, q.2.2.1) ∧ q.1 + q.2.2.1 = q.2.2.2 := by decide +kernel
theorem miX0_readLines : MI yX0_readLines cX0_readLines 4 none 0 := ⟨tw_mem (List.mem_of_getElem? (i := 339) (by decide +kernel)) rfl, by decide, by decide +kernel, tw_mem (List.mem_of_getElem? (i := 15) (by decide +kernel)) rfl⟩
abbrev rmX0_readLines : Room := { frames := 3, cells := 0, slots := 0, locals := 66 }
def wX0_readLines : List Cond := [.fieldLink "ZoneCapacity$Auction" 12 "ZoneCapacity$Auction" "market" "LZoneCapacity$Market;", .fieldLink "ZoneCapacity$Auction" 85 "ZoneCapacity$Market" "offers" "LZoneCapacity$Offers;", .fieldLink "ZoneCapacity$Auction" 89 "ZoneCapacity$Offers" "many" "I", .fieldLink "ZoneCapacity$Auction" 31 "ZoneCapacity$Auction" "units" "[I", .methodLink "ZoneCapacity$Auction" 92 yX2_unitsOf, .instanceMethod yX2_unitsOf, .selects "ZoneCapacity$Offers" yX2_unitsOf yX2_unitsOf, .static yX6_put, .fieldLink "ZoneCapacity$Auction" 34 "ZoneCapacity$Auction" "its" "[I", .methodLink "ZoneCapacity$Auction" 95 yX2_itsOf, .instanceMethod yX2_itsOf, .selects "ZoneCapacity$Offers" yX2_itsOf yX2_itsOf]
theorem iX0_readLines : ∀ w ∈ wX0_readLines, w ∈ TW := tw_of (ids := [160, 153, 106, 170, 340, 341, 342, 291, 171, 349, 350, 351]) (by decide +kernel)
def f0_readLines_l20 (k10 : Nat → Nat → Int32 → Mem → Option Mem) : Nat → Nat → Nat → Int32 → Int32 → Mem → Option Mem
  | 0, _, _, _, _, _ => none
  | n + 1, x0, x1, x2, x3, mm => if x3 < (4 : Int32) then bd (f2_unitsOf mm x1 x2 x3) (fun r2 => bd (f6_put mm (x0 + 24) ((x2 * (4 : Int32)) + x3) r2) (fun r3 => bd (f2_itsOf r3 x1 x2 x3) (fun r4 => bd (f6_put r3 (x0 + 25) ((x2 * (4 : Int32)) + x3) r4) (fun r5 => nm (x3 + 1) (fun v6 => f0_readLines_l20 k10 n x0 x1 x2 v6 r5))))) else nm (x2 + 1) (fun v1 => k10 x0 x1 v1 mm)
theorem f0_readLines_l20_ok {E : Ev} {l : Launch} {C : Cfg} {x : Mem} {k10 : Nat → Nat → Int32 → Mem → Option Mem} (hj : Dj C) (X : Ec E l C rmX0_readLines) (B : Bx E RX0 tbX0_readLines 4 none) (hQ : Rt E) (hr : Rs E none x) (hk10 : ∀ (x0 : Nat) (x1 : Nat) (x2 : Int32) (mm : Mem), Ob x0 0 → Ob x1 2 → k10 x0 x1 x2 mm = some x → G E 4 10 [(0, .ref x0), (1, .ref x1), (2, .int x2)] [] mm) (n : Nat) : ∀ (x0 : Nat) (x1 : Nat) (x2 : Int32) (x3 : Int32) (mm : Mem), Ob x0 0 → Ob x1 2 → f0_readLines_l20 k10 n x0 x1 x2 x3 mm = some x → G E 4 20 [(0, .ref x0), (1, .ref x1), (2, .int x2), (3, .int x3)] [] mm := by
  induction n with
  | zero =>
    intro x0 x1 x2 x3 mm o_x0 o_x1 hf
    rw [f0_readLines_l20] at hf
    cases hf
  | succ n ih =>
    intro x0 x1 x2 x3 mm o_x0 o_x1 hf
    rw [f0_readLines_l20] at hf
    refine z_iload_n B 12 rfl 3 3 rfl rfl ?_
    refine z_iconst 4 B 13 rfl (by decide) ?_
    by_cases hc : x3 < (4 : Int32)
    · replace hf := (if_pos hc).symm.trans hf
      refine z_icmp_ge_f B 14 rfl 67 (by decide) hc ?_
      refine z_aload_n B 15 rfl 0 0 rfl rfl ?_
      refine z_getr 0 5 x0 B 16 rfl o_x0 rfl (iX0_readLines _ (List.mem_of_getElem? (i := 3) rfl)) rfl ?_
      refine z_iload_n B 17 rfl 2 2 rfl rfl ?_
      refine z_iconst 4 B 18 rfl (by decide) ?_
      refine z_imul B 19 rfl ?_
      refine z_iload_n B 20 rfl 3 3 rfl rfl ?_
      refine z_iadd B 21 rfl ?_
      refine z_aload_n B 22 rfl 1 1 rfl rfl ?_
      refine z_iload_n B 23 rfl 2 2 rfl rfl ?_
      refine z_iload_n B 24 rfl 3 3 rfl rfl ?_
      obtain ⟨r2, ec, hf⟩ := bd_e hf
      refine z_callV x1 2 [.int x2, .int x3] [.int ((x2 * (4 : Int32)) + x3), .ref (x0 + 24)] [.int r2, .int ((x2 * (4 : Int32)) + x3), .ref (x0 + 24)] X B 25 rfl (by decide) o_x1 rfl rfl miX2_unitsOf ⟨(iX0_readLines _ (List.mem_of_getElem? (i := 4) rfl)), (iX0_readLines _ (List.mem_of_getElem? (i := 5) rfl)), (iX0_readLines _ (List.mem_of_getElem? (i := 6) rfl))⟩ (ctX2_unitsOf hj o_x1 ec) ⟨Nat.le_of_ble_eq_true rfl, Nat.le_of_ble_eq_true rfl⟩ rfl rfl (Nat.le_of_ble_eq_true rfl) rfl ?_
      obtain ⟨r3, ec, hf⟩ := bd_e hf
      refine z_callN [.ref (x0 + 24), .int ((x2 * (4 : Int32)) + x3), .int r2] [] [] X B 26 rfl miX6_put ⟨List.mem_of_getElem? (i := 12) rfl, (iX0_readLines _ (List.mem_of_getElem? (i := 7) rfl))⟩ (ctX6_put hj (obf_0_5 o_x0) ec) ⟨Nat.le_of_ble_eq_true rfl, Nat.le_of_ble_eq_true rfl⟩ rfl rfl (Nat.le_of_ble_eq_true rfl) rfl ?_
      refine z_aload_n B 27 rfl 0 0 rfl rfl ?_
      refine z_getr 0 6 x0 B 28 rfl o_x0 rfl (iX0_readLines _ (List.mem_of_getElem? (i := 8) rfl)) rfl ?_
      refine z_iload_n B 29 rfl 2 2 rfl rfl ?_
      refine z_iconst 4 B 30 rfl (by decide) ?_
      refine z_imul B 31 rfl ?_
      refine z_iload_n B 32 rfl 3 3 rfl rfl ?_
      refine z_iadd B 33 rfl ?_
      refine z_aload_n B 34 rfl 1 1 rfl rfl ?_
      refine z_iload_n B 35 rfl 2 2 rfl rfl ?_
      refine z_iload_n B 36 rfl 3 3 rfl rfl ?_
      obtain ⟨r4, ec, hf⟩ := bd_e hf
      refine z_callV x1 2 [.int x2, .int x3] [.int ((x2 * (4 : Int32)) + x3), .ref (x0 + 25)] [.int r4, .int ((x2 * (4 : Int32)) + x3), .ref (x0 + 25)] X B 37 rfl (by decide) o_x1 rfl rfl miX2_itsOf ⟨(iX0_readLines _ (List.mem_of_getElem? (i := 9) rfl)), (iX0_readLines _ (List.mem_of_getElem? (i := 10) rfl)), (iX0_readLines _ (List.mem_of_getElem? (i := 11) rfl))⟩ (ctX2_itsOf hj o_x1 ec) ⟨Nat.le_of_ble_eq_true rfl, Nat.le_of_ble_eq_true rfl⟩ rfl rfl (Nat.le_of_ble_eq_true rfl) rfl ?_
      obtain ⟨r5, ec, hf⟩ := bd_e hf
      refine z_callN [.ref (x0 + 25), .int ((x2 * (4 : Int32)) + x3), .int r4] [] [] X B 38 rfl miX6_put ⟨List.mem_of_getElem? (i := 12) rfl, (iX0_readLines _ (List.mem_of_getElem? (i := 7) rfl))⟩ (ctX6_put hj (obf_0_6 o_x0) ec) ⟨Nat.le_of_ble_eq_true rfl, Nat.le_of_ble_eq_true rfl⟩ rfl rfl (Nat.le_of_ble_eq_true rfl) rfl ?_
      obtain ⟨v6, ex, hf⟩ := nm_x hf
      refine z_iinc v6 [(3, .int v6), (0, .ref x0), (1, .ref x1), (2, .int x2)] B 39 rfl 3 rfl (ex.symm) (by decide) rfl ?_
      refine z_goto B 40 rfl 20 (by decide) ?_
      refine z_sub [(0, .ref x0), (1, .ref x1), (2, .int x2), (3, .int v6)] [1, 2, 3, 0] rfl ?_
      exact ih _ _ _ _ _ o_x0 o_x1  hf
    · replace hf := (if_neg hc).symm.trans hf
      refine z_icmp_ge_t B 14 rfl 67 (by decide) hc ?_
      obtain ⟨v1, ex, hf⟩ := nm_x hf
      refine z_iinc v1 [(2, .int v1), (0, .ref x0), (1, .ref x1), (3, .int x3)] B 41 rfl 2 rfl (ex.symm) (by decide) rfl ?_
      refine z_goto B 42 rfl 10 (by decide) ?_
      refine z_sub [(0, .ref x0), (1, .ref x1), (2, .int v1)] [1, 2, 0] rfl ?_
      exact hk10 _ _ _ _ o_x0 o_x1  hf
def f0_readLines_l10 : Nat → Nat → Nat → Int32 → Mem → Option Mem
  | 0, _, _, _, _ => none
  | n + 1, x0, x1, x2, mm => if x2 < (mm x1 0) then f0_readLines_l20 (fun x0 x1 x2 mm => f0_readLines_l10 n x0 x1 x2 mm) FU x0 x1 x2 (0 : Int32) mm else some mm
theorem f0_readLines_l10_ok {E : Ev} {l : Launch} {C : Cfg} {x : Mem} (hj : Dj C) (X : Ec E l C rmX0_readLines) (B : Bx E RX0 tbX0_readLines 4 none) (hQ : Rt E) (hr : Rs E none x) (n : Nat) : ∀ (x0 : Nat) (x1 : Nat) (x2 : Int32) (mm : Mem), Ob x0 0 → Ob x1 2 → f0_readLines_l10 n x0 x1 x2 mm = some x → G E 4 10 [(0, .ref x0), (1, .ref x1), (2, .int x2)] [] mm := by
  induction n with
  | zero =>
    intro x0 x1 x2 mm o_x0 o_x1 hf
    rw [f0_readLines_l10] at hf
    cases hf
  | succ n ih =>
    intro x0 x1 x2 mm o_x0 o_x1 hf
    rw [f0_readLines_l10] at hf
    refine z_iload_n B 6 rfl 2 2 rfl rfl ?_
    refine z_aload_n B 7 rfl 1 1 rfl rfl ?_
    refine z_geti 2 0 x1 B 8 rfl o_x1 rfl (iX0_readLines _ (List.mem_of_getElem? (i := 2) rfl)) rfl ?_
    by_cases hc : x2 < (mm x1 0)
    · replace hf := (if_pos hc).symm.trans hf
      refine z_icmp_ge_f B 9 rfl 73 (by decide) hc ?_
      refine z_iconst 0 B 10 rfl (by decide) ?_
      refine z_istore_n [(3, .int (0 : Int32)), (0, .ref x0), (1, .ref x1), (2, .int x2)] B 11 rfl 3 rfl (by decide) rfl ?_
      refine z_sub [(0, .ref x0), (1, .ref x1), (2, .int x2), (3, .int (0 : Int32))] [1, 2, 3, 0] rfl ?_
      exact f0_readLines_l20_ok hj X B hQ hr ih FU _ _ _ _ _ o_x0 o_x1  hf
    · replace hf := (if_neg hc).symm.trans hf
      refine z_icmp_ge_t B 9 rfl 73 (by decide) hc ?_
      cases hf
      exact z_vret B 43 rfl hQ hr
def f0_readLines (mm : Mem) (a0 : Nat) : Option Mem := f0_readLines_l10 FU a0 (a0 + 1 + 8) (0 : Int32) mm
theorem ctX0_readLines {l : Launch} {C : Cfg} (hj : Dj C) {mm : Mem} {a0 : Nat} {x : Mem} (o_a0 : Ob a0 0) (hf : f0_readLines mm a0 = some x) : Ct l C yX0_readLines cX0_readLines 4 none 3 66 [.ref a0] mm none x := by
  refine Ct.of (tb := tbX0_readLines) hj miX0_readLines.2.1 miX0_readLines.1 dtX0_readLines (Nat.le_of_ble_eq_true rfl) ?_
  intro E B hQ hr X
  unfold f0_readLines at hf
  show G E 4 0 [(0, .ref a0)] [] mm
  refine z_aload_n B 0 rfl 0 0 rfl rfl ?_
  refine z_getr 0 0 a0 B 1 rfl o_a0 rfl (iX0_readLines _ (List.mem_of_getElem? (i := 0) rfl)) rfl ?_
  refine z_getr 1 1 (a0 + 1) B 2 rfl (obf_0_0 o_a0) rfl (iX0_readLines _ (List.mem_of_getElem? (i := 1) rfl)) rfl ?_
  refine z_astore_n [(1, .ref (a0 + 1 + 8)), (0, .ref a0)] B 3 rfl 1 rfl (by decide) rfl ?_
  refine z_iconst 0 B 4 rfl (by decide) ?_
  refine z_istore_n [(2, .int (0 : Int32)), (1, .ref (a0 + 1 + 8)), (0, .ref a0)] B 5 rfl 2 rfl (by decide) rfl ?_
  refine z_sub [(0, .ref a0), (1, .ref (a0 + 1 + 8)), (2, .int (0 : Int32))] [2, 1, 0] rfl ?_
  exact f0_readLines_l10_ok hj X B hQ hr FU _ _ _ _ o_a0 (obf_1_1 (obf_0_0 o_a0))  hf
/-! ZoneCapacity$Zones.firstPrice(I)I -/
def tbX5_firstPrice : Tb := [(0, .aload_n 0, 1, 1), (1, .getfield 25, 3, 4), (4, .iload_n 1, 1, 5), (5, .invokestatic 46, 3, 8), (8, .ifCond .ne 7, 3, 11), (11, .iconst 0, 1, 12), (12, .goto 13, 3, 15), (15, .aload_n 0, 1, 16), (16, .getfield 31, 3, 19), (19, .iload_n 1, 1, 20), (20, .iconst 4, 1, 21), (21, .imul, 1, 22), (22, .invokestatic 46, 3, 25), (25, .ireturn, 1, 26)]
theorem dtX5_firstPrice : ∀ q ∈ tbX5_firstPrice, decode cX5_firstPrice q.1 = .ok (q.2.1, q.2.2.1) ∧ q.1 + q.2.2.1 = q.2.2.2 := by decide +kernel
theorem miX5_firstPrice : MI yX5_firstPrice cX5_firstPrice 2 (some .int) 1 := ⟨tw_mem (List.mem_of_getElem? (i := 366) (by decide +kernel)) rfl, by decide, by decide +kernel, tw_mem (List.mem_of_getElem? (i := 17) (by decide +kernel)) rfl⟩
abbrev rmX5_firstPrice : Room := { frames := 1, cells := 0, slots := 0, locals := 21 }
def wX5_firstPrice : List Cond := [.fieldLink "ZoneCapacity$Zones" 25 "ZoneCapacity$Zones" "points" "[I", .static yX6_at, .fieldLink "ZoneCapacity$Zones" 31 "ZoneCapacity$Zones" "pointPrices" "[I"]
theorem iX5_firstPrice : ∀ w ∈ wX5_firstPrice, w ∈ TW := tw_of (ids := [79, 272, 82]) (by decide +kernel)
def f5_firstPrice (mm : Mem) (a0 : Nat) (a1 : Int32) : Option Int32 := bd (f6_at mm (a0 + 4) a1) (fun r1 => if r1 = 0 then some ((0 : Int32)) else bd (f6_at mm (a0 + 6) (a1 * (4 : Int32))) (fun r2 => some (r2)))
theorem ctX5_firstPrice {l : Launch} {C : Cfg} (hj : Dj C) {mm : Mem} {a0 : Nat} {a1 : Int32} {x : Int32} (o_a0 : Ob a0 5) (hf : f5_firstPrice mm a0 a1 = some x) : Ct l C yX5_firstPrice cX5_firstPrice 2 (some .int) 1 21 [.ref a0, .int a1] mm (some (.int x)) mm := by
  refine Ct.of (tb := tbX5_firstPrice) hj miX5_firstPrice.2.1 miX5_firstPrice.1 dtX5_firstPrice (Nat.le_of_ble_eq_true rfl) ?_
  intro E B hQ hr X
  unfold f5_firstPrice at hf
  show G E 2 0 [(0, .ref a0), (1, .int a1)] [] mm
  refine z_aload_n B 0 rfl 0 0 rfl rfl ?_
  refine z_getr 5 4 a0 B 1 rfl o_a0 rfl (iX5_firstPrice _ (List.mem_of_getElem? (i := 0) rfl)) rfl ?_
  refine z_iload_n B 2 rfl 1 1 rfl rfl ?_
  obtain ⟨r1, ec, hf⟩ := bd_e hf
  refine z_callN [.ref (a0 + 4), .int a1] [] [.int r1] X B 3 rfl miX6_at ⟨List.mem_of_getElem? (i := 8) rfl, (iX5_firstPrice _ (List.mem_of_getElem? (i := 1) rfl))⟩ (ctX6_at hj (obf_5_4 o_a0) ec) ⟨Nat.le_of_ble_eq_true rfl, Nat.le_of_ble_eq_true rfl⟩ rfl rfl (Nat.le_of_ble_eq_true rfl) rfl ?_
  by_cases hc : r1 = 0
  · replace hf := (if_pos hc).symm.trans hf
    refine z_if_ne_f B 4 rfl 15 (by decide) hc ?_
    refine z_iconst 0 B 5 rfl (by decide) ?_
    refine z_goto B 6 rfl 25 (by decide) ?_
    cases hf
    exact z_iret B 13 rfl rfl hQ hr
  · replace hf := (if_neg hc).symm.trans hf
    refine z_if_ne_t B 4 rfl 15 (by decide) hc ?_
    refine z_aload_n B 7 rfl 0 0 rfl rfl ?_
    refine z_getr 5 6 a0 B 8 rfl o_a0 rfl (iX5_firstPrice _ (List.mem_of_getElem? (i := 2) rfl)) rfl ?_
    refine z_iload_n B 9 rfl 1 1 rfl rfl ?_
    refine z_iconst 4 B 10 rfl (by decide) ?_
    refine z_imul B 11 rfl ?_
    obtain ⟨r2, ec, hf⟩ := bd_e hf
    refine z_callN [.ref (a0 + 6), .int (a1 * (4 : Int32))] [] [.int r2] X B 12 rfl miX6_at ⟨List.mem_of_getElem? (i := 8) rfl, (iX5_firstPrice _ (List.mem_of_getElem? (i := 1) rfl))⟩ (ctX6_at hj (obf_5_6 o_a0) ec) ⟨Nat.le_of_ble_eq_true rfl, Nat.le_of_ble_eq_true rfl⟩ rfl rfl (Nat.le_of_ble_eq_true rfl) rfl ?_
    cases hf
    exact z_iret B 13 rfl rfl hQ hr
/-! ZoneCapacity$Auction.readTop()V -/
def tbX0_readTop : Tb := [(0, .aload_n 0, 1, 1), (1, .iconst 0, 1, 2), (2, .putfield 98, 3, 5), (5, .iconst 0, 1, 6), (6, .istore_n 1, 1, 7), (7, .iload_n 1, 1, 8), (8, .aload_n 0, 1, 9), (9, .getfield 12, 3, 12), (12, .getfield 60, 3, 15), (15, .getfield 64, 3, 18), (18, .if_icmp .ge 31, 3, 21), (21, .aload_n 0, 1, 22), (22, .aload_n 0, 1, 23), (23, .getfield 98, 3, 26), (26, .aload_n 0, 1, 27), (27, .getfield 12, 3, 30), (30, .getfield 60, 3, 33), (33, .iload_n 1, 1, 34), (34, .invokevirtual 101, 3, 37), (37, .invokestatic 105, 3, 40), (40, .putfield 98, 3, 43), (43, .iinc 1 1, 3, 46), (46, .goto (-39), 3, 49), (49, .return_, 1, 50)]
theorem dtX0_readTop : ∀ q ∈ tbX0_readTop, decode cX0_readTop q.1 = .ok (q.2.1, q.2.2.1) ∧ q.1 + q.2.2.1 = q.2.2.2 := by decide +kernel
theorem miX0_readTop : MI yX0_readTop cX0_readTop 2 none 0 := ⟨tw_mem (List.mem_of_getElem? (i := 362) (by decide +kernel)) rfl, by decide, by decide +kernel, tw_mem (List.mem_of_getElem? (i := 15) (by decide +kernel)) rfl⟩
abbrev rmX0_readTop : Room := { frames := 2, cells := 0, slots := 0, locals := 42 }
def wX0_readTop : List Cond := [.fieldLink "ZoneCapacity$Auction" 98 "ZoneCapacity$Auction" "top" "I", .fieldLink "ZoneCapacity$Auction" 12 "ZoneCapacity$Auction" "market" "LZoneCapacity$Market;", .fieldLink "ZoneCapacity$Auction" 60 "ZoneCapacity$Market" "zones" "LZoneCapacity$Zones;", .fieldLink "ZoneCapacity$Auction" 64 "ZoneCapacity$Zones" "many" "I", .methodLink "ZoneCapacity$Auction" 101 yX5_firstPrice, .instanceMethod yX5_firstPrice, .selects "ZoneCapacity$Zones" yX5_firstPrice yX5_firstPrice, .methodLink "ZoneCapacity$Auction" 105 ⟨"java/lang/Math", "max", "(II)I"⟩, .static ⟨"java/lang/Math", "max", "(II)I"⟩, .initialized "java/lang/Math", .code Lib.Math.max.name Lib.Math.max.code 2 (some .int)]
theorem iX0_readTop : ∀ w ∈ wX0_readTop, w ∈ TW := tw_of (ids := [176, 160, 150, 69, 363, 364, 365, 367, 354, 26, 355]) (by decide +kernel)
def f0_readTop_l7 : Nat → Nat → Int32 → Mem → Option Mem
  | 0, _, _, _ => none
  | n + 1, x0, x1, mm => if x1 < (mm (x0 + 1 + 1) 0) then bd (f5_firstPrice mm (x0 + 1 + 1) x1) (fun r2 => nm (mxi (mm x0 11) r2) (fun v3 => nm (up2 mm x0 11 v3) (fun m4 => nm (x1 + 1) (fun v5 => f0_readTop_l7 n x0 v5 m4)))) else some mm
theorem f0_readTop_l7_ok {E : Ev} {l : Launch} {C : Cfg} {x : Mem} (hj : Dj C) (X : Ec E l C rmX0_readTop) (B : Bx E RX0 tbX0_readTop 2 none) (hQ : Rt E) (hr : Rs E none x) (n : Nat) : ∀ (x0 : Nat) (x1 : Int32) (mm : Mem), Ob x0 0 → f0_readTop_l7 n x0 x1 mm = some x → G E 2 7 [(0, .ref x0), (1, .int x1)] [] mm := by
  induction n with
  | zero =>
    intro x0 x1 mm o_x0 hf
    rw [f0_readTop_l7] at hf
    cases hf
  | succ n ih =>
    intro x0 x1 mm o_x0 hf
    rw [f0_readTop_l7] at hf
    refine z_iload_n B 5 rfl 1 1 rfl rfl ?_
    refine z_aload_n B 6 rfl 0 0 rfl rfl ?_
    refine z_getr 0 0 x0 B 7 rfl o_x0 rfl (iX0_readTop _ (List.mem_of_getElem? (i := 1) rfl)) rfl ?_
    refine z_getr 1 0 (x0 + 1) B 8 rfl (obf_0_0 o_x0) rfl (iX0_readTop _ (List.mem_of_getElem? (i := 2) rfl)) rfl ?_
    refine z_geti 5 0 (x0 + 1 + 1) B 9 rfl (obf_1_0 (obf_0_0 o_x0)) rfl (iX0_readTop _ (List.mem_of_getElem? (i := 3) rfl)) rfl ?_
    by_cases hc : x1 < (mm (x0 + 1 + 1) 0)
    · replace hf := (if_pos hc).symm.trans hf
      refine z_icmp_ge_f B 10 rfl 49 (by decide) hc ?_
      refine z_aload_n B 11 rfl 0 0 rfl rfl ?_
      refine z_aload_n B 12 rfl 0 0 rfl rfl ?_
      refine z_geti 0 11 x0 B 13 rfl o_x0 rfl (iX0_readTop _ (List.mem_of_getElem? (i := 0) rfl)) rfl ?_
      refine z_aload_n B 14 rfl 0 0 rfl rfl ?_
      refine z_getr 0 0 x0 B 15 rfl o_x0 rfl (iX0_readTop _ (List.mem_of_getElem? (i := 1) rfl)) rfl ?_
      refine z_getr 1 0 (x0 + 1) B 16 rfl (obf_0_0 o_x0) rfl (iX0_readTop _ (List.mem_of_getElem? (i := 2) rfl)) rfl ?_
      refine z_iload_n B 17 rfl 1 1 rfl rfl ?_
      obtain ⟨r2, ec, hf⟩ := bd_e hf
      refine z_callV (x0 + 1 + 1) 5 [.int x1] [.int (mm x0 11), .ref x0] [.int r2, .int (mm x0 11), .ref x0] X B 18 rfl (by decide) (obf_1_0 (obf_0_0 o_x0)) rfl rfl miX5_firstPrice ⟨(iX0_readTop _ (List.mem_of_getElem? (i := 4) rfl)), (iX0_readTop _ (List.mem_of_getElem? (i := 5) rfl)), (iX0_readTop _ (List.mem_of_getElem? (i := 6) rfl))⟩ (ctX5_firstPrice hj (obf_1_0 (obf_0_0 o_x0)) ec) ⟨Nat.le_of_ble_eq_true rfl, Nat.le_of_ble_eq_true rfl⟩ rfl rfl (Nat.le_of_ble_eq_true rfl) rfl ?_
      refine z_mmax X B 19 rfl ⟨(iX0_readTop _ (List.mem_of_getElem? (i := 7) rfl)), (iX0_readTop _ (List.mem_of_getElem? (i := 8) rfl)), (iX0_readTop _ (List.mem_of_getElem? (i := 9) rfl)), (iX0_readTop _ (List.mem_of_getElem? (i := 10) rfl))⟩ ⟨Nat.le_of_ble_eq_true rfl, Nat.le_of_ble_eq_true rfl⟩ (Nat.le_of_ble_eq_true rfl) ?_
      obtain ⟨v3, ex, hf⟩ := nm_x hf
      refine z_top ex ?_
      refine z_puti 0 11 x0 B 20 rfl o_x0 rfl (iX0_readTop _ (List.mem_of_getElem? (i := 0) rfl)) rfl (ty := .int) (by decide) rfl rfl rfl ?_
      obtain ⟨m4, ex, hf⟩ := nm_x hf
      refine z_mem ex ?_
      obtain ⟨v5, ex, hf⟩ := nm_x hf
      refine z_iinc v5 [(1, .int v5), (0, .ref x0)] B 21 rfl 1 rfl (ex.symm) (by decide) rfl ?_
      refine z_goto B 22 rfl 7 (by decide) ?_
      refine z_sub [(0, .ref x0), (1, .int v5)] [1, 0] rfl ?_
      exact ih _ _ _ o_x0  hf
    · replace hf := (if_neg hc).symm.trans hf
      refine z_icmp_ge_t B 10 rfl 49 (by decide) hc ?_
      cases hf
      exact z_vret B 23 rfl hQ hr
def f0_readTop (mm : Mem) (a0 : Nat) : Option Mem := nm (up2 mm a0 11 (0 : Int32)) (fun m1 => f0_readTop_l7 FU a0 (0 : Int32) m1)
theorem ctX0_readTop {l : Launch} {C : Cfg} (hj : Dj C) {mm : Mem} {a0 : Nat} {x : Mem} (o_a0 : Ob a0 0) (hf : f0_readTop mm a0 = some x) : Ct l C yX0_readTop cX0_readTop 2 none 2 42 [.ref a0] mm none x := by
  refine Ct.of (tb := tbX0_readTop) hj miX0_readTop.2.1 miX0_readTop.1 dtX0_readTop (Nat.le_of_ble_eq_true rfl) ?_
  intro E B hQ hr X
  unfold f0_readTop at hf
  show G E 2 0 [(0, .ref a0)] [] mm
  refine z_aload_n B 0 rfl 0 0 rfl rfl ?_
  refine z_iconst 0 B 1 rfl (by decide) ?_
  refine z_puti 0 11 a0 B 2 rfl o_a0 rfl (iX0_readTop _ (List.mem_of_getElem? (i := 0) rfl)) rfl (ty := .int) (by decide) rfl rfl rfl ?_
  obtain ⟨m1, ex, hf⟩ := nm_x hf
  refine z_mem ex ?_
  refine z_iconst 0 B 3 rfl (by decide) ?_
  refine z_istore_n [(1, .int (0 : Int32)), (0, .ref a0)] B 4 rfl 1 rfl (by decide) rfl ?_
  refine z_sub [(0, .ref a0), (1, .int (0 : Int32))] [1, 0] rfl ?_
  exact f0_readTop_l7_ok hj X B hQ hr FU _ _ _ o_a0  hf
/-! ZoneCapacity$Zones.wantedBetween(IIII)I -/
def tbX5_wantedBetween : Tb := [(0, .iload_n 0, 1, 1), (1, .iload_n 1, 1, 2), (2, .isub, 1, 3), (3, .istore 4, 2, 5), (5, .iload 4, 2, 7), (7, .ifCond .gt 5, 3, 10), (10, .iconst 0, 1, 11), (11, .ireturn, 1, 12), (12, .iload_n 0, 1, 13), (13, .iload_n 3, 1, 14), (14, .isub, 1, 15), (15, .iconst 1, 1, 16), (16, .iadd, 1, 17), (17, .iload_n 2, 1, 18), (18, .imul, 1, 19), (19, .iconst 1, 1, 20), (20, .isub, 1, 21), (21, .iload 4, 2, 23), (23, .idiv, 1, 24), (24, .ireturn, 1, 25)]
theorem dtX5_wantedBetween : ∀ q ∈ tbX5_wantedBetween, decode cX5_wantedBetween q.1 = .ok (q.2.1, q.2.2.1) ∧ q.1 + q.2.2.1 = q.2.2.2 := by decide +kernel
theorem miX5_wantedBetween : MI yX5_wantedBetween cX5_wantedBetween 5 (some .int) 4 := ⟨tw_mem (List.mem_of_getElem? (i := 383) (by decide +kernel)) rfl, by decide, by decide +kernel, tw_mem (List.mem_of_getElem? (i := 17) (by decide +kernel)) rfl⟩
abbrev rmX5_wantedBetween : Room := { frames := 0, cells := 0, slots := 0, locals := 0 }
def f5_wantedBetween (mm : Mem) (a0 : Int32) (a1 : Int32) (a2 : Int32) (a3 : Int32) : Option Int32 := nm (a0 - a1) (fun v1 => if 0 < v1 then dvz v1 (some (((((a0 - a3) + (1 : Int32)) * a2) - (1 : Int32)) / v1)) else some ((0 : Int32)))
theorem ctX5_wantedBetween {l : Launch} {C : Cfg} (hj : Dj C) {mm : Mem} {a0 : Int32} {a1 : Int32} {a2 : Int32} {a3 : Int32} {x : Int32} (hf : f5_wantedBetween mm a0 a1 a2 a3 = some x) : Ct l C yX5_wantedBetween cX5_wantedBetween 5 (some .int) 0 0 [.int a0, .int a1, .int a2, .int a3] mm (some (.int x)) mm := by
  refine Ct.of (tb := tbX5_wantedBetween) hj miX5_wantedBetween.2.1 miX5_wantedBetween.1 dtX5_wantedBetween (Nat.le_of_ble_eq_true rfl) ?_
  intro E B hQ hr X
  unfold f5_wantedBetween at hf
  show G E 5 0 [(0, .int a0), (1, .int a1), (2, .int a2), (3, .int a3)] [] mm
  refine z_iload_n B 0 rfl 0 0 rfl rfl ?_
  refine z_iload_n B 1 rfl 1 1 rfl rfl ?_
  refine z_isub B 2 rfl ?_
  obtain ⟨v1, ex, hf⟩ := nm_x hf
  refine z_top ex ?_
  refine z_istore [(4, .int v1), (0, .int a0), (1, .int a1), (2, .int a2), (3, .int a3)] B 3 rfl (by decide) rfl ?_
  refine z_iload B 4 rfl 0 rfl ?_
  by_cases hc : 0 < v1
  · replace hf := (if_pos hc).symm.trans hf
    refine z_if_gt_t B 5 rfl 12 (by decide) hc ?_
    refine z_iload_n B 8 rfl 0 1 rfl rfl ?_
    refine z_iload_n B 9 rfl 3 4 rfl rfl ?_
    refine z_isub B 10 rfl ?_
    refine z_iconst 1 B 11 rfl (by decide) ?_
    refine z_iadd B 12 rfl ?_
    refine z_iload_n B 13 rfl 2 3 rfl rfl ?_
    refine z_imul B 14 rfl ?_
    refine z_iconst 1 B 15 rfl (by decide) ?_
    refine z_isub B 16 rfl ?_
    refine z_iload B 17 rfl 0 rfl ?_
    obtain ⟨hz, hf⟩ := dvz_e hf
    refine z_idiv B 18 rfl hz ?_
    cases hf
    exact z_iret B 19 rfl rfl hQ hr
  · replace hf := (if_neg hc).symm.trans hf
    refine z_if_gt_f B 5 rfl 12 (by decide) hc ?_
    refine z_iconst 0 B 6 rfl (by decide) ?_
    cases hf
    exact z_iret B 7 rfl rfl hQ hr
/-! ZoneCapacity$Zones.wantedFrom(II)I -/
def tbX5_wantedFrom : Tb := [(0, .iconst 0, 1, 1), (1, .istore_n 3, 1, 2), (2, .iconst 0, 1, 3), (3, .istore 4, 2, 5), (5, .iconst 0, 1, 6), (6, .istore 5, 2, 8), (8, .iload 5, 2, 10), (10, .aload_n 0, 1, 11), (11, .getfield 25, 3, 14), (14, .iload_n 1, 1, 15), (15, .invokestatic 46, 3, 18), (18, .if_icmp .ge 76, 3, 21), (21, .aload_n 0, 1, 22), (22, .getfield 28, 3, 25), (25, .iload_n 1, 1, 26), (26, .iconst 4, 1, 27), (27, .imul, 1, 28), (28, .iload 5, 2, 30), (30, .iadd, 1, 31), (31, .invokestatic 46, 3, 34), (34, .istore 6, 2, 36), (36, .aload_n 0, 1, 37), (37, .getfield 31, 3, 40), (40, .iload_n 1, 1, 41), (41, .iconst 4, 1, 42), (42, .imul, 1, 43), (43, .iload 5, 2, 45), (45, .iadd, 1, 46), (46, .invokestatic 46, 3, 49), (49, .istore 7, 2, 51), (51, .iload 7, 2, 53), (53, .iload_n 2, 1, 54), (54, .if_icmp .ge 27, 3, 57), (57, .iload 5, 2, 59), (59, .ifCond .ne 7, 3, 62), (62, .iconst 0, 1, 63), (63, .goto 17, 3, 66), (66, .iload_n 3, 1, 67), (67, .iload 4, 2, 69), (69, .iload 7, 2, 71), (71, .iload 6, 2, 73), (73, .iload_n 3, 1, 74), (74, .isub, 1, 75), (75, .iload_n 2, 1, 76), (76, .invokestatic 60, 3, 79), (79, .iadd, 1, 80), (80, .ireturn, 1, 81), (81, .iload 6, 2, 83), (83, .istore_n 3, 1, 84), (84, .iload 7, 2, 86), (86, .istore 4, 2, 88), (88, .iinc 5 1, 3, 91), (91, .goto (-83), 3, 94), (94, .iload_n 3, 1, 95), (95, .ireturn, 1, 96)]
theorem dtX5_wantedFrom : ∀ q ∈ tbX5_wantedFrom, decode cX5_wantedFrom q.1 = .ok (q.2.1, q.2.2.1) ∧ q.1 + q.2.2.1 = q.2.2.2 := by decide +kernel
theorem miX5_wantedFrom : MI yX5_wantedFrom cX5_wantedFrom 8 (some .int) 2 := ⟨tw_mem (List.mem_of_getElem? (i := 380) (by decide +kernel)) rfl, by decide, by decide +kernel, tw_mem (List.mem_of_getElem? (i := 17) (by decide +kernel)) rfl⟩
abbrev rmX5_wantedFrom : Room := { frames := 1, cells := 0, slots := 0, locals := 24 }
def wX5_wantedFrom : List Cond := [.fieldLink "ZoneCapacity$Zones" 25 "ZoneCapacity$Zones" "points" "[I", .static yX6_at, .fieldLink "ZoneCapacity$Zones" 28 "ZoneCapacity$Zones" "pointUnits" "[I", .fieldLink "ZoneCapacity$Zones" 31 "ZoneCapacity$Zones" "pointPrices" "[I", .methodLink "ZoneCapacity$Zones" 60 yX5_wantedBetween, .static yX5_wantedBetween]
theorem iX5_wantedFrom : ∀ w ∈ wX5_wantedFrom, w ∈ TW := tw_of (ids := [79, 272, 81, 82, 381, 382]) (by decide +kernel)
def f5_wantedFrom_l8 (mm : Mem) : Nat → Nat → Int32 → Int32 → Int32 → Int32 → Int32 → Option Int32
  | 0, _, _, _, _, _, _ => none
  | n + 1, x0, x1, x2, x3, x4, x5 => bd (f6_at mm (x0 + 4) x1) (fun r1 => if x5 < r1 then bd (f6_at mm (x0 + 5) ((x1 * (4 : Int32)) + x5)) (fun r2 => bd (f6_at mm (x0 + 6) ((x1 * (4 : Int32)) + x5)) (fun r3 => if r3 < x2 then if x5 = 0 then some ((0 : Int32)) else bd (f5_wantedBetween mm x4 r3 (r2 - x3) x2) (fun r5 => some (x3 + r5)) else nm (x5 + 1) (fun v4 => f5_wantedFrom_l8 mm n x0 x1 x2 r2 r3 v4))) else some (x3))
theorem f5_wantedFrom_l8_ok {E : Ev} {l : Launch} {C : Cfg} {mm : Mem} {x : Int32} (hj : Dj C) (X : Ec E l C rmX5_wantedFrom) (B : Bx E RX5 tbX5_wantedFrom 8 (some .int)) (hQ : Rt E) (hr : Rs E (some (.int x)) mm) (n : Nat) : ∀ (x0 : Nat) (x1 : Int32) (x2 : Int32) (x3 : Int32) (x4 : Int32) (x5 : Int32), Ob x0 5 → f5_wantedFrom_l8 mm n x0 x1 x2 x3 x4 x5 = some x → G E 8 8 [(0, .ref x0), (1, .int x1), (2, .int x2), (3, .int x3), (4, .int x4), (5, .int x5)] [] mm := by
  induction n with
  | zero =>
    intro x0 x1 x2 x3 x4 x5 o_x0 hf
    rw [f5_wantedFrom_l8] at hf
    cases hf
  | succ n ih =>
    intro x0 x1 x2 x3 x4 x5 o_x0 hf
    rw [f5_wantedFrom_l8] at hf
    refine z_iload B 6 rfl 5 rfl ?_
    refine z_aload_n B 7 rfl 0 0 rfl rfl ?_
    refine z_getr 5 4 x0 B 8 rfl o_x0 rfl (iX5_wantedFrom _ (List.mem_of_getElem? (i := 0) rfl)) rfl ?_
    refine z_iload_n B 9 rfl 1 1 rfl rfl ?_
    obtain ⟨r1, ec, hf⟩ := bd_e hf
    refine z_callN [.ref (x0 + 4), .int x1] [.int x5] [.int r1, .int x5] X B 10 rfl miX6_at ⟨List.mem_of_getElem? (i := 8) rfl, (iX5_wantedFrom _ (List.mem_of_getElem? (i := 1) rfl))⟩ (ctX6_at hj (obf_5_4 o_x0) ec) ⟨Nat.le_of_ble_eq_true rfl, Nat.le_of_ble_eq_true rfl⟩ rfl rfl (Nat.le_of_ble_eq_true rfl) rfl ?_
    by_cases hc : x5 < r1
    · replace hf := (if_pos hc).symm.trans hf
      refine z_icmp_ge_f B 11 rfl 94 (by decide) hc ?_
      refine z_aload_n B 12 rfl 0 0 rfl rfl ?_
      refine z_getr 5 5 x0 B 13 rfl o_x0 rfl (iX5_wantedFrom _ (List.mem_of_getElem? (i := 2) rfl)) rfl ?_
      refine z_iload_n B 14 rfl 1 1 rfl rfl ?_
      refine z_iconst 4 B 15 rfl (by decide) ?_
      refine z_imul B 16 rfl ?_
      refine z_iload B 17 rfl 5 rfl ?_
      refine z_iadd B 18 rfl ?_
      obtain ⟨r2, ec, hf⟩ := bd_e hf
      refine z_callN [.ref (x0 + 5), .int ((x1 * (4 : Int32)) + x5)] [] [.int r2] X B 19 rfl miX6_at ⟨List.mem_of_getElem? (i := 8) rfl, (iX5_wantedFrom _ (List.mem_of_getElem? (i := 1) rfl))⟩ (ctX6_at hj (obf_5_5 o_x0) ec) ⟨Nat.le_of_ble_eq_true rfl, Nat.le_of_ble_eq_true rfl⟩ rfl rfl (Nat.le_of_ble_eq_true rfl) rfl ?_
      refine z_istore [(6, .int r2), (0, .ref x0), (1, .int x1), (2, .int x2), (3, .int x3), (4, .int x4), (5, .int x5)] B 20 rfl (by decide) rfl ?_
      refine z_aload_n B 21 rfl 0 1 rfl rfl ?_
      refine z_getr 5 6 x0 B 22 rfl o_x0 rfl (iX5_wantedFrom _ (List.mem_of_getElem? (i := 3) rfl)) rfl ?_
      refine z_iload_n B 23 rfl 1 2 rfl rfl ?_
      refine z_iconst 4 B 24 rfl (by decide) ?_
      refine z_imul B 25 rfl ?_
      refine z_iload B 26 rfl 6 rfl ?_
      refine z_iadd B 27 rfl ?_
      obtain ⟨r3, ec, hf⟩ := bd_e hf
      refine z_callN [.ref (x0 + 6), .int ((x1 * (4 : Int32)) + x5)] [] [.int r3] X B 28 rfl miX6_at ⟨List.mem_of_getElem? (i := 8) rfl, (iX5_wantedFrom _ (List.mem_of_getElem? (i := 1) rfl))⟩ (ctX6_at hj (obf_5_6 o_x0) ec) ⟨Nat.le_of_ble_eq_true rfl, Nat.le_of_ble_eq_true rfl⟩ rfl rfl (Nat.le_of_ble_eq_true rfl) rfl ?_
      refine z_istore [(7, .int r3), (6, .int r2), (0, .ref x0), (1, .int x1), (2, .int x2), (3, .int x3), (4, .int x4), (5, .int x5)] B 29 rfl (by decide) rfl ?_
      refine z_iload B 30 rfl 0 rfl ?_
      refine z_iload_n B 31 rfl 2 4 rfl rfl ?_
      by_cases hc : r3 < x2
      · replace hf := (if_pos hc).symm.trans hf
        refine z_icmp_ge_f B 32 rfl 81 (by decide) hc ?_
        refine z_iload B 33 rfl 7 rfl ?_
        by_cases hc : x5 = 0
        · replace hf := (if_pos hc).symm.trans hf
          refine z_if_ne_f B 34 rfl 66 (by decide) hc ?_
          refine z_iconst 0 B 35 rfl (by decide) ?_
          refine z_goto B 36 rfl 80 (by decide) ?_
          cases hf
          exact z_iret B 46 rfl rfl hQ hr
        · replace hf := (if_neg hc).symm.trans hf
          refine z_if_ne_t B 34 rfl 66 (by decide) hc ?_
          refine z_iload_n B 37 rfl 3 5 rfl rfl ?_
          refine z_iload B 38 rfl 6 rfl ?_
          refine z_iload B 39 rfl 0 rfl ?_
          refine z_iload B 40 rfl 1 rfl ?_
          refine z_iload_n B 41 rfl 3 5 rfl rfl ?_
          refine z_isub B 42 rfl ?_
          refine z_iload_n B 43 rfl 2 4 rfl rfl ?_
          obtain ⟨r5, ec, hf⟩ := bd_e hf
          refine z_callS [.int x4, .int r3, .int (r2 - x3), .int x2] [.int x3] [.int r5, .int x3] X B 44 rfl miX5_wantedBetween ⟨(iX5_wantedFrom _ (List.mem_of_getElem? (i := 4) rfl)), (iX5_wantedFrom _ (List.mem_of_getElem? (i := 5) rfl))⟩ (ctX5_wantedBetween hj ec) ⟨Nat.le_of_ble_eq_true rfl, Nat.le_of_ble_eq_true rfl⟩ rfl rfl (Nat.le_of_ble_eq_true rfl) rfl ?_
          refine z_iadd B 45 rfl ?_
          cases hf
          exact z_iret B 46 rfl rfl hQ hr
      · replace hf := (if_neg hc).symm.trans hf
        refine z_icmp_ge_t B 32 rfl 81 (by decide) hc ?_
        refine z_iload B 47 rfl 1 rfl ?_
        refine z_istore_n [(3, .int r2), (7, .int r3), (6, .int r2), (0, .ref x0), (1, .int x1), (2, .int x2), (4, .int x4), (5, .int x5)] B 48 rfl 3 rfl (by decide) rfl ?_
        refine z_iload B 49 rfl 1 rfl ?_
        refine z_istore [(4, .int r3), (3, .int r2), (7, .int r3), (6, .int r2), (0, .ref x0), (1, .int x1), (2, .int x2), (5, .int x5)] B 50 rfl (by decide) rfl ?_
        obtain ⟨v4, ex, hf⟩ := nm_x hf
        refine z_iinc v4 [(5, .int v4), (4, .int r3), (3, .int r2), (7, .int r3), (6, .int r2), (0, .ref x0), (1, .int x1), (2, .int x2)] B 51 rfl 7 rfl (ex.symm) (by decide) rfl ?_
        refine z_goto B 52 rfl 8 (by decide) ?_
        refine z_sub [(0, .ref x0), (1, .int x1), (2, .int x2), (3, .int r2), (4, .int r3), (5, .int v4)] [5, 6, 7, 2, 1, 0] rfl ?_
        exact ih _ _ _ _ _ _ o_x0  hf
    · replace hf := (if_neg hc).symm.trans hf
      refine z_icmp_ge_t B 11 rfl 94 (by decide) hc ?_
      refine z_iload_n B 53 rfl 3 3 rfl rfl ?_
      cases hf
      exact z_iret B 54 rfl rfl hQ hr
def f5_wantedFrom (mm : Mem) (a0 : Nat) (a1 : Int32) (a2 : Int32) : Option Int32 := f5_wantedFrom_l8 mm FU a0 a1 a2 (0 : Int32) (0 : Int32) (0 : Int32)
theorem ctX5_wantedFrom {l : Launch} {C : Cfg} (hj : Dj C) {mm : Mem} {a0 : Nat} {a1 : Int32} {a2 : Int32} {x : Int32} (o_a0 : Ob a0 5) (hf : f5_wantedFrom mm a0 a1 a2 = some x) : Ct l C yX5_wantedFrom cX5_wantedFrom 8 (some .int) 1 24 [.ref a0, .int a1, .int a2] mm (some (.int x)) mm := by
  refine Ct.of (tb := tbX5_wantedFrom) hj miX5_wantedFrom.2.1 miX5_wantedFrom.1 dtX5_wantedFrom (Nat.le_of_ble_eq_true rfl) ?_
  intro E B hQ hr X
  unfold f5_wantedFrom at hf
  show G E 8 0 [(0, .ref a0), (1, .int a1), (2, .int a2)] [] mm
  refine z_iconst 0 B 0 rfl (by decide) ?_
  refine z_istore_n [(3, .int (0 : Int32)), (0, .ref a0), (1, .int a1), (2, .int a2)] B 1 rfl 3 rfl (by decide) rfl ?_
  refine z_iconst 0 B 2 rfl (by decide) ?_
  refine z_istore [(4, .int (0 : Int32)), (3, .int (0 : Int32)), (0, .ref a0), (1, .int a1), (2, .int a2)] B 3 rfl (by decide) rfl ?_
  refine z_iconst 0 B 4 rfl (by decide) ?_
  refine z_istore [(5, .int (0 : Int32)), (4, .int (0 : Int32)), (3, .int (0 : Int32)), (0, .ref a0), (1, .int a1), (2, .int a2)] B 5 rfl (by decide) rfl ?_
  refine z_sub [(0, .ref a0), (1, .int a1), (2, .int a2), (3, .int (0 : Int32)), (4, .int (0 : Int32)), (5, .int (0 : Int32))] [3, 4, 5, 2, 1, 0] rfl ?_
  exact f5_wantedFrom_l8_ok hj X B hQ hr FU _ _ _ _ _ _ o_a0  hf
/-! ZoneCapacity$Auction.unitsBelow(II)I -/
def tbX0_unitsBelow : Tb := [(0, .iconst 0, 1, 1), (1, .istore_n 3, 1, 2), (2, .iload_n 1, 1, 3), (3, .iconst 4, 1, 4), (4, .imul, 1, 5), (5, .istore 4, 2, 7), (7, .iload 4, 2, 9), (9, .iload_n 1, 1, 10), (10, .iconst 4, 1, 11), (11, .imul, 1, 12), (12, .iconst 4, 1, 13), (13, .iadd, 1, 14), (14, .if_icmp .ge 34, 3, 17), (17, .aload_n 0, 1, 18), (18, .getfield 34, 3, 21), (21, .iload 4, 2, 23), (23, .invokestatic 69, 3, 26), (26, .iload_n 2, 1, 27), (27, .if_icmp .ge 15, 3, 30), (30, .iload_n 3, 1, 31), (31, .aload_n 0, 1, 32), (32, .getfield 31, 3, 35), (35, .iload 4, 2, 37), (37, .invokestatic 69, 3, 40), (40, .iadd, 1, 41), (41, .istore_n 3, 1, 42), (42, .iinc 4 1, 3, 45), (45, .goto (-38), 3, 48), (48, .iload_n 3, 1, 49), (49, .ireturn, 1, 50)]
theorem dtX0_unitsBelow : ∀ q ∈ tbX0_unitsBelow, decode cX0_unitsBelow q.1 = .ok (q.2.1, q.2.2.1) ∧ q.1 + q.2.2.1 = q.2.2.2 := by decide +kernel
theorem miX0_unitsBelow : MI yX0_unitsBelow cX0_unitsBelow 5 (some .int) 2 := ⟨tw_mem (List.mem_of_getElem? (i := 387) (by decide +kernel)) rfl, by decide, by decide +kernel, tw_mem (List.mem_of_getElem? (i := 15) (by decide +kernel)) rfl⟩
abbrev rmX0_unitsBelow : Room := { frames := 1, cells := 0, slots := 0, locals := 21 }
def wX0_unitsBelow : List Cond := [.fieldLink "ZoneCapacity$Auction" 34 "ZoneCapacity$Auction" "its" "[I", .static yX6_at, .fieldLink "ZoneCapacity$Auction" 31 "ZoneCapacity$Auction" "units" "[I"]
theorem iX0_unitsBelow : ∀ w ∈ wX0_unitsBelow, w ∈ TW := tw_of (ids := [171, 272, 170]) (by decide +kernel)
def f0_unitsBelow_j42 (k7 : Nat → Int32 → Int32 → Int32 → Int32 → Option Int32) (mm : Mem) (x0 : Nat) (x1 : Int32) (x2 : Int32) (x3 : Int32) (x4 : Int32) : Option Int32 := nm (x4 + 1) (fun v3 => k7 x0 x1 x2 x3 v3)
theorem f0_unitsBelow_j42_ok {E : Ev} {l : Launch} {C : Cfg} {mm : Mem} {x : Int32} {k7 : Nat → Int32 → Int32 → Int32 → Int32 → Option Int32} (hj : Dj C) (X : Ec E l C rmX0_unitsBelow) (B : Bx E RX0 tbX0_unitsBelow 5 (some .int)) (hQ : Rt E) (hr : Rs E (some (.int x)) mm) (hk7 : ∀ (x0 : Nat) (x1 : Int32) (x2 : Int32) (x3 : Int32) (x4 : Int32), Ob x0 0 → k7 x0 x1 x2 x3 x4 = some x → G E 5 7 [(0, .ref x0), (1, .int x1), (2, .int x2), (3, .int x3), (4, .int x4)] [] mm) (x0 : Nat) (x1 : Int32) (x2 : Int32) (x3 : Int32) (x4 : Int32) (o_x0 : Ob x0 0) (hf : f0_unitsBelow_j42 k7 mm x0 x1 x2 x3 x4 = some x) : G E 5 42 [(0, .ref x0), (1, .int x1), (2, .int x2), (3, .int x3), (4, .int x4)] [] mm := by
  unfold f0_unitsBelow_j42 at hf
  obtain ⟨v3, ex, hf⟩ := nm_x hf
  refine z_iinc v3 [(4, .int v3), (0, .ref x0), (1, .int x1), (2, .int x2), (3, .int x3)] B 26 rfl 4 rfl (ex.symm) (by decide) rfl ?_
  refine z_goto B 27 rfl 7 (by decide) ?_
  refine z_sub [(0, .ref x0), (1, .int x1), (2, .int x2), (3, .int x3), (4, .int v3)] [1, 2, 3, 4, 0] rfl ?_
  exact hk7 _ _ _ _ _ o_x0  hf
def f0_unitsBelow_l7 (mm : Mem) : Nat → Nat → Int32 → Int32 → Int32 → Int32 → Option Int32
  | 0, _, _, _, _, _ => none
  | n + 1, x0, x1, x2, x3, x4 => if x4 < ((x1 * (4 : Int32)) + (4 : Int32)) then bd (f6_at mm (x0 + 25) x4) (fun r2 => if r2 < x2 then bd (f6_at mm (x0 + 24) x4) (fun r4 => nm (x3 + r4) (fun v5 => f0_unitsBelow_j42 (fun x0 x1 x2 x3 x4 => f0_unitsBelow_l7 mm n x0 x1 x2 x3 x4) mm x0 x1 x2 v5 x4)) else f0_unitsBelow_j42 (fun x0 x1 x2 x3 x4 => f0_unitsBelow_l7 mm n x0 x1 x2 x3 x4) mm x0 x1 x2 x3 x4) else some (x3)
theorem f0_unitsBelow_l7_ok {E : Ev} {l : Launch} {C : Cfg} {mm : Mem} {x : Int32} (hj : Dj C) (X : Ec E l C rmX0_unitsBelow) (B : Bx E RX0 tbX0_unitsBelow 5 (some .int)) (hQ : Rt E) (hr : Rs E (some (.int x)) mm) (n : Nat) : ∀ (x0 : Nat) (x1 : Int32) (x2 : Int32) (x3 : Int32) (x4 : Int32), Ob x0 0 → f0_unitsBelow_l7 mm n x0 x1 x2 x3 x4 = some x → G E 5 7 [(0, .ref x0), (1, .int x1), (2, .int x2), (3, .int x3), (4, .int x4)] [] mm := by
  induction n with
  | zero =>
    intro x0 x1 x2 x3 x4 o_x0 hf
    rw [f0_unitsBelow_l7] at hf
    cases hf
  | succ n ih =>
    intro x0 x1 x2 x3 x4 o_x0 hf
    rw [f0_unitsBelow_l7] at hf
    refine z_iload B 6 rfl 4 rfl ?_
    refine z_iload_n B 7 rfl 1 1 rfl rfl ?_
    refine z_iconst 4 B 8 rfl (by decide) ?_
    refine z_imul B 9 rfl ?_
    refine z_iconst 4 B 10 rfl (by decide) ?_
    refine z_iadd B 11 rfl ?_
    by_cases hc : x4 < ((x1 * (4 : Int32)) + (4 : Int32))
    · replace hf := (if_pos hc).symm.trans hf
      refine z_icmp_ge_f B 12 rfl 48 (by decide) hc ?_
      refine z_aload_n B 13 rfl 0 0 rfl rfl ?_
      refine z_getr 0 6 x0 B 14 rfl o_x0 rfl (iX0_unitsBelow _ (List.mem_of_getElem? (i := 0) rfl)) rfl ?_
      refine z_iload B 15 rfl 4 rfl ?_
      obtain ⟨r2, ec, hf⟩ := bd_e hf
      refine z_callN [.ref (x0 + 25), .int x4] [] [.int r2] X B 16 rfl miX6_at ⟨List.mem_of_getElem? (i := 13) rfl, (iX0_unitsBelow _ (List.mem_of_getElem? (i := 1) rfl))⟩ (ctX6_at hj (obf_0_6 o_x0) ec) ⟨Nat.le_of_ble_eq_true rfl, Nat.le_of_ble_eq_true rfl⟩ rfl rfl (Nat.le_of_ble_eq_true rfl) rfl ?_
      refine z_iload_n B 17 rfl 2 2 rfl rfl ?_
      by_cases hc : r2 < x2
      · replace hf := (if_pos hc).symm.trans hf
        refine z_icmp_ge_f B 18 rfl 42 (by decide) hc ?_
        refine z_iload_n B 19 rfl 3 3 rfl rfl ?_
        refine z_aload_n B 20 rfl 0 0 rfl rfl ?_
        refine z_getr 0 5 x0 B 21 rfl o_x0 rfl (iX0_unitsBelow _ (List.mem_of_getElem? (i := 2) rfl)) rfl ?_
        refine z_iload B 22 rfl 4 rfl ?_
        obtain ⟨r4, ec, hf⟩ := bd_e hf
        refine z_callN [.ref (x0 + 24), .int x4] [.int x3] [.int r4, .int x3] X B 23 rfl miX6_at ⟨List.mem_of_getElem? (i := 13) rfl, (iX0_unitsBelow _ (List.mem_of_getElem? (i := 1) rfl))⟩ (ctX6_at hj (obf_0_5 o_x0) ec) ⟨Nat.le_of_ble_eq_true rfl, Nat.le_of_ble_eq_true rfl⟩ rfl rfl (Nat.le_of_ble_eq_true rfl) rfl ?_
        refine z_iadd B 24 rfl ?_
        obtain ⟨v5, ex, hf⟩ := nm_x hf
        refine z_top ex ?_
        refine z_istore_n [(3, .int v5), (0, .ref x0), (1, .int x1), (2, .int x2), (4, .int x4)] B 25 rfl 3 rfl (by decide) rfl ?_
        refine z_sub [(0, .ref x0), (1, .int x1), (2, .int x2), (3, .int v5), (4, .int x4)] [1, 2, 3, 0, 4] rfl ?_
        exact f0_unitsBelow_j42_ok hj X B hQ hr ih _ _ _ _ _ o_x0  hf
      · replace hf := (if_neg hc).symm.trans hf
        refine z_icmp_ge_t B 18 rfl 42 (by decide) hc ?_
        exact f0_unitsBelow_j42_ok hj X B hQ hr ih _ _ _ _ _ o_x0  hf
    · replace hf := (if_neg hc).symm.trans hf
      refine z_icmp_ge_t B 12 rfl 48 (by decide) hc ?_
      refine z_iload_n B 28 rfl 3 3 rfl rfl ?_
      cases hf
      exact z_iret B 29 rfl rfl hQ hr
def f0_unitsBelow (mm : Mem) (a0 : Nat) (a1 : Int32) (a2 : Int32) : Option Int32 := nm (a1 * (4 : Int32)) (fun v1 => f0_unitsBelow_l7 mm FU a0 a1 a2 (0 : Int32) v1)
theorem ctX0_unitsBelow {l : Launch} {C : Cfg} (hj : Dj C) {mm : Mem} {a0 : Nat} {a1 : Int32} {a2 : Int32} {x : Int32} (o_a0 : Ob a0 0) (hf : f0_unitsBelow mm a0 a1 a2 = some x) : Ct l C yX0_unitsBelow cX0_unitsBelow 5 (some .int) 1 21 [.ref a0, .int a1, .int a2] mm (some (.int x)) mm := by
  refine Ct.of (tb := tbX0_unitsBelow) hj miX0_unitsBelow.2.1 miX0_unitsBelow.1 dtX0_unitsBelow (Nat.le_of_ble_eq_true rfl) ?_
  intro E B hQ hr X
  unfold f0_unitsBelow at hf
  show G E 5 0 [(0, .ref a0), (1, .int a1), (2, .int a2)] [] mm
  refine z_iconst 0 B 0 rfl (by decide) ?_
  refine z_istore_n [(3, .int (0 : Int32)), (0, .ref a0), (1, .int a1), (2, .int a2)] B 1 rfl 3 rfl (by decide) rfl ?_
  refine z_iload_n B 2 rfl 1 2 rfl rfl ?_
  refine z_iconst 4 B 3 rfl (by decide) ?_
  refine z_imul B 4 rfl ?_
  obtain ⟨v1, ex, hf⟩ := nm_x hf
  refine z_top ex ?_
  refine z_istore [(4, .int v1), (3, .int (0 : Int32)), (0, .ref a0), (1, .int a1), (2, .int a2)] B 5 rfl (by decide) rfl ?_
  refine z_sub [(0, .ref a0), (1, .int a1), (2, .int a2), (3, .int (0 : Int32)), (4, .int v1)] [2, 3, 4, 1, 0] rfl ?_
  exact f0_unitsBelow_l7_ok hj X B hQ hr FU _ _ _ _ _ o_a0  hf
/-! ZoneCapacity$Zones.cut(II)I -/
def tbX5_cut : Tb := [(0, .aload_n 0, 1, 1), (1, .getfield 19, 3, 4), (4, .iload_n 1, 1, 5), (5, .invokestatic 46, 3, 8), (8, .ineg, 1, 9), (9, .aload_n 0, 1, 10), (10, .getfield 22, 3, 13), (13, .iload_n 1, 1, 14), (14, .invokestatic 46, 3, 17), (17, .iload_n 2, 1, 18), (18, .invokestatic 54, 3, 21), (21, .invokestatic 64, 3, 24), (24, .ireturn, 1, 25)]
theorem dtX5_cut : ∀ q ∈ tbX5_cut, decode cX5_cut q.1 = .ok (q.2.1, q.2.2.1) ∧ q.1 + q.2.2.1 = q.2.2.2 := by decide +kernel
theorem miX5_cut : MI yX5_cut cX5_cut 3 (some .int) 2 := ⟨tw_mem (List.mem_of_getElem? (i := 391) (by decide +kernel)) rfl, by decide, by decide +kernel, tw_mem (List.mem_of_getElem? (i := 17) (by decide +kernel)) rfl⟩
abbrev rmX5_cut : Room := { frames := 1, cells := 0, slots := 0, locals := 21 }
def wX5_cut : List Cond := [.fieldLink "ZoneCapacity$Zones" 19 "ZoneCapacity$Zones" "in" "[I", .static yX6_at, .fieldLink "ZoneCapacity$Zones" 22 "ZoneCapacity$Zones" "out" "[I", .methodLink "ZoneCapacity$Zones" 54 ⟨"java/lang/Math", "min", "(II)I"⟩, .static ⟨"java/lang/Math", "min", "(II)I"⟩, .initialized "java/lang/Math", .code Lib.Math.min.name Lib.Math.min.code 2 (some .int), .methodLink "ZoneCapacity$Zones" 64 ⟨"java/lang/Math", "max", "(II)I"⟩, .static ⟨"java/lang/Math", "max", "(II)I"⟩, .code Lib.Math.max.name Lib.Math.max.code 2 (some .int)]
theorem iX5_cut : ∀ w ∈ wX5_cut, w ∈ TW := tw_of (ids := [73, 272, 76, 392, 357, 26, 358, 393, 354, 355]) (by decide +kernel)
def f5_cut (mm : Mem) (a0 : Nat) (a1 : Int32) (a2 : Int32) : Option Int32 := bd (f6_at mm (a0 + 2) a1) (fun r1 => bd (f6_at mm (a0 + 3) a1) (fun r2 => nm (mni r2 a2) (fun v3 => nm (mxi (-r1) v3) (fun v4 => some (v4)))))
theorem ctX5_cut {l : Launch} {C : Cfg} (hj : Dj C) {mm : Mem} {a0 : Nat} {a1 : Int32} {a2 : Int32} {x : Int32} (o_a0 : Ob a0 5) (hf : f5_cut mm a0 a1 a2 = some x) : Ct l C yX5_cut cX5_cut 3 (some .int) 1 21 [.ref a0, .int a1, .int a2] mm (some (.int x)) mm := by
  refine Ct.of (tb := tbX5_cut) hj miX5_cut.2.1 miX5_cut.1 dtX5_cut (Nat.le_of_ble_eq_true rfl) ?_
  intro E B hQ hr X
  unfold f5_cut at hf
  show G E 3 0 [(0, .ref a0), (1, .int a1), (2, .int a2)] [] mm
  refine z_aload_n B 0 rfl 0 0 rfl rfl ?_
  refine z_getr 5 2 a0 B 1 rfl o_a0 rfl (iX5_cut _ (List.mem_of_getElem? (i := 0) rfl)) rfl ?_
  refine z_iload_n B 2 rfl 1 1 rfl rfl ?_
  obtain ⟨r1, ec, hf⟩ := bd_e hf
  refine z_callN [.ref (a0 + 2), .int a1] [] [.int r1] X B 3 rfl miX6_at ⟨List.mem_of_getElem? (i := 8) rfl, (iX5_cut _ (List.mem_of_getElem? (i := 1) rfl))⟩ (ctX6_at hj (obf_5_2 o_a0) ec) ⟨Nat.le_of_ble_eq_true rfl, Nat.le_of_ble_eq_true rfl⟩ rfl rfl (Nat.le_of_ble_eq_true rfl) rfl ?_
  refine z_ineg B 4 rfl ?_
  refine z_aload_n B 5 rfl 0 0 rfl rfl ?_
  refine z_getr 5 3 a0 B 6 rfl o_a0 rfl (iX5_cut _ (List.mem_of_getElem? (i := 2) rfl)) rfl ?_
  refine z_iload_n B 7 rfl 1 1 rfl rfl ?_
  obtain ⟨r2, ec, hf⟩ := bd_e hf
  refine z_callN [.ref (a0 + 3), .int a1] [.int (-r1)] [.int r2, .int (-r1)] X B 8 rfl miX6_at ⟨List.mem_of_getElem? (i := 8) rfl, (iX5_cut _ (List.mem_of_getElem? (i := 1) rfl))⟩ (ctX6_at hj (obf_5_3 o_a0) ec) ⟨Nat.le_of_ble_eq_true rfl, Nat.le_of_ble_eq_true rfl⟩ rfl rfl (Nat.le_of_ble_eq_true rfl) rfl ?_
  refine z_iload_n B 9 rfl 2 2 rfl rfl ?_
  refine z_mmin X B 10 rfl ⟨(iX5_cut _ (List.mem_of_getElem? (i := 3) rfl)), (iX5_cut _ (List.mem_of_getElem? (i := 4) rfl)), (iX5_cut _ (List.mem_of_getElem? (i := 5) rfl)), (iX5_cut _ (List.mem_of_getElem? (i := 6) rfl))⟩ ⟨Nat.le_of_ble_eq_true rfl, Nat.le_of_ble_eq_true rfl⟩ (Nat.le_of_ble_eq_true rfl) ?_
  obtain ⟨v3, ex, hf⟩ := nm_x hf
  refine z_top ex ?_
  refine z_mmax X B 11 rfl ⟨(iX5_cut _ (List.mem_of_getElem? (i := 7) rfl)), (iX5_cut _ (List.mem_of_getElem? (i := 8) rfl)), (iX5_cut _ (List.mem_of_getElem? (i := 5) rfl)), (iX5_cut _ (List.mem_of_getElem? (i := 9) rfl))⟩ ⟨Nat.le_of_ble_eq_true rfl, Nat.le_of_ble_eq_true rfl⟩ (Nat.le_of_ble_eq_true rfl) ?_
  obtain ⟨v4, ex, hf⟩ := nm_x hf
  refine z_top ex ?_
  cases hf
  exact z_iret B 12 rfl rfl hQ hr
/-! ZoneCapacity$Auction.fillLevels(II[I)V -/
def tbX0_fillLevels : Tb := [(0, .aload_n 0, 1, 1), (1, .getfield 12, 3, 4), (4, .getfield 60, 3, 7), (7, .astore 4, 2, 9), (9, .aload_n 0, 1, 10), (10, .getfield 12, 3, 13), (13, .getfield 85, 3, 16), (16, .astore 5, 2, 18), (18, .iload_n 1, 1, 19), (19, .istore 6, 2, 21), (21, .iload 6, 2, 23), (23, .aload 4, 2, 25), (25, .getfield 64, 3, 28), (28, .if_icmp .ge 24, 3, 31), (31, .aload_n 3, 1, 32), (32, .iload 6, 2, 34), (34, .aload 4, 2, 36), (36, .iload 6, 2, 38), (38, .iload_n 2, 1, 39), (39, .invokevirtual 110, 3, 42), (42, .ineg, 1, 43), (43, .invokestatic 56, 3, 46), (46, .iinc 6 1, 3, 49), (49, .goto (-28), 3, 52), (52, .iconst 0, 1, 53), (53, .istore 6, 2, 55), (55, .iload 6, 2, 57), (57, .aload 5, 2, 59), (59, .getfield 89, 3, 62), (62, .if_icmp .ge 47, 3, 65), (65, .aload 5, 2, 67), (67, .getfield 113, 3, 70), (70, .iload 6, 2, 72), (72, .invokestatic 69, 3, 75), (75, .istore 7, 2, 77), (77, .iload 7, 2, 79), (79, .iload_n 1, 1, 80), (80, .if_icmp .lt 23, 3, 83), (83, .aload_n 3, 1, 84), (84, .iload 7, 2, 86), (86, .aload_n 3, 1, 87), (87, .iload 7, 2, 89), (89, .invokestatic 69, 3, 92), (92, .aload_n 0, 1, 93), (93, .iload 6, 2, 95), (95, .iload_n 2, 1, 96), (96, .invokevirtual 115, 3, 99), (99, .iadd, 1, 100), (100, .invokestatic 56, 3, 103), (103, .iinc 6 1, 3, 106), (106, .goto (-51), 3, 109), (109, .aload 4, 2, 111), (111, .getfield 64, 3, 114), (114, .iconst 1, 1, 115), (115, .isub, 1, 116), (116, .istore 6, 2, 118), (118, .iload 6, 2, 120), (120, .iload_n 1, 1, 121), (121, .if_icmp .le 53, 3, 124), (124, .aload 4, 2, 126), (126, .getfield 118, 3, 129), (129, .iload 6, 2, 131), (131, .invokestatic 69, 3, 134), (134, .istore 7, 2, 136), (136, .iload 7, 2, 138), (138, .iload_n 1, 1, 139), (139, .if_icmp .lt 29, 3, 142), (142, .aload_n 3, 1, 143), (143, .iload 7, 2, 145), (145, .aload_n 3, 1, 146), (146, .iload 7, 2, 148), (148, .invokestatic 69, 3, 151), (151, .aload 4, 2, 153), (153, .iload 6, 2, 155), (155, .aload_n 3, 1, 156), (156, .iload 6, 2, 158), (158, .invokestatic 69, 3, 161), (161, .invokevirtual 121, 3, 164), (164, .iadd, 1, 165), (165, .invokestatic 56, 3, 168), (168, .iinc 6 (-1), 3, 171), (171, .goto (-53), 3, 174), (174, .return_, 1, 175)]
theorem dtX0_fillLevels : ∀ q ∈ tbX0_fillLevels, decode cX0_fillLevels q.1 = .ok (q.2.1, q.2.2.1) ∧ q.1 + q.2.2.1 = q.2.2.2 := by decide +kernel
theorem miX0_fillLevels : MI yX0_fillLevels cX0_fillLevels 8 none 3 := ⟨tw_mem (List.mem_of_getElem? (i := 376) (by decide +kernel)) rfl, by decide, by decide +kernel, tw_mem (List.mem_of_getElem? (i := 15) (by decide +kernel)) rfl⟩
abbrev rmX0_fillLevels : Room := { frames := 2, cells := 0, slots := 0, locals := 51 }
def wX0_fillLevels : List Cond := [.fieldLink "ZoneCapacity$Auction" 12 "ZoneCapacity$Auction" "market" "LZoneCapacity$Market;", .fieldLink "ZoneCapacity$Auction" 60 "ZoneCapacity$Market" "zones" "LZoneCapacity$Zones;", .fieldLink "ZoneCapacity$Auction" 85 "ZoneCapacity$Market" "offers" "LZoneCapacity$Offers;", .fieldLink "ZoneCapacity$Auction" 64 "ZoneCapacity$Zones" "many" "I", .fieldLink "ZoneCapacity$Auction" 89 "ZoneCapacity$Offers" "many" "I", .fieldLink "ZoneCapacity$Auction" 118 "ZoneCapacity$Zones" "outer" "[I", .static yX6_at, .methodLink "ZoneCapacity$Auction" 121 yX5_cut, .instanceMethod yX5_cut, .selects "ZoneCapacity$Zones" yX5_cut yX5_cut, .static yX6_put, .fieldLink "ZoneCapacity$Auction" 113 "ZoneCapacity$Offers" "zones" "[I", .methodLink "ZoneCapacity$Auction" 115 yX0_unitsBelow, .instanceMethod yX0_unitsBelow, .selects "ZoneCapacity$Auction" yX0_unitsBelow yX0_unitsBelow, .methodLink "ZoneCapacity$Auction" 110 yX5_wantedFrom, .instanceMethod yX5_wantedFrom, .selects "ZoneCapacity$Zones" yX5_wantedFrom yX5_wantedFrom]
theorem iX0_fillLevels : ∀ w ∈ wX0_fillLevels, w ∈ TW := tw_of (ids := [160, 150, 153, 69, 106, 72, 272, 388, 389, 390, 291, 112, 384, 386, 4, 377, 378, 379]) (by decide +kernel)
def f0_fillLevels_j168 (k118 : Int32 → Nat → Nat → Int32 → Mem → Option Mem) (x1 : Int32) (x3 : Nat) (x4 : Nat) (x6 : Int32) (mm : Mem) : Option Mem := nm (x6 + (-1)) (fun v3 => k118 x1 x3 x4 v3 mm)
theorem f0_fillLevels_j168_ok {E : Ev} {l : Launch} {C : Cfg} {x : Mem} {k118 : Int32 → Nat → Nat → Int32 → Mem → Option Mem} (hj : Dj C) (X : Ec E l C rmX0_fillLevels) (B : Bx E RX0 tbX0_fillLevels 8 none) (hQ : Rt E) (hr : Rs E none x) (hk118 : ∀ (x1 : Int32) (x3 : Nat) (x4 : Nat) (x6 : Int32) (mm : Mem), Ob x3 8 → Ob x4 5 → k118 x1 x3 x4 x6 mm = some x → G E 8 118 [(1, .int x1), (3, .ref x3), (4, .ref x4), (6, .int x6)] [] mm) (x1 : Int32) (x3 : Nat) (x4 : Nat) (x6 : Int32) (mm : Mem) (o_x3 : Ob x3 8) (o_x4 : Ob x4 5) (hf : f0_fillLevels_j168 k118 x1 x3 x4 x6 mm = some x) : G E 8 168 [(1, .int x1), (3, .ref x3), (4, .ref x4), (6, .int x6)] [] mm := by
  unfold f0_fillLevels_j168 at hf
  obtain ⟨v3, ex, hf⟩ := nm_x hf
  refine z_iinc v3 [(6, .int v3), (1, .int x1), (3, .ref x3), (4, .ref x4)] B 80 rfl 3 rfl (ex.symm) (by decide) rfl ?_
  refine z_goto B 81 rfl 118 (by decide) ?_
  refine z_sub [(1, .int x1), (3, .ref x3), (4, .ref x4), (6, .int v3)] [1, 2, 3, 0] rfl ?_
  exact hk118 _ _ _ _ _ o_x3 o_x4  hf
def f0_fillLevels_l118 : Nat → Int32 → Nat → Nat → Int32 → Mem → Option Mem
  | 0, _, _, _, _, _ => none
  | n + 1, x1, x3, x4, x6, mm => if x1 < x6 then bd (f6_at mm (x4 + 1) x6) (fun r2 => if r2 < x1 then f0_fillLevels_j168 (fun x1 x3 x4 x6 mm => f0_fillLevels_l118 n x1 x3 x4 x6 mm) x1 x3 x4 x6 mm else bd (f6_at mm x3 r2) (fun r4 => bd (f6_at mm x3 x6) (fun r5 => bd (f5_cut mm x4 x6 r5) (fun r6 => bd (f6_put mm x3 r2 (r4 + r6)) (fun r7 => f0_fillLevels_j168 (fun x1 x3 x4 x6 mm => f0_fillLevels_l118 n x1 x3 x4 x6 mm) x1 x3 x4 x6 r7))))) else some mm
theorem f0_fillLevels_l118_ok {E : Ev} {l : Launch} {C : Cfg} {x : Mem} (hj : Dj C) (X : Ec E l C rmX0_fillLevels) (B : Bx E RX0 tbX0_fillLevels 8 none) (hQ : Rt E) (hr : Rs E none x) (n : Nat) : ∀ (x1 : Int32) (x3 : Nat) (x4 : Nat) (x6 : Int32) (mm : Mem), Ob x3 8 → Ob x4 5 → f0_fillLevels_l118 n x1 x3 x4 x6 mm = some x → G E 8 118 [(1, .int x1), (3, .ref x3), (4, .ref x4), (6, .int x6)] [] mm := by
  induction n with
  | zero =>
    intro x1 x3 x4 x6 mm o_x3 o_x4 hf
    rw [f0_fillLevels_l118] at hf
    cases hf
  | succ n ih =>
    intro x1 x3 x4 x6 mm o_x3 o_x4 hf
    rw [f0_fillLevels_l118] at hf
    refine z_iload B 56 rfl 3 rfl ?_
    refine z_iload_n B 57 rfl 1 0 rfl rfl ?_
    by_cases hc : x1 < x6
    · replace hf := (if_pos hc).symm.trans hf
      refine z_icmp_le_f B 58 rfl 174 (by decide) hc ?_
      refine z_aload B 59 rfl 2 rfl ?_
      refine z_getr 5 1 x4 B 60 rfl o_x4 rfl (iX0_fillLevels _ (List.mem_of_getElem? (i := 5) rfl)) rfl ?_
      refine z_iload B 61 rfl 3 rfl ?_
      obtain ⟨r2, ec, hf⟩ := bd_e hf
      refine z_callN [.ref (x4 + 1), .int x6] [] [.int r2] X B 62 rfl miX6_at ⟨List.mem_of_getElem? (i := 13) rfl, (iX0_fillLevels _ (List.mem_of_getElem? (i := 6) rfl))⟩ (ctX6_at hj (obf_5_1 o_x4) ec) ⟨Nat.le_of_ble_eq_true rfl, Nat.le_of_ble_eq_true rfl⟩ rfl rfl (Nat.le_of_ble_eq_true rfl) rfl ?_
      refine z_istore [(7, .int r2), (1, .int x1), (3, .ref x3), (4, .ref x4), (6, .int x6)] B 63 rfl (by decide) rfl ?_
      refine z_iload B 64 rfl 0 rfl ?_
      refine z_iload_n B 65 rfl 1 1 rfl rfl ?_
      by_cases hc : r2 < x1
      · replace hf := (if_pos hc).symm.trans hf
        refine z_icmp_lt_t B 66 rfl 168 (by decide) hc ?_
        refine z_sub [(1, .int x1), (3, .ref x3), (4, .ref x4), (6, .int x6)] [1, 2, 3, 4] rfl ?_
        exact f0_fillLevels_j168_ok hj X B hQ hr ih _ _ _ _ _ o_x3 o_x4  hf
      · replace hf := (if_neg hc).symm.trans hf
        refine z_icmp_lt_f B 66 rfl 168 (by decide) hc ?_
        refine z_aload_n B 67 rfl 3 2 rfl rfl ?_
        refine z_iload B 68 rfl 0 rfl ?_
        refine z_aload_n B 69 rfl 3 2 rfl rfl ?_
        refine z_iload B 70 rfl 0 rfl ?_
        obtain ⟨r4, ec, hf⟩ := bd_e hf
        refine z_callN [.ref x3, .int r2] [.int r2, .ref x3] [.int r4, .int r2, .ref x3] X B 71 rfl miX6_at ⟨List.mem_of_getElem? (i := 13) rfl, (iX0_fillLevels _ (List.mem_of_getElem? (i := 6) rfl))⟩ (ctX6_at hj o_x3 ec) ⟨Nat.le_of_ble_eq_true rfl, Nat.le_of_ble_eq_true rfl⟩ rfl rfl (Nat.le_of_ble_eq_true rfl) rfl ?_
        refine z_aload B 72 rfl 3 rfl ?_
        refine z_iload B 73 rfl 4 rfl ?_
        refine z_aload_n B 74 rfl 3 2 rfl rfl ?_
        refine z_iload B 75 rfl 4 rfl ?_
        obtain ⟨r5, ec, hf⟩ := bd_e hf
        refine z_callN [.ref x3, .int x6] [.int x6, .ref x4, .int r4, .int r2, .ref x3] [.int r5, .int x6, .ref x4, .int r4, .int r2, .ref x3] X B 76 rfl miX6_at ⟨List.mem_of_getElem? (i := 13) rfl, (iX0_fillLevels _ (List.mem_of_getElem? (i := 6) rfl))⟩ (ctX6_at hj o_x3 ec) ⟨Nat.le_of_ble_eq_true rfl, Nat.le_of_ble_eq_true rfl⟩ rfl rfl (Nat.le_of_ble_eq_true rfl) rfl ?_
        obtain ⟨r6, ec, hf⟩ := bd_e hf
        refine z_callV x4 5 [.int x6, .int r5] [.int r4, .int r2, .ref x3] [.int r6, .int r4, .int r2, .ref x3] X B 77 rfl (by decide) o_x4 rfl rfl miX5_cut ⟨(iX0_fillLevels _ (List.mem_of_getElem? (i := 7) rfl)), (iX0_fillLevels _ (List.mem_of_getElem? (i := 8) rfl)), (iX0_fillLevels _ (List.mem_of_getElem? (i := 9) rfl))⟩ (ctX5_cut hj o_x4 ec) ⟨Nat.le_of_ble_eq_true rfl, Nat.le_of_ble_eq_true rfl⟩ rfl rfl (Nat.le_of_ble_eq_true rfl) rfl ?_
        refine z_iadd B 78 rfl ?_
        obtain ⟨r7, ec, hf⟩ := bd_e hf
        refine z_callN [.ref x3, .int r2, .int (r4 + r6)] [] [] X B 79 rfl miX6_put ⟨List.mem_of_getElem? (i := 12) rfl, (iX0_fillLevels _ (List.mem_of_getElem? (i := 10) rfl))⟩ (ctX6_put hj o_x3 ec) ⟨Nat.le_of_ble_eq_true rfl, Nat.le_of_ble_eq_true rfl⟩ rfl rfl (Nat.le_of_ble_eq_true rfl) rfl ?_
        refine z_sub [(1, .int x1), (3, .ref x3), (4, .ref x4), (6, .int x6)] [1, 2, 3, 4] rfl ?_
        exact f0_fillLevels_j168_ok hj X B hQ hr ih _ _ _ _ _ o_x3 o_x4  hf
    · replace hf := (if_neg hc).symm.trans hf
      refine z_icmp_le_t B 58 rfl 174 (by decide) hc ?_
      cases hf
      exact z_vret B 82 rfl hQ hr
def f0_fillLevels_j103 (k55 : Nat → Int32 → Int32 → Nat → Nat → Nat → Int32 → Mem → Option Mem) (x0 : Nat) (x1 : Int32) (x2 : Int32) (x3 : Nat) (x4 : Nat) (x5 : Nat) (x6 : Int32) (mm : Mem) : Option Mem := nm (x6 + 1) (fun v9 => k55 x0 x1 x2 x3 x4 x5 v9 mm)
theorem f0_fillLevels_j103_ok {E : Ev} {l : Launch} {C : Cfg} {x : Mem} {k55 : Nat → Int32 → Int32 → Nat → Nat → Nat → Int32 → Mem → Option Mem} (hj : Dj C) (X : Ec E l C rmX0_fillLevels) (B : Bx E RX0 tbX0_fillLevels 8 none) (hQ : Rt E) (hr : Rs E none x) (hk55 : ∀ (x0 : Nat) (x1 : Int32) (x2 : Int32) (x3 : Nat) (x4 : Nat) (x5 : Nat) (x6 : Int32) (mm : Mem), Ob x0 0 → Ob x3 8 → Ob x4 5 → Ob x5 2 → k55 x0 x1 x2 x3 x4 x5 x6 mm = some x → G E 8 55 [(0, .ref x0), (1, .int x1), (2, .int x2), (3, .ref x3), (4, .ref x4), (5, .ref x5), (6, .int x6)] [] mm) (x0 : Nat) (x1 : Int32) (x2 : Int32) (x3 : Nat) (x4 : Nat) (x5 : Nat) (x6 : Int32) (mm : Mem) (o_x0 : Ob x0 0) (o_x3 : Ob x3 8) (o_x4 : Ob x4 5) (o_x5 : Ob x5 2) (hf : f0_fillLevels_j103 k55 x0 x1 x2 x3 x4 x5 x6 mm = some x) : G E 8 103 [(0, .ref x0), (1, .int x1), (2, .int x2), (3, .ref x3), (4, .ref x4), (5, .ref x5), (6, .int x6)] [] mm := by
  unfold f0_fillLevels_j103 at hf
  obtain ⟨v9, ex, hf⟩ := nm_x hf
  refine z_iinc v9 [(6, .int v9), (0, .ref x0), (1, .int x1), (2, .int x2), (3, .ref x3), (4, .ref x4), (5, .ref x5)] B 49 rfl 6 rfl (ex.symm) (by decide) rfl ?_
  refine z_goto B 50 rfl 55 (by decide) ?_
  refine z_sub [(0, .ref x0), (1, .int x1), (2, .int x2), (3, .ref x3), (4, .ref x4), (5, .ref x5), (6, .int v9)] [1, 2, 3, 4, 5, 6, 0] rfl ?_
  exact hk55 _ _ _ _ _ _ _ _ o_x0 o_x3 o_x4 o_x5  hf
def f0_fillLevels_l55 : Nat → Nat → Int32 → Int32 → Nat → Nat → Nat → Int32 → Mem → Option Mem
  | 0, _, _, _, _, _, _, _, _ => none
  | n + 1, x0, x1, x2, x3, x4, x5, x6, mm => if x6 < (mm x5 0) then bd (f6_at mm (x5 + 2) x6) (fun r8 => if r8 < x1 then f0_fillLevels_j103 (fun x0 x1 x2 x3 x4 x5 x6 mm => f0_fillLevels_l55 n x0 x1 x2 x3 x4 x5 x6 mm) x0 x1 x2 x3 x4 x5 x6 mm else bd (f6_at mm x3 r8) (fun r10 => bd (f0_unitsBelow mm x0 x6 x2) (fun r11 => bd (f6_put mm x3 r8 (r10 + r11)) (fun r12 => f0_fillLevels_j103 (fun x0 x1 x2 x3 x4 x5 x6 mm => f0_fillLevels_l55 n x0 x1 x2 x3 x4 x5 x6 mm) x0 x1 x2 x3 x4 x5 x6 r12)))) else nm ((mm x4 0) - (1 : Int32)) (fun v1 => f0_fillLevels_l118 FU x1 x3 x4 v1 mm)
theorem f0_fillLevels_l55_ok {E : Ev} {l : Launch} {C : Cfg} {x : Mem} (hj : Dj C) (X : Ec E l C rmX0_fillLevels) (B : Bx E RX0 tbX0_fillLevels 8 none) (hQ : Rt E) (hr : Rs E none x) (n : Nat) : ∀ (x0 : Nat) (x1 : Int32) (x2 : Int32) (x3 : Nat) (x4 : Nat) (x5 : Nat) (x6 : Int32) (mm : Mem), Ob x0 0 → Ob x3 8 → Ob x4 5 → Ob x5 2 → f0_fillLevels_l55 n x0 x1 x2 x3 x4 x5 x6 mm = some x → G E 8 55 [(0, .ref x0), (1, .int x1), (2, .int x2), (3, .ref x3), (4, .ref x4), (5, .ref x5), (6, .int x6)] [] mm := by
  induction n with
  | zero =>
    intro x0 x1 x2 x3 x4 x5 x6 mm o_x0 o_x3 o_x4 o_x5 hf
    rw [f0_fillLevels_l55] at hf
    cases hf
  | succ n ih =>
    intro x0 x1 x2 x3 x4 x5 x6 mm o_x0 o_x3 o_x4 o_x5 hf
    rw [f0_fillLevels_l55] at hf
    refine z_iload B 26 rfl 6 rfl ?_
    refine z_aload B 27 rfl 5 rfl ?_
    refine z_geti 2 0 x5 B 28 rfl o_x5 rfl (iX0_fillLevels _ (List.mem_of_getElem? (i := 4) rfl)) rfl ?_
    by_cases hc : x6 < (mm x5 0)
    · replace hf := (if_pos hc).symm.trans hf
      refine z_icmp_ge_f B 29 rfl 109 (by decide) hc ?_
      refine z_aload B 30 rfl 5 rfl ?_
      refine z_getr 2 3 x5 B 31 rfl o_x5 rfl (iX0_fillLevels _ (List.mem_of_getElem? (i := 11) rfl)) rfl ?_
      refine z_iload B 32 rfl 6 rfl ?_
      obtain ⟨r8, ec, hf⟩ := bd_e hf
      refine z_callN [.ref (x5 + 2), .int x6] [] [.int r8] X B 33 rfl miX6_at ⟨List.mem_of_getElem? (i := 13) rfl, (iX0_fillLevels _ (List.mem_of_getElem? (i := 6) rfl))⟩ (ctX6_at hj (obf_2_3 o_x5) ec) ⟨Nat.le_of_ble_eq_true rfl, Nat.le_of_ble_eq_true rfl⟩ rfl rfl (Nat.le_of_ble_eq_true rfl) rfl ?_
      refine z_istore [(7, .int r8), (0, .ref x0), (1, .int x1), (2, .int x2), (3, .ref x3), (4, .ref x4), (5, .ref x5), (6, .int x6)] B 34 rfl (by decide) rfl ?_
      refine z_iload B 35 rfl 0 rfl ?_
      refine z_iload_n B 36 rfl 1 2 rfl rfl ?_
      by_cases hc : r8 < x1
      · replace hf := (if_pos hc).symm.trans hf
        refine z_icmp_lt_t B 37 rfl 103 (by decide) hc ?_
        refine z_sub [(0, .ref x0), (1, .int x1), (2, .int x2), (3, .ref x3), (4, .ref x4), (5, .ref x5), (6, .int x6)] [1, 2, 3, 4, 5, 6, 7] rfl ?_
        exact f0_fillLevels_j103_ok hj X B hQ hr ih _ _ _ _ _ _ _ _ o_x0 o_x3 o_x4 o_x5  hf
      · replace hf := (if_neg hc).symm.trans hf
        refine z_icmp_lt_f B 37 rfl 103 (by decide) hc ?_
        refine z_aload_n B 38 rfl 3 4 rfl rfl ?_
        refine z_iload B 39 rfl 0 rfl ?_
        refine z_aload_n B 40 rfl 3 4 rfl rfl ?_
        refine z_iload B 41 rfl 0 rfl ?_
        obtain ⟨r10, ec, hf⟩ := bd_e hf
        refine z_callN [.ref x3, .int r8] [.int r8, .ref x3] [.int r10, .int r8, .ref x3] X B 42 rfl miX6_at ⟨List.mem_of_getElem? (i := 13) rfl, (iX0_fillLevels _ (List.mem_of_getElem? (i := 6) rfl))⟩ (ctX6_at hj o_x3 ec) ⟨Nat.le_of_ble_eq_true rfl, Nat.le_of_ble_eq_true rfl⟩ rfl rfl (Nat.le_of_ble_eq_true rfl) rfl ?_
        refine z_aload_n B 43 rfl 0 1 rfl rfl ?_
        refine z_iload B 44 rfl 7 rfl ?_
        refine z_iload_n B 45 rfl 2 3 rfl rfl ?_
        obtain ⟨r11, ec, hf⟩ := bd_e hf
        refine z_callV x0 0 [.int x6, .int x2] [.int r10, .int r8, .ref x3] [.int r11, .int r10, .int r8, .ref x3] X B 46 rfl (by decide) o_x0 rfl rfl miX0_unitsBelow ⟨(iX0_fillLevels _ (List.mem_of_getElem? (i := 12) rfl)), (iX0_fillLevels _ (List.mem_of_getElem? (i := 13) rfl)), (iX0_fillLevels _ (List.mem_of_getElem? (i := 14) rfl))⟩ (ctX0_unitsBelow hj o_x0 ec) ⟨Nat.le_of_ble_eq_true rfl, Nat.le_of_ble_eq_true rfl⟩ rfl rfl (Nat.le_of_ble_eq_true rfl) rfl ?_
        refine z_iadd B 47 rfl ?_
        obtain ⟨r12, ec, hf⟩ := bd_e hf
        refine z_callN [.ref x3, .int r8, .int (r10 + r11)] [] [] X B 48 rfl miX6_put ⟨List.mem_of_getElem? (i := 12) rfl, (iX0_fillLevels _ (List.mem_of_getElem? (i := 10) rfl))⟩ (ctX6_put hj o_x3 ec) ⟨Nat.le_of_ble_eq_true rfl, Nat.le_of_ble_eq_true rfl⟩ rfl rfl (Nat.le_of_ble_eq_true rfl) rfl ?_
        refine z_sub [(0, .ref x0), (1, .int x1), (2, .int x2), (3, .ref x3), (4, .ref x4), (5, .ref x5), (6, .int x6)] [1, 2, 3, 4, 5, 6, 7] rfl ?_
        exact f0_fillLevels_j103_ok hj X B hQ hr ih _ _ _ _ _ _ _ _ o_x0 o_x3 o_x4 o_x5  hf
    · replace hf := (if_neg hc).symm.trans hf
      refine z_icmp_ge_t B 29 rfl 109 (by decide) hc ?_
      refine z_aload B 51 rfl 4 rfl ?_
      refine z_geti 5 0 x4 B 52 rfl o_x4 rfl (iX0_fillLevels _ (List.mem_of_getElem? (i := 3) rfl)) rfl ?_
      refine z_iconst 1 B 53 rfl (by decide) ?_
      refine z_isub B 54 rfl ?_
      obtain ⟨v1, ex, hf⟩ := nm_x hf
      refine z_top ex ?_
      refine z_istore [(6, .int v1), (0, .ref x0), (1, .int x1), (2, .int x2), (3, .ref x3), (4, .ref x4), (5, .ref x5)] B 55 rfl (by decide) rfl ?_
      refine z_sub [(1, .int x1), (3, .ref x3), (4, .ref x4), (6, .int v1)] [2, 4, 5, 0] rfl ?_
      exact f0_fillLevels_l118_ok hj X B hQ hr FU _ _ _ _ _ o_x3 o_x4  hf
def f0_fillLevels_l21 : Nat → Nat → Int32 → Int32 → Nat → Nat → Nat → Int32 → Mem → Option Mem
  | 0, _, _, _, _, _, _, _, _ => none
  | n + 1, x0, x1, x2, x3, x4, x5, x6, mm => if x6 < (mm x4 0) then bd (f5_wantedFrom mm x4 x6 x2) (fun r13 => bd (f6_put mm x3 x6 (-r13)) (fun r14 => nm (x6 + 1) (fun v15 => f0_fillLevels_l21 n x0 x1 x2 x3 x4 x5 v15 r14))) else f0_fillLevels_l55 FU x0 x1 x2 x3 x4 x5 (0 : Int32) mm
theorem f0_fillLevels_l21_ok {E : Ev} {l : Launch} {C : Cfg} {x : Mem} (hj : Dj C) (X : Ec E l C rmX0_fillLevels) (B : Bx E RX0 tbX0_fillLevels 8 none) (hQ : Rt E) (hr : Rs E none x) (n : Nat) : ∀ (x0 : Nat) (x1 : Int32) (x2 : Int32) (x3 : Nat) (x4 : Nat) (x5 : Nat) (x6 : Int32) (mm : Mem), Ob x0 0 → Ob x3 8 → Ob x4 5 → Ob x5 2 → f0_fillLevels_l21 n x0 x1 x2 x3 x4 x5 x6 mm = some x → G E 8 21 [(0, .ref x0), (1, .int x1), (2, .int x2), (3, .ref x3), (4, .ref x4), (5, .ref x5), (6, .int x6)] [] mm := by
  induction n with
  | zero =>
    intro x0 x1 x2 x3 x4 x5 x6 mm o_x0 o_x3 o_x4 o_x5 hf
    rw [f0_fillLevels_l21] at hf
    cases hf
  | succ n ih =>
    intro x0 x1 x2 x3 x4 x5 x6 mm o_x0 o_x3 o_x4 o_x5 hf
    rw [f0_fillLevels_l21] at hf
    refine z_iload B 10 rfl 6 rfl ?_
    refine z_aload B 11 rfl 4 rfl ?_
    refine z_geti 5 0 x4 B 12 rfl o_x4 rfl (iX0_fillLevels _ (List.mem_of_getElem? (i := 3) rfl)) rfl ?_
    by_cases hc : x6 < (mm x4 0)
    · replace hf := (if_pos hc).symm.trans hf
      refine z_icmp_ge_f B 13 rfl 52 (by decide) hc ?_
      refine z_aload_n B 14 rfl 3 3 rfl rfl ?_
      refine z_iload B 15 rfl 6 rfl ?_
      refine z_aload B 16 rfl 4 rfl ?_
      refine z_iload B 17 rfl 6 rfl ?_
      refine z_iload_n B 18 rfl 2 2 rfl rfl ?_
      obtain ⟨r13, ec, hf⟩ := bd_e hf
      refine z_callV x4 5 [.int x6, .int x2] [.int x6, .ref x3] [.int r13, .int x6, .ref x3] X B 19 rfl (by decide) o_x4 rfl rfl miX5_wantedFrom ⟨(iX0_fillLevels _ (List.mem_of_getElem? (i := 15) rfl)), (iX0_fillLevels _ (List.mem_of_getElem? (i := 16) rfl)), (iX0_fillLevels _ (List.mem_of_getElem? (i := 17) rfl))⟩ (ctX5_wantedFrom hj o_x4 ec) ⟨Nat.le_of_ble_eq_true rfl, Nat.le_of_ble_eq_true rfl⟩ rfl rfl (Nat.le_of_ble_eq_true rfl) rfl ?_
      refine z_ineg B 20 rfl ?_
      obtain ⟨r14, ec, hf⟩ := bd_e hf
      refine z_callN [.ref x3, .int x6, .int (-r13)] [] [] X B 21 rfl miX6_put ⟨List.mem_of_getElem? (i := 12) rfl, (iX0_fillLevels _ (List.mem_of_getElem? (i := 10) rfl))⟩ (ctX6_put hj o_x3 ec) ⟨Nat.le_of_ble_eq_true rfl, Nat.le_of_ble_eq_true rfl⟩ rfl rfl (Nat.le_of_ble_eq_true rfl) rfl ?_
      obtain ⟨v15, ex, hf⟩ := nm_x hf
      refine z_iinc v15 [(6, .int v15), (0, .ref x0), (1, .int x1), (2, .int x2), (3, .ref x3), (4, .ref x4), (5, .ref x5)] B 22 rfl 6 rfl (ex.symm) (by decide) rfl ?_
      refine z_goto B 23 rfl 21 (by decide) ?_
      refine z_sub [(0, .ref x0), (1, .int x1), (2, .int x2), (3, .ref x3), (4, .ref x4), (5, .ref x5), (6, .int v15)] [1, 2, 3, 4, 5, 6, 0] rfl ?_
      exact ih _ _ _ _ _ _ _ _ o_x0 o_x3 o_x4 o_x5  hf
    · replace hf := (if_neg hc).symm.trans hf
      refine z_icmp_ge_t B 13 rfl 52 (by decide) hc ?_
      refine z_iconst 0 B 24 rfl (by decide) ?_
      refine z_istore [(6, .int (0 : Int32)), (0, .ref x0), (1, .int x1), (2, .int x2), (3, .ref x3), (4, .ref x4), (5, .ref x5)] B 25 rfl (by decide) rfl ?_
      refine z_sub [(0, .ref x0), (1, .int x1), (2, .int x2), (3, .ref x3), (4, .ref x4), (5, .ref x5), (6, .int (0 : Int32))] [1, 2, 3, 4, 5, 6, 0] rfl ?_
      exact f0_fillLevels_l55_ok hj X B hQ hr FU _ _ _ _ _ _ _ _ o_x0 o_x3 o_x4 o_x5  hf
def f0_fillLevels (mm : Mem) (a0 : Nat) (a1 : Int32) (a2 : Int32) (a3 : Nat) : Option Mem := f0_fillLevels_l21 FU a0 a1 a2 a3 (a0 + 1 + 1) (a0 + 1 + 8) a1 mm
theorem ctX0_fillLevels {l : Launch} {C : Cfg} (hj : Dj C) {mm : Mem} {a0 : Nat} {a1 : Int32} {a2 : Int32} {a3 : Nat} {x : Mem} (o_a0 : Ob a0 0) (o_a3 : Ob a3 8) (hf : f0_fillLevels mm a0 a1 a2 a3 = some x) : Ct l C yX0_fillLevels cX0_fillLevels 8 none 2 51 [.ref a0, .int a1, .int a2, .ref a3] mm none x := by
  refine Ct.of (tb := tbX0_fillLevels) hj miX0_fillLevels.2.1 miX0_fillLevels.1 dtX0_fillLevels (Nat.le_of_ble_eq_true rfl) ?_
  intro E B hQ hr X
  unfold f0_fillLevels at hf
  show G E 8 0 [(0, .ref a0), (1, .int a1), (2, .int a2), (3, .ref a3)] [] mm
  refine z_aload_n B 0 rfl 0 0 rfl rfl ?_
  refine z_getr 0 0 a0 B 1 rfl o_a0 rfl (iX0_fillLevels _ (List.mem_of_getElem? (i := 0) rfl)) rfl ?_
  refine z_getr 1 0 (a0 + 1) B 2 rfl (obf_0_0 o_a0) rfl (iX0_fillLevels _ (List.mem_of_getElem? (i := 1) rfl)) rfl ?_
  refine z_astore [(4, .ref (a0 + 1 + 1)), (0, .ref a0), (1, .int a1), (2, .int a2), (3, .ref a3)] B 3 rfl (by decide) rfl ?_
  refine z_aload_n B 4 rfl 0 1 rfl rfl ?_
  refine z_getr 0 0 a0 B 5 rfl o_a0 rfl (iX0_fillLevels _ (List.mem_of_getElem? (i := 0) rfl)) rfl ?_
  refine z_getr 1 1 (a0 + 1) B 6 rfl (obf_0_0 o_a0) rfl (iX0_fillLevels _ (List.mem_of_getElem? (i := 2) rfl)) rfl ?_
  refine z_astore [(5, .ref (a0 + 1 + 8)), (4, .ref (a0 + 1 + 1)), (0, .ref a0), (1, .int a1), (2, .int a2), (3, .ref a3)] B 7 rfl (by decide) rfl ?_
  refine z_iload_n B 8 rfl 1 3 rfl rfl ?_
  refine z_istore [(6, .int a1), (5, .ref (a0 + 1 + 8)), (4, .ref (a0 + 1 + 1)), (0, .ref a0), (1, .int a1), (2, .int a2), (3, .ref a3)] B 9 rfl (by decide) rfl ?_
  refine z_sub [(0, .ref a0), (1, .int a1), (2, .int a2), (3, .ref a3), (4, .ref (a0 + 1 + 1)), (5, .ref (a0 + 1 + 8)), (6, .int a1)] [3, 4, 5, 6, 2, 1, 0] rfl ?_
  exact f0_fillLevels_l21_ok hj X B hQ hr FU _ _ _ _ _ _ _ _ o_a0 o_a3 (obf_1_0 (obf_0_0 o_a0)) (obf_1_1 (obf_0_0 o_a0))  hf
/-! ZoneCapacity$Auction.leastPrice(II)I -/
def tbX0_leastPrice : Tb := [(0, .iconst 0, 1, 1), (1, .istore_n 3, 1, 2), (2, .sipush 8192, 3, 5), (5, .istore 4, 2, 7), (7, .iload 4, 2, 9), (9, .ifCond .le 53, 3, 12), (12, .iload_n 3, 1, 13), (13, .iload 4, 2, 15), (15, .iadd, 1, 16), (16, .aload_n 0, 1, 17), (17, .getfield 98, 3, 20), (20, .if_icmp .gt 33, 3, 23), (23, .aload_n 0, 1, 24), (24, .iload_n 1, 1, 25), (25, .iload_n 3, 1, 26), (26, .iload 4, 2, 28), (28, .iadd, 1, 29), (29, .aload_n 0, 1, 30), (30, .getfield 37, 3, 33), (33, .invokevirtual 81, 3, 36), (36, .aload_n 0, 1, 37), (37, .getfield 37, 3, 40), (40, .iload_n 1, 1, 41), (41, .invokestatic 69, 3, 44), (44, .iload_n 2, 1, 45), (45, .if_icmp .ge 8, 3, 48), (48, .iload_n 3, 1, 49), (49, .iload 4, 2, 51), (51, .iadd, 1, 52), (52, .istore_n 3, 1, 53), (53, .iload 4, 2, 55), (55, .iconst 1, 1, 56), (56, .ishr, 1, 57), (57, .istore 4, 2, 59), (59, .goto (-52), 3, 62), (62, .iload_n 3, 1, 63), (63, .ireturn, 1, 64)]
theorem dtX0_leastPrice : ∀ q ∈ tbX0_leastPrice, decode cX0_leastPrice q.1 = .ok (q.2.1, q.2.2.1) ∧ q.1 + q.2.2.1 = q.2.2.2 := by decide +kernel
theorem miX0_leastPrice : MI yX0_leastPrice cX0_leastPrice 5 (some .int) 2 := ⟨tw_mem (List.mem_of_getElem? (i := 372) (by decide +kernel)) rfl, by decide, by decide +kernel, tw_mem (List.mem_of_getElem? (i := 15) (by decide +kernel)) rfl⟩
abbrev rmX0_leastPrice : Room := { frames := 3, cells := 0, slots := 0, locals := 78 }
def wX0_leastPrice : List Cond := [.fieldLink "ZoneCapacity$Auction" 98 "ZoneCapacity$Auction" "top" "I", .fieldLink "ZoneCapacity$Auction" 37 "ZoneCapacity$Auction" "levels" "[I", .methodLink "ZoneCapacity$Auction" 81 yX0_fillLevels, .instanceMethod yX0_fillLevels, .selects "ZoneCapacity$Auction" yX0_fillLevels yX0_fillLevels, .static yX6_at]
theorem iX0_leastPrice : ∀ w ∈ wX0_leastPrice, w ∈ TW := tw_of (ids := [176, 172, 373, 375, 3, 272]) (by decide +kernel)
def f0_leastPrice_j53 (k7 : Nat → Int32 → Int32 → Int32 → Int32 → Mem → Option (Int32 × Mem)) (x0 : Nat) (x1 : Int32) (x2 : Int32) (x3 : Int32) (x4 : Int32) (mm : Mem) : Option (Int32 × Mem) := nm (x4 >>> ((1 : Int32) &&& 31)) (fun v1 => k7 x0 x1 x2 x3 v1 mm)
theorem f0_leastPrice_j53_ok {E : Ev} {l : Launch} {C : Cfg} {x : (Int32 × Mem)} {k7 : Nat → Int32 → Int32 → Int32 → Int32 → Mem → Option (Int32 × Mem)} (hj : Dj C) (X : Ec E l C rmX0_leastPrice) (B : Bx E RX0 tbX0_leastPrice 5 (some .int)) (hQ : Rt E) (hr : Rs E (some (.int x.1)) x.2) (hk7 : ∀ (x0 : Nat) (x1 : Int32) (x2 : Int32) (x3 : Int32) (x4 : Int32) (mm : Mem), Ob x0 0 → k7 x0 x1 x2 x3 x4 mm = some x → G E 5 7 [(0, .ref x0), (1, .int x1), (2, .int x2), (3, .int x3), (4, .int x4)] [] mm) (x0 : Nat) (x1 : Int32) (x2 : Int32) (x3 : Int32) (x4 : Int32) (mm : Mem) (o_x0 : Ob x0 0) (hf : f0_leastPrice_j53 k7 x0 x1 x2 x3 x4 mm = some x) : G E 5 53 [(0, .ref x0), (1, .int x1), (2, .int x2), (3, .int x3), (4, .int x4)] [] mm := by
  unfold f0_leastPrice_j53 at hf
  refine z_iload B 30 rfl 4 rfl ?_
  refine z_iconst 1 B 31 rfl (by decide) ?_
  refine z_ishr B 32 rfl ?_
  obtain ⟨v1, ex, hf⟩ := nm_x hf
  refine z_top ex ?_
  refine z_istore [(4, .int v1), (0, .ref x0), (1, .int x1), (2, .int x2), (3, .int x3)] B 33 rfl (by decide) rfl ?_
  refine z_goto B 34 rfl 7 (by decide) ?_
  refine z_sub [(0, .ref x0), (1, .int x1), (2, .int x2), (3, .int x3), (4, .int v1)] [1, 2, 3, 4, 0] rfl ?_
  exact hk7 _ _ _ _ _ _ o_x0  hf
def f0_leastPrice_l7 : Nat → Nat → Int32 → Int32 → Int32 → Int32 → Mem → Option (Int32 × Mem)
  | 0, _, _, _, _, _, _ => none
  | n + 1, x0, x1, x2, x3, x4, mm => if 0 < x4 then if (mm x0 11) < (x3 + x4) then f0_leastPrice_j53 (fun x0 x1 x2 x3 x4 mm => f0_leastPrice_l7 n x0 x1 x2 x3 x4 mm) x0 x1 x2 x3 x4 mm else bd (f0_fillLevels mm x0 x1 (x3 + x4) (x0 + 26)) (fun r2 => bd (f6_at r2 (x0 + 26) x1) (fun r3 => if r3 < x2 then nm (x3 + x4) (fun v4 => f0_leastPrice_j53 (fun x0 x1 x2 x3 x4 mm => f0_leastPrice_l7 n x0 x1 x2 x3 x4 mm) x0 x1 x2 v4 x4 r2) else f0_leastPrice_j53 (fun x0 x1 x2 x3 x4 mm => f0_leastPrice_l7 n x0 x1 x2 x3 x4 mm) x0 x1 x2 x3 x4 r2)) else some (x3, mm)
theorem f0_leastPrice_l7_ok {E : Ev} {l : Launch} {C : Cfg} {x : (Int32 × Mem)} (hj : Dj C) (X : Ec E l C rmX0_leastPrice) (B : Bx E RX0 tbX0_leastPrice 5 (some .int)) (hQ : Rt E) (hr : Rs E (some (.int x.1)) x.2) (n : Nat) : ∀ (x0 : Nat) (x1 : Int32) (x2 : Int32) (x3 : Int32) (x4 : Int32) (mm : Mem), Ob x0 0 → f0_leastPrice_l7 n x0 x1 x2 x3 x4 mm = some x → G E 5 7 [(0, .ref x0), (1, .int x1), (2, .int x2), (3, .int x3), (4, .int x4)] [] mm := by
  induction n with
  | zero =>
    intro x0 x1 x2 x3 x4 mm o_x0 hf
    rw [f0_leastPrice_l7] at hf
    cases hf
  | succ n ih =>
    intro x0 x1 x2 x3 x4 mm o_x0 hf
    rw [f0_leastPrice_l7] at hf
    refine z_iload B 4 rfl 4 rfl ?_
    by_cases hc : 0 < x4
    · replace hf := (if_pos hc).symm.trans hf
      refine z_if_le_f B 5 rfl 62 (by decide) hc ?_
      refine z_iload_n B 6 rfl 3 3 rfl rfl ?_
      refine z_iload B 7 rfl 4 rfl ?_
      refine z_iadd B 8 rfl ?_
      refine z_aload_n B 9 rfl 0 0 rfl rfl ?_
      refine z_geti 0 11 x0 B 10 rfl o_x0 rfl (iX0_leastPrice _ (List.mem_of_getElem? (i := 0) rfl)) rfl ?_
      by_cases hc : (mm x0 11) < (x3 + x4)
      · replace hf := (if_pos hc).symm.trans hf
        refine z_icmp_gt_t B 11 rfl 53 (by decide) hc ?_
        exact f0_leastPrice_j53_ok hj X B hQ hr ih _ _ _ _ _ _ o_x0  hf
      · replace hf := (if_neg hc).symm.trans hf
        refine z_icmp_gt_f B 11 rfl 53 (by decide) hc ?_
        refine z_aload_n B 12 rfl 0 0 rfl rfl ?_
        refine z_iload_n B 13 rfl 1 1 rfl rfl ?_
        refine z_iload_n B 14 rfl 3 3 rfl rfl ?_
        refine z_iload B 15 rfl 4 rfl ?_
        refine z_iadd B 16 rfl ?_
        refine z_aload_n B 17 rfl 0 0 rfl rfl ?_
        refine z_getr 0 7 x0 B 18 rfl o_x0 rfl (iX0_leastPrice _ (List.mem_of_getElem? (i := 1) rfl)) rfl ?_
        obtain ⟨r2, ec, hf⟩ := bd_e hf
        refine z_callV x0 0 [.int x1, .int (x3 + x4), .ref (x0 + 26)] [] [] X B 19 rfl (by decide) o_x0 rfl rfl miX0_fillLevels ⟨(iX0_leastPrice _ (List.mem_of_getElem? (i := 2) rfl)), (iX0_leastPrice _ (List.mem_of_getElem? (i := 3) rfl)), (iX0_leastPrice _ (List.mem_of_getElem? (i := 4) rfl))⟩ (ctX0_fillLevels hj o_x0 (obf_0_7 o_x0) ec) ⟨Nat.le_of_ble_eq_true rfl, Nat.le_of_ble_eq_true rfl⟩ rfl rfl (Nat.le_of_ble_eq_true rfl) rfl ?_
        refine z_aload_n B 20 rfl 0 0 rfl rfl ?_
        refine z_getr 0 7 x0 B 21 rfl o_x0 rfl (iX0_leastPrice _ (List.mem_of_getElem? (i := 1) rfl)) rfl ?_
        refine z_iload_n B 22 rfl 1 1 rfl rfl ?_
        obtain ⟨r3, ec, hf⟩ := bd_e hf
        refine z_callN [.ref (x0 + 26), .int x1] [] [.int r3] X B 23 rfl miX6_at ⟨List.mem_of_getElem? (i := 13) rfl, (iX0_leastPrice _ (List.mem_of_getElem? (i := 5) rfl))⟩ (ctX6_at hj (obf_0_7 o_x0) ec) ⟨Nat.le_of_ble_eq_true rfl, Nat.le_of_ble_eq_true rfl⟩ rfl rfl (Nat.le_of_ble_eq_true rfl) rfl ?_
        refine z_iload_n B 24 rfl 2 2 rfl rfl ?_
        by_cases hc : r3 < x2
        · replace hf := (if_pos hc).symm.trans hf
          refine z_icmp_ge_f B 25 rfl 53 (by decide) hc ?_
          refine z_iload_n B 26 rfl 3 3 rfl rfl ?_
          refine z_iload B 27 rfl 4 rfl ?_
          refine z_iadd B 28 rfl ?_
          obtain ⟨v4, ex, hf⟩ := nm_x hf
          refine z_top ex ?_
          refine z_istore_n [(3, .int v4), (0, .ref x0), (1, .int x1), (2, .int x2), (4, .int x4)] B 29 rfl 3 rfl (by decide) rfl ?_
          refine z_sub [(0, .ref x0), (1, .int x1), (2, .int x2), (3, .int v4), (4, .int x4)] [1, 2, 3, 0, 4] rfl ?_
          exact f0_leastPrice_j53_ok hj X B hQ hr ih _ _ _ _ _ _ o_x0  hf
        · replace hf := (if_neg hc).symm.trans hf
          refine z_icmp_ge_t B 25 rfl 53 (by decide) hc ?_
          exact f0_leastPrice_j53_ok hj X B hQ hr ih _ _ _ _ _ _ o_x0  hf
    · replace hf := (if_neg hc).symm.trans hf
      refine z_if_le_t B 5 rfl 62 (by decide) hc ?_
      refine z_iload_n B 35 rfl 3 3 rfl rfl ?_
      cases hf
      exact z_iret B 36 rfl rfl hQ hr
def f0_leastPrice (mm : Mem) (a0 : Nat) (a1 : Int32) (a2 : Int32) : Option (Int32 × Mem) := f0_leastPrice_l7 FU a0 a1 a2 (0 : Int32) (8192 : Int32) mm
theorem ctX0_leastPrice {l : Launch} {C : Cfg} (hj : Dj C) {mm : Mem} {a0 : Nat} {a1 : Int32} {a2 : Int32} {x : (Int32 × Mem)} (o_a0 : Ob a0 0) (hf : f0_leastPrice mm a0 a1 a2 = some x) : Ct l C yX0_leastPrice cX0_leastPrice 5 (some .int) 3 78 [.ref a0, .int a1, .int a2] mm (some (.int x.1)) x.2 := by
  refine Ct.of (tb := tbX0_leastPrice) hj miX0_leastPrice.2.1 miX0_leastPrice.1 dtX0_leastPrice (Nat.le_of_ble_eq_true rfl) ?_
  intro E B hQ hr X
  unfold f0_leastPrice at hf
  show G E 5 0 [(0, .ref a0), (1, .int a1), (2, .int a2)] [] mm
  refine z_iconst 0 B 0 rfl (by decide) ?_
  refine z_istore_n [(3, .int (0 : Int32)), (0, .ref a0), (1, .int a1), (2, .int a2)] B 1 rfl 3 rfl (by decide) rfl ?_
  refine z_sipush 8192 B 2 rfl (by decide) ?_
  refine z_istore [(4, .int (8192 : Int32)), (3, .int (0 : Int32)), (0, .ref a0), (1, .int a1), (2, .int a2)] B 3 rfl (by decide) rfl ?_
  refine z_sub [(0, .ref a0), (1, .int a1), (2, .int a2), (3, .int (0 : Int32)), (4, .int (8192 : Int32))] [2, 3, 4, 1, 0] rfl ?_
  exact f0_leastPrice_l7_ok hj X B hQ hr FU _ _ _ _ _ _ o_a0  hf
/-! ZoneCapacity$Auction.partToLines(III)I -/
def tbX0_partToLines : Tb := [(0, .aload_n 0, 1, 1), (1, .getfield 12, 3, 4), (4, .getfield 85, 3, 7), (7, .astore 4, 2, 9), (9, .iload_n 3, 1, 10), (10, .istore 5, 2, 12), (12, .iconst 0, 1, 13), (13, .istore 6, 2, 15), (15, .iload 6, 2, 17), (17, .aload 4, 2, 19), (19, .getfield 89, 3, 22), (22, .iconst 4, 1, 23), (23, .imul, 1, 24), (24, .if_icmp .ge 100, 3, 27), (27, .aload 4, 2, 29), (29, .getfield 113, 3, 32), (32, .iload 6, 2, 34), (34, .iconst 4, 1, 35), (35, .idiv, 1, 36), (36, .invokestatic 69, 3, 39), (39, .iload_n 1, 1, 40), (40, .if_icmp .ne 78, 3, 43), (43, .aload_n 0, 1, 44), (44, .getfield 34, 3, 47), (47, .iload 6, 2, 49), (49, .invokestatic 69, 3, 52), (52, .iload_n 2, 1, 53), (53, .if_icmp .ge 15, 3, 56), (56, .aload_n 0, 1, 57), (57, .getfield 31, 3, 60), (60, .iload 6, 2, 62), (62, .invokestatic 69, 3, 65), (65, .goto 4, 3, 68), (68, .iconst 0, 1, 69), (69, .istore 7, 2, 71), (71, .aload_n 0, 1, 72), (72, .getfield 34, 3, 75), (75, .iload 6, 2, 77), (77, .invokestatic 69, 3, 80), (80, .iload_n 2, 1, 81), (81, .if_icmp .ne 26, 3, 84), (84, .iload 5, 2, 86), (86, .aload_n 0, 1, 87), (87, .getfield 31, 3, 90), (90, .iload 6, 2, 92), (92, .invokestatic 69, 3, 95), (95, .invokestatic 131, 3, 98), (98, .istore 7, 2, 100), (100, .iload 5, 2, 102), (102, .iload 7, 2, 104), (104, .isub, 1, 105), (105, .istore 5, 2, 107), (107, .aload_n 0, 1, 108), (108, .getfield 28, 3, 111), (111, .iload 6, 2, 113), (113, .iload 7, 2, 115), (115, .invokestatic 56, 3, 118), (118, .iinc 6 1, 3, 121), (121, .goto (-106), 3, 124), (124, .iload 5, 2, 126), (126, .ireturn, 1, 127)]
theorem dtX0_partToLines : ∀ q ∈ tbX0_partToLines, decode cX0_partToLines q.1 = .ok (q.2.1, q.2.2.1) ∧ q.1 + q.2.2.1 = q.2.2.2 := by decide +kernel
theorem miX0_partToLines : MI yX0_partToLines cX0_partToLines 8 (some .int) 3 := ⟨tw_mem (List.mem_of_getElem? (i := 401) (by decide +kernel)) rfl, by decide, by decide +kernel, tw_mem (List.mem_of_getElem? (i := 15) (by decide +kernel)) rfl⟩
abbrev rmX0_partToLines : Room := { frames := 1, cells := 0, slots := 0, locals := 22 }
def wX0_partToLines : List Cond := [.fieldLink "ZoneCapacity$Auction" 12 "ZoneCapacity$Auction" "market" "LZoneCapacity$Market;", .fieldLink "ZoneCapacity$Auction" 85 "ZoneCapacity$Market" "offers" "LZoneCapacity$Offers;", .fieldLink "ZoneCapacity$Auction" 89 "ZoneCapacity$Offers" "many" "I", .fieldLink "ZoneCapacity$Auction" 113 "ZoneCapacity$Offers" "zones" "[I", .static yX6_at, .fieldLink "ZoneCapacity$Auction" 34 "ZoneCapacity$Auction" "its" "[I", .fieldLink "ZoneCapacity$Auction" 28 "ZoneCapacity$Auction" "takenUnits" "[I", .static yX6_put, .fieldLink "ZoneCapacity$Auction" 31 "ZoneCapacity$Auction" "units" "[I", .methodLink "ZoneCapacity$Auction" 131 ⟨"java/lang/Math", "min", "(II)I"⟩, .static ⟨"java/lang/Math", "min", "(II)I"⟩, .initialized "java/lang/Math", .code Lib.Math.min.name Lib.Math.min.code 2 (some .int)]
theorem iX0_partToLines : ∀ w ∈ wX0_partToLines, w ∈ TW := tw_of (ids := [160, 153, 106, 112, 272, 171, 168, 291, 170, 402, 357, 26, 358]) (by decide +kernel)
def f0_partToLines_j118 (k15 : Nat → Int32 → Int32 → Nat → Int32 → Int32 → Mem → Option (Int32 × Mem)) (x0 : Nat) (x1 : Int32) (x2 : Int32) (x4 : Nat) (x5 : Int32) (x6 : Int32) (mm : Mem) : Option (Int32 × Mem) := nm (x6 + 1) (fun v2 => k15 x0 x1 x2 x4 x5 v2 mm)
theorem f0_partToLines_j118_ok {E : Ev} {l : Launch} {C : Cfg} {x : (Int32 × Mem)} {k15 : Nat → Int32 → Int32 → Nat → Int32 → Int32 → Mem → Option (Int32 × Mem)} (hj : Dj C) (X : Ec E l C rmX0_partToLines) (B : Bx E RX0 tbX0_partToLines 8 (some .int)) (hQ : Rt E) (hr : Rs E (some (.int x.1)) x.2) (hk15 : ∀ (x0 : Nat) (x1 : Int32) (x2 : Int32) (x4 : Nat) (x5 : Int32) (x6 : Int32) (mm : Mem), Ob x0 0 → Ob x4 2 → k15 x0 x1 x2 x4 x5 x6 mm = some x → G E 8 15 [(0, .ref x0), (1, .int x1), (2, .int x2), (4, .ref x4), (5, .int x5), (6, .int x6)] [] mm) (x0 : Nat) (x1 : Int32) (x2 : Int32) (x4 : Nat) (x5 : Int32) (x6 : Int32) (mm : Mem) (o_x0 : Ob x0 0) (o_x4 : Ob x4 2) (hf : f0_partToLines_j118 k15 x0 x1 x2 x4 x5 x6 mm = some x) : G E 8 118 [(0, .ref x0), (1, .int x1), (2, .int x2), (4, .ref x4), (5, .int x5), (6, .int x6)] [] mm := by
  unfold f0_partToLines_j118 at hf
  obtain ⟨v2, ex, hf⟩ := nm_x hf
  refine z_iinc v2 [(6, .int v2), (0, .ref x0), (1, .int x1), (2, .int x2), (4, .ref x4), (5, .int x5)] B 57 rfl 5 rfl (ex.symm) (by decide) rfl ?_
  refine z_goto B 58 rfl 15 (by decide) ?_
  refine z_sub [(0, .ref x0), (1, .int x1), (2, .int x2), (4, .ref x4), (5, .int x5), (6, .int v2)] [1, 2, 3, 4, 5, 0] rfl ?_
  exact hk15 _ _ _ _ _ _ _ o_x0 o_x4  hf
def f0_partToLines_j107 (k15 : Nat → Int32 → Int32 → Nat → Int32 → Int32 → Mem → Option (Int32 × Mem)) (x0 : Nat) (x1 : Int32) (x2 : Int32) (x4 : Nat) (x5 : Int32) (x6 : Int32) (x7 : Int32) (mm : Mem) : Option (Int32 × Mem) := bd (f6_put mm (x0 + 23) x6 x7) (fun r5 => f0_partToLines_j118 k15 x0 x1 x2 x4 x5 x6 r5)
theorem f0_partToLines_j107_ok {E : Ev} {l : Launch} {C : Cfg} {x : (Int32 × Mem)} {k15 : Nat → Int32 → Int32 → Nat → Int32 → Int32 → Mem → Option (Int32 × Mem)} (hj : Dj C) (X : Ec E l C rmX0_partToLines) (B : Bx E RX0 tbX0_partToLines 8 (some .int)) (hQ : Rt E) (hr : Rs E (some (.int x.1)) x.2) (hk15 : ∀ (x0 : Nat) (x1 : Int32) (x2 : Int32) (x4 : Nat) (x5 : Int32) (x6 : Int32) (mm : Mem), Ob x0 0 → Ob x4 2 → k15 x0 x1 x2 x4 x5 x6 mm = some x → G E 8 15 [(0, .ref x0), (1, .int x1), (2, .int x2), (4, .ref x4), (5, .int x5), (6, .int x6)] [] mm) (x0 : Nat) (x1 : Int32) (x2 : Int32) (x4 : Nat) (x5 : Int32) (x6 : Int32) (x7 : Int32) (mm : Mem) (o_x0 : Ob x0 0) (o_x4 : Ob x4 2) (hf : f0_partToLines_j107 k15 x0 x1 x2 x4 x5 x6 x7 mm = some x) : G E 8 107 [(0, .ref x0), (1, .int x1), (2, .int x2), (4, .ref x4), (5, .int x5), (6, .int x6), (7, .int x7)] [] mm := by
  unfold f0_partToLines_j107 at hf
  refine z_aload_n B 52 rfl 0 0 rfl rfl ?_
  refine z_getr 0 4 x0 B 53 rfl o_x0 rfl (iX0_partToLines _ (List.mem_of_getElem? (i := 6) rfl)) rfl ?_
  refine z_iload B 54 rfl 5 rfl ?_
  refine z_iload B 55 rfl 6 rfl ?_
  obtain ⟨r5, ec, hf⟩ := bd_e hf
  refine z_callN [.ref (x0 + 23), .int x6, .int x7] [] [] X B 56 rfl miX6_put ⟨List.mem_of_getElem? (i := 12) rfl, (iX0_partToLines _ (List.mem_of_getElem? (i := 7) rfl))⟩ (ctX6_put hj (obf_0_4 o_x0) ec) ⟨Nat.le_of_ble_eq_true rfl, Nat.le_of_ble_eq_true rfl⟩ rfl rfl (Nat.le_of_ble_eq_true rfl) rfl ?_
  refine z_sub [(0, .ref x0), (1, .int x1), (2, .int x2), (4, .ref x4), (5, .int x5), (6, .int x6)] [0, 1, 2, 3, 4, 5] rfl ?_
  exact f0_partToLines_j118_ok hj X B hQ hr hk15 _ _ _ _ _ _ _ o_x0 o_x4  hf
def f0_partToLines_j69 (k15 : Nat → Int32 → Int32 → Nat → Int32 → Int32 → Mem → Option (Int32 × Mem)) (x0 : Nat) (x1 : Int32) (x2 : Int32) (x4 : Nat) (x5 : Int32) (x6 : Int32) (s0 : Int32) (mm : Mem) : Option (Int32 × Mem) := bd (f6_at mm (x0 + 25) x6) (fun r4 => if r4 = x2 then bd (f6_at mm (x0 + 24) x6) (fun r6 => nm (mni x5 r6) (fun v7 => nm (x5 - v7) (fun v8 => f0_partToLines_j107 k15 x0 x1 x2 x4 v8 x6 v7 mm))) else f0_partToLines_j107 k15 x0 x1 x2 x4 x5 x6 s0 mm)
theorem f0_partToLines_j69_ok {E : Ev} {l : Launch} {C : Cfg} {x : (Int32 × Mem)} {k15 : Nat → Int32 → Int32 → Nat → Int32 → Int32 → Mem → Option (Int32 × Mem)} (hj : Dj C) (X : Ec E l C rmX0_partToLines) (B : Bx E RX0 tbX0_partToLines 8 (some .int)) (hQ : Rt E) (hr : Rs E (some (.int x.1)) x.2) (hk15 : ∀ (x0 : Nat) (x1 : Int32) (x2 : Int32) (x4 : Nat) (x5 : Int32) (x6 : Int32) (mm : Mem), Ob x0 0 → Ob x4 2 → k15 x0 x1 x2 x4 x5 x6 mm = some x → G E 8 15 [(0, .ref x0), (1, .int x1), (2, .int x2), (4, .ref x4), (5, .int x5), (6, .int x6)] [] mm) (x0 : Nat) (x1 : Int32) (x2 : Int32) (x4 : Nat) (x5 : Int32) (x6 : Int32) (s0 : Int32) (mm : Mem) (o_x0 : Ob x0 0) (o_x4 : Ob x4 2) (hf : f0_partToLines_j69 k15 x0 x1 x2 x4 x5 x6 s0 mm = some x) : G E 8 69 [(0, .ref x0), (1, .int x1), (2, .int x2), (4, .ref x4), (5, .int x5), (6, .int x6)] [.int s0] mm := by
  unfold f0_partToLines_j69 at hf
  refine z_istore [(7, .int s0), (0, .ref x0), (1, .int x1), (2, .int x2), (4, .ref x4), (5, .int x5), (6, .int x6)] B 34 rfl (by decide) rfl ?_
  refine z_aload_n B 35 rfl 0 1 rfl rfl ?_
  refine z_getr 0 6 x0 B 36 rfl o_x0 rfl (iX0_partToLines _ (List.mem_of_getElem? (i := 5) rfl)) rfl ?_
  refine z_iload B 37 rfl 6 rfl ?_
  obtain ⟨r4, ec, hf⟩ := bd_e hf
  refine z_callN [.ref (x0 + 25), .int x6] [] [.int r4] X B 38 rfl miX6_at ⟨List.mem_of_getElem? (i := 13) rfl, (iX0_partToLines _ (List.mem_of_getElem? (i := 4) rfl))⟩ (ctX6_at hj (obf_0_6 o_x0) ec) ⟨Nat.le_of_ble_eq_true rfl, Nat.le_of_ble_eq_true rfl⟩ rfl rfl (Nat.le_of_ble_eq_true rfl) rfl ?_
  refine z_iload_n B 39 rfl 2 3 rfl rfl ?_
  by_cases hc : r4 = x2
  · replace hf := (if_pos hc).symm.trans hf
    refine z_icmp_ne_f B 40 rfl 107 (by decide) hc ?_
    refine z_iload B 41 rfl 5 rfl ?_
    refine z_aload_n B 42 rfl 0 1 rfl rfl ?_
    refine z_getr 0 5 x0 B 43 rfl o_x0 rfl (iX0_partToLines _ (List.mem_of_getElem? (i := 8) rfl)) rfl ?_
    refine z_iload B 44 rfl 6 rfl ?_
    obtain ⟨r6, ec, hf⟩ := bd_e hf
    refine z_callN [.ref (x0 + 24), .int x6] [.int x5] [.int r6, .int x5] X B 45 rfl miX6_at ⟨List.mem_of_getElem? (i := 13) rfl, (iX0_partToLines _ (List.mem_of_getElem? (i := 4) rfl))⟩ (ctX6_at hj (obf_0_5 o_x0) ec) ⟨Nat.le_of_ble_eq_true rfl, Nat.le_of_ble_eq_true rfl⟩ rfl rfl (Nat.le_of_ble_eq_true rfl) rfl ?_
    refine z_mmin X B 46 rfl ⟨(iX0_partToLines _ (List.mem_of_getElem? (i := 9) rfl)), (iX0_partToLines _ (List.mem_of_getElem? (i := 10) rfl)), (iX0_partToLines _ (List.mem_of_getElem? (i := 11) rfl)), (iX0_partToLines _ (List.mem_of_getElem? (i := 12) rfl))⟩ ⟨Nat.le_of_ble_eq_true rfl, Nat.le_of_ble_eq_true rfl⟩ (Nat.le_of_ble_eq_true rfl) ?_
    obtain ⟨v7, ex, hf⟩ := nm_x hf
    refine z_top ex ?_
    refine z_istore [(7, .int v7), (0, .ref x0), (1, .int x1), (2, .int x2), (4, .ref x4), (5, .int x5), (6, .int x6)] B 47 rfl (by decide) rfl ?_
    refine z_iload B 48 rfl 5 rfl ?_
    refine z_iload B 49 rfl 0 rfl ?_
    refine z_isub B 50 rfl ?_
    obtain ⟨v8, ex, hf⟩ := nm_x hf
    refine z_top ex ?_
    refine z_istore [(5, .int v8), (7, .int v7), (0, .ref x0), (1, .int x1), (2, .int x2), (4, .ref x4), (6, .int x6)] B 51 rfl (by decide) rfl ?_
    refine z_sub [(0, .ref x0), (1, .int x1), (2, .int x2), (4, .ref x4), (5, .int v8), (6, .int x6), (7, .int v7)] [2, 3, 4, 5, 0, 6, 1] rfl ?_
    exact f0_partToLines_j107_ok hj X B hQ hr hk15 _ _ _ _ _ _ _ _ o_x0 o_x4  hf
  · replace hf := (if_neg hc).symm.trans hf
    refine z_icmp_ne_t B 40 rfl 107 (by decide) hc ?_
    refine z_sub [(0, .ref x0), (1, .int x1), (2, .int x2), (4, .ref x4), (5, .int x5), (6, .int x6), (7, .int s0)] [1, 2, 3, 4, 5, 6, 0] rfl ?_
    exact f0_partToLines_j107_ok hj X B hQ hr hk15 _ _ _ _ _ _ _ _ o_x0 o_x4  hf
def f0_partToLines_l15 : Nat → Nat → Int32 → Int32 → Nat → Int32 → Int32 → Mem → Option (Int32 × Mem)
  | 0, _, _, _, _, _, _, _ => none
  | n + 1, x0, x1, x2, x4, x5, x6, mm => if x6 < ((mm x4 0) * (4 : Int32)) then dvz (4 : Int32) (bd (f6_at mm (x4 + 2) (x6 / (4 : Int32))) (fun r1 => if r1 = x1 then bd (f6_at mm (x0 + 25) x6) (fun r3 => if r3 < x2 then bd (f6_at mm (x0 + 24) x6) (fun r9 => f0_partToLines_j69 (fun x0 x1 x2 x4 x5 x6 mm => f0_partToLines_l15 n x0 x1 x2 x4 x5 x6 mm) x0 x1 x2 x4 x5 x6 r9 mm) else f0_partToLines_j69 (fun x0 x1 x2 x4 x5 x6 mm => f0_partToLines_l15 n x0 x1 x2 x4 x5 x6 mm) x0 x1 x2 x4 x5 x6 (0 : Int32) mm) else f0_partToLines_j118 (fun x0 x1 x2 x4 x5 x6 mm => f0_partToLines_l15 n x0 x1 x2 x4 x5 x6 mm) x0 x1 x2 x4 x5 x6 mm)) else some (x5, mm)
theorem f0_partToLines_l15_ok {E : Ev} {l : Launch} {C : Cfg} {x : (Int32 × Mem)} (hj : Dj C) (X : Ec E l C rmX0_partToLines) (B : Bx E RX0 tbX0_partToLines 8 (some .int)) (hQ : Rt E) (hr : Rs E (some (.int x.1)) x.2) (n : Nat) : ∀ (x0 : Nat) (x1 : Int32) (x2 : Int32) (x4 : Nat) (x5 : Int32) (x6 : Int32) (mm : Mem), Ob x0 0 → Ob x4 2 → f0_partToLines_l15 n x0 x1 x2 x4 x5 x6 mm = some x → G E 8 15 [(0, .ref x0), (1, .int x1), (2, .int x2), (4, .ref x4), (5, .int x5), (6, .int x6)] [] mm := by
  induction n with
  | zero =>
    intro x0 x1 x2 x4 x5 x6 mm o_x0 o_x4 hf
    rw [f0_partToLines_l15] at hf
    cases hf
  | succ n ih =>
    intro x0 x1 x2 x4 x5 x6 mm o_x0 o_x4 hf
    rw [f0_partToLines_l15] at hf
    refine z_iload B 8 rfl 5 rfl ?_
    refine z_aload B 9 rfl 3 rfl ?_
    refine z_geti 2 0 x4 B 10 rfl o_x4 rfl (iX0_partToLines _ (List.mem_of_getElem? (i := 2) rfl)) rfl ?_
    refine z_iconst 4 B 11 rfl (by decide) ?_
    refine z_imul B 12 rfl ?_
    by_cases hc : x6 < ((mm x4 0) * (4 : Int32))
    · replace hf := (if_pos hc).symm.trans hf
      refine z_icmp_ge_f B 13 rfl 124 (by decide) hc ?_
      refine z_aload B 14 rfl 3 rfl ?_
      refine z_getr 2 3 x4 B 15 rfl o_x4 rfl (iX0_partToLines _ (List.mem_of_getElem? (i := 3) rfl)) rfl ?_
      refine z_iload B 16 rfl 5 rfl ?_
      refine z_iconst 4 B 17 rfl (by decide) ?_
      obtain ⟨hz, hf⟩ := dvz_e hf
      refine z_idiv B 18 rfl hz ?_
      obtain ⟨r1, ec, hf⟩ := bd_e hf
      refine z_callN [.ref (x4 + 2), .int (x6 / (4 : Int32))] [] [.int r1] X B 19 rfl miX6_at ⟨List.mem_of_getElem? (i := 13) rfl, (iX0_partToLines _ (List.mem_of_getElem? (i := 4) rfl))⟩ (ctX6_at hj (obf_2_3 o_x4) ec) ⟨Nat.le_of_ble_eq_true rfl, Nat.le_of_ble_eq_true rfl⟩ rfl rfl (Nat.le_of_ble_eq_true rfl) rfl ?_
      refine z_iload_n B 20 rfl 1 1 rfl rfl ?_
      by_cases hc : r1 = x1
      · replace hf := (if_pos hc).symm.trans hf
        refine z_icmp_ne_f B 21 rfl 118 (by decide) hc ?_
        refine z_aload_n B 22 rfl 0 0 rfl rfl ?_
        refine z_getr 0 6 x0 B 23 rfl o_x0 rfl (iX0_partToLines _ (List.mem_of_getElem? (i := 5) rfl)) rfl ?_
        refine z_iload B 24 rfl 5 rfl ?_
        obtain ⟨r3, ec, hf⟩ := bd_e hf
        refine z_callN [.ref (x0 + 25), .int x6] [] [.int r3] X B 25 rfl miX6_at ⟨List.mem_of_getElem? (i := 13) rfl, (iX0_partToLines _ (List.mem_of_getElem? (i := 4) rfl))⟩ (ctX6_at hj (obf_0_6 o_x0) ec) ⟨Nat.le_of_ble_eq_true rfl, Nat.le_of_ble_eq_true rfl⟩ rfl rfl (Nat.le_of_ble_eq_true rfl) rfl ?_
        refine z_iload_n B 26 rfl 2 2 rfl rfl ?_
        by_cases hc : r3 < x2
        · replace hf := (if_pos hc).symm.trans hf
          refine z_icmp_ge_f B 27 rfl 68 (by decide) hc ?_
          refine z_aload_n B 28 rfl 0 0 rfl rfl ?_
          refine z_getr 0 5 x0 B 29 rfl o_x0 rfl (iX0_partToLines _ (List.mem_of_getElem? (i := 8) rfl)) rfl ?_
          refine z_iload B 30 rfl 5 rfl ?_
          obtain ⟨r9, ec, hf⟩ := bd_e hf
          refine z_callN [.ref (x0 + 24), .int x6] [] [.int r9] X B 31 rfl miX6_at ⟨List.mem_of_getElem? (i := 13) rfl, (iX0_partToLines _ (List.mem_of_getElem? (i := 4) rfl))⟩ (ctX6_at hj (obf_0_5 o_x0) ec) ⟨Nat.le_of_ble_eq_true rfl, Nat.le_of_ble_eq_true rfl⟩ rfl rfl (Nat.le_of_ble_eq_true rfl) rfl ?_
          refine z_goto B 32 rfl 69 (by decide) ?_
          exact f0_partToLines_j69_ok hj X B hQ hr ih _ _ _ _ _ _ _ _ o_x0 o_x4  hf
        · replace hf := (if_neg hc).symm.trans hf
          refine z_icmp_ge_t B 27 rfl 68 (by decide) hc ?_
          refine z_iconst 0 B 33 rfl (by decide) ?_
          exact f0_partToLines_j69_ok hj X B hQ hr ih _ _ _ _ _ _ _ _ o_x0 o_x4  hf
      · replace hf := (if_neg hc).symm.trans hf
        refine z_icmp_ne_t B 21 rfl 118 (by decide) hc ?_
        exact f0_partToLines_j118_ok hj X B hQ hr ih _ _ _ _ _ _ _ o_x0 o_x4  hf
    · replace hf := (if_neg hc).symm.trans hf
      refine z_icmp_ge_t B 13 rfl 124 (by decide) hc ?_
      refine z_iload B 59 rfl 4 rfl ?_
      cases hf
      exact z_iret B 60 rfl rfl hQ hr
def f0_partToLines (mm : Mem) (a0 : Nat) (a1 : Int32) (a2 : Int32) (a3 : Int32) : Option (Int32 × Mem) := f0_partToLines_l15 FU a0 a1 a2 (a0 + 1 + 8) a3 (0 : Int32) mm
theorem ctX0_partToLines {l : Launch} {C : Cfg} (hj : Dj C) {mm : Mem} {a0 : Nat} {a1 : Int32} {a2 : Int32} {a3 : Int32} {x : (Int32 × Mem)} (o_a0 : Ob a0 0) (hf : f0_partToLines mm a0 a1 a2 a3 = some x) : Ct l C yX0_partToLines cX0_partToLines 8 (some .int) 1 22 [.ref a0, .int a1, .int a2, .int a3] mm (some (.int x.1)) x.2 := by
  refine Ct.of (tb := tbX0_partToLines) hj miX0_partToLines.2.1 miX0_partToLines.1 dtX0_partToLines (Nat.le_of_ble_eq_true rfl) ?_
  intro E B hQ hr X
  unfold f0_partToLines at hf
  show G E 8 0 [(0, .ref a0), (1, .int a1), (2, .int a2), (3, .int a3)] [] mm
  refine z_aload_n B 0 rfl 0 0 rfl rfl ?_
  refine z_getr 0 0 a0 B 1 rfl o_a0 rfl (iX0_partToLines _ (List.mem_of_getElem? (i := 0) rfl)) rfl ?_
  refine z_getr 1 1 (a0 + 1) B 2 rfl (obf_0_0 o_a0) rfl (iX0_partToLines _ (List.mem_of_getElem? (i := 1) rfl)) rfl ?_
  refine z_astore [(4, .ref (a0 + 1 + 8)), (0, .ref a0), (1, .int a1), (2, .int a2), (3, .int a3)] B 3 rfl (by decide) rfl ?_
  refine z_iload_n B 4 rfl 3 4 rfl rfl ?_
  refine z_istore [(5, .int a3), (4, .ref (a0 + 1 + 8)), (0, .ref a0), (1, .int a1), (2, .int a2), (3, .int a3)] B 5 rfl (by decide) rfl ?_
  refine z_iconst 0 B 6 rfl (by decide) ?_
  refine z_istore [(6, .int (0 : Int32)), (5, .int a3), (4, .ref (a0 + 1 + 8)), (0, .ref a0), (1, .int a1), (2, .int a2), (3, .int a3)] B 7 rfl (by decide) rfl ?_
  refine z_sub [(0, .ref a0), (1, .int a1), (2, .int a2), (4, .ref (a0 + 1 + 8)), (5, .int a3), (6, .int (0 : Int32))] [3, 4, 5, 2, 1, 0] rfl ?_
  exact f0_partToLines_l15_ok hj X B hQ hr FU _ _ _ _ _ _ _ o_a0 (obf_1_1 (obf_0_0 o_a0))  hf
/-! ZoneCapacity$Auction.partToInner(III)I -/
def tbX0_partToInner : Tb := [(0, .aload_n 0, 1, 1), (1, .getfield 12, 3, 4), (4, .getfield 60, 3, 7), (7, .astore 4, 2, 9), (9, .iload_n 3, 1, 10), (10, .istore 5, 2, 12), (12, .iload_n 1, 1, 13), (13, .iconst 1, 1, 14), (14, .iadd, 1, 15), (15, .istore 6, 2, 17), (17, .iload 6, 2, 19), (19, .aload 4, 2, 21), (21, .getfield 64, 3, 24), (24, .if_icmp .ge 128, 3, 27), (27, .aload 4, 2, 29), (29, .getfield 118, 3, 32), (32, .iload 6, 2, 34), (34, .invokestatic 69, 3, 37), (37, .iload_n 1, 1, 38), (38, .if_icmp .ne 108, 3, 41), (41, .aload_n 0, 1, 42), (42, .getfield 40, 3, 45), (45, .iload 6, 2, 47), (47, .invokestatic 69, 3, 50), (50, .istore 7, 2, 52), (52, .aload_n 0, 1, 53), (53, .getfield 43, 3, 56), (56, .iload 6, 2, 58), (58, .invokestatic 69, 3, 61), (61, .istore 8, 2, 63), (63, .aload 4, 2, 65), (65, .iload 6, 2, 67), (67, .iload 7, 2, 69), (69, .invokevirtual 121, 3, 72), (72, .istore 9, 2, 74), (74, .iload 5, 2, 76), (76, .aload 4, 2, 78), (78, .iload 6, 2, 80), (80, .iload 8, 2, 82), (82, .invokevirtual 121, 3, 85), (85, .iload 9, 2, 87), (87, .isub, 1, 88), (88, .invokestatic 131, 3, 91), (91, .istore 10, 2, 93), (93, .iload 5, 2, 95), (95, .iload 10, 2, 97), (97, .isub, 1, 98), (98, .istore 5, 2, 100), (100, .iload 9, 2, 102), (102, .iload 10, 2, 104), (104, .iadd, 1, 105), (105, .istore 11, 2, 107), (107, .aload_n 0, 1, 108), (108, .getfield 22, 3, 111), (111, .iload 6, 2, 113), (113, .iload 11, 2, 115), (115, .invokestatic 56, 3, 118), (118, .aload_n 0, 1, 119), (119, .getfield 18, 3, 122), (122, .iload 6, 2, 124), (124, .iload 7, 2, 126), (126, .iload 11, 2, 128), (128, .if_icmp .gt 14, 3, 131), (131, .iload 11, 2, 133), (133, .iload 8, 2, 135), (135, .if_icmp .gt 7, 3, 138), (138, .iload_n 2, 1, 139), (139, .goto 4, 3, 142), (142, .iconst (-1), 1, 143), (143, .invokestatic 56, 3, 146), (146, .iinc 6 1, 3, 149), (149, .goto (-132), 3, 152), (152, .iload 5, 2, 154), (154, .ireturn, 1, 155)]
theorem dtX0_partToInner : ∀ q ∈ tbX0_partToInner, decode cX0_partToInner q.1 = .ok (q.2.1, q.2.2.1) ∧ q.1 + q.2.2.1 = q.2.2.2 := by decide +kernel
theorem miX0_partToInner : MI yX0_partToInner cX0_partToInner 12 (some .int) 3 := ⟨tw_mem (List.mem_of_getElem? (i := 406) (by decide +kernel)) rfl, by decide, by decide +kernel, tw_mem (List.mem_of_getElem? (i := 15) (by decide +kernel)) rfl⟩
abbrev rmX0_partToInner : Room := { frames := 2, cells := 0, slots := 0, locals := 43 }
def wX0_partToInner : List Cond := [.fieldLink "ZoneCapacity$Auction" 12 "ZoneCapacity$Auction" "market" "LZoneCapacity$Market;", .fieldLink "ZoneCapacity$Auction" 60 "ZoneCapacity$Market" "zones" "LZoneCapacity$Zones;", .fieldLink "ZoneCapacity$Auction" 64 "ZoneCapacity$Zones" "many" "I", .fieldLink "ZoneCapacity$Auction" 118 "ZoneCapacity$Zones" "outer" "[I", .static yX6_at, .fieldLink "ZoneCapacity$Auction" 40 "ZoneCapacity$Auction" "lows" "[I", .fieldLink "ZoneCapacity$Auction" 43 "ZoneCapacity$Auction" "highs" "[I", .methodLink "ZoneCapacity$Auction" 121 yX5_cut, .instanceMethod yX5_cut, .selects "ZoneCapacity$Zones" yX5_cut yX5_cut, .methodLink "ZoneCapacity$Auction" 131 ⟨"java/lang/Math", "min", "(II)I"⟩, .static ⟨"java/lang/Math", "min", "(II)I"⟩, .initialized "java/lang/Math", .code Lib.Math.min.name Lib.Math.min.code 2 (some .int), .fieldLink "ZoneCapacity$Auction" 22 "ZoneCapacity$Auction" "nets" "[I", .static yX6_put, .fieldLink "ZoneCapacity$Auction" 18 "ZoneCapacity$Auction" "prices" "[I"]
theorem iX0_partToInner : ∀ w ∈ wX0_partToInner, w ∈ TW := tw_of (ids := [160, 150, 69, 72, 272, 173, 174, 388, 389, 390, 402, 357, 26, 358, 164, 291, 162]) (by decide +kernel)
def f0_partToInner_j146 (k17 : Nat → Int32 → Int32 → Nat → Int32 → Int32 → Mem → Option (Int32 × Mem)) (x0 : Nat) (x1 : Int32) (x2 : Int32) (x4 : Nat) (x5 : Int32) (x6 : Int32) (mm : Mem) : Option (Int32 × Mem) := nm (x6 + 1) (fun v3 => k17 x0 x1 x2 x4 x5 v3 mm)
theorem f0_partToInner_j146_ok {E : Ev} {l : Launch} {C : Cfg} {x : (Int32 × Mem)} {k17 : Nat → Int32 → Int32 → Nat → Int32 → Int32 → Mem → Option (Int32 × Mem)} (hj : Dj C) (X : Ec E l C rmX0_partToInner) (B : Bx E RX0 tbX0_partToInner 12 (some .int)) (hQ : Rt E) (hr : Rs E (some (.int x.1)) x.2) (hk17 : ∀ (x0 : Nat) (x1 : Int32) (x2 : Int32) (x4 : Nat) (x5 : Int32) (x6 : Int32) (mm : Mem), Ob x0 0 → Ob x4 5 → k17 x0 x1 x2 x4 x5 x6 mm = some x → G E 12 17 [(0, .ref x0), (1, .int x1), (2, .int x2), (4, .ref x4), (5, .int x5), (6, .int x6)] [] mm) (x0 : Nat) (x1 : Int32) (x2 : Int32) (x4 : Nat) (x5 : Int32) (x6 : Int32) (mm : Mem) (o_x0 : Ob x0 0) (o_x4 : Ob x4 5) (hf : f0_partToInner_j146 k17 x0 x1 x2 x4 x5 x6 mm = some x) : G E 12 146 [(0, .ref x0), (1, .int x1), (2, .int x2), (4, .ref x4), (5, .int x5), (6, .int x6)] [] mm := by
  unfold f0_partToInner_j146 at hf
  obtain ⟨v3, ex, hf⟩ := nm_x hf
  refine z_iinc v3 [(6, .int v3), (0, .ref x0), (1, .int x1), (2, .int x2), (4, .ref x4), (5, .int x5)] B 70 rfl 5 rfl (ex.symm) (by decide) rfl ?_
  refine z_goto B 71 rfl 17 (by decide) ?_
  refine z_sub [(0, .ref x0), (1, .int x1), (2, .int x2), (4, .ref x4), (5, .int x5), (6, .int v3)] [1, 2, 3, 4, 5, 0] rfl ?_
  exact hk17 _ _ _ _ _ _ _ o_x0 o_x4  hf
def f0_partToInner_j143 (k17 : Nat → Int32 → Int32 → Nat → Int32 → Int32 → Mem → Option (Int32 × Mem)) (x0 : Nat) (x1 : Int32) (x2 : Int32) (x4 : Nat) (x5 : Int32) (x6 : Int32) (s0 : Int32) (s1 : Int32) (s2 : Nat) (mm : Mem) : Option (Int32 × Mem) := bd (f6_put mm s2 s1 s0) (fun r12 => f0_partToInner_j146 k17 x0 x1 x2 x4 x5 x6 r12)
theorem f0_partToInner_j143_ok {E : Ev} {l : Launch} {C : Cfg} {x : (Int32 × Mem)} {k17 : Nat → Int32 → Int32 → Nat → Int32 → Int32 → Mem → Option (Int32 × Mem)} (hj : Dj C) (X : Ec E l C rmX0_partToInner) (B : Bx E RX0 tbX0_partToInner 12 (some .int)) (hQ : Rt E) (hr : Rs E (some (.int x.1)) x.2) (hk17 : ∀ (x0 : Nat) (x1 : Int32) (x2 : Int32) (x4 : Nat) (x5 : Int32) (x6 : Int32) (mm : Mem), Ob x0 0 → Ob x4 5 → k17 x0 x1 x2 x4 x5 x6 mm = some x → G E 12 17 [(0, .ref x0), (1, .int x1), (2, .int x2), (4, .ref x4), (5, .int x5), (6, .int x6)] [] mm) (x0 : Nat) (x1 : Int32) (x2 : Int32) (x4 : Nat) (x5 : Int32) (x6 : Int32) (s0 : Int32) (s1 : Int32) (s2 : Nat) (mm : Mem) (o_x0 : Ob x0 0) (o_x4 : Ob x4 5) (o_s2 : Ob s2 8) (hf : f0_partToInner_j143 k17 x0 x1 x2 x4 x5 x6 s0 s1 s2 mm = some x) : G E 12 143 [(0, .ref x0), (1, .int x1), (2, .int x2), (4, .ref x4), (5, .int x5), (6, .int x6)] [.int s0, .int s1, .ref s2] mm := by
  unfold f0_partToInner_j143 at hf
  obtain ⟨r12, ec, hf⟩ := bd_e hf
  refine z_callN [.ref s2, .int s1, .int s0] [] [] X B 69 rfl miX6_put ⟨List.mem_of_getElem? (i := 12) rfl, (iX0_partToInner _ (List.mem_of_getElem? (i := 15) rfl))⟩ (ctX6_put hj o_s2 ec) ⟨Nat.le_of_ble_eq_true rfl, Nat.le_of_ble_eq_true rfl⟩ rfl rfl (Nat.le_of_ble_eq_true rfl) rfl ?_
  exact f0_partToInner_j146_ok hj X B hQ hr hk17 _ _ _ _ _ _ _ o_x0 o_x4  hf
def f0_partToInner_j142 (k17 : Nat → Int32 → Int32 → Nat → Int32 → Int32 → Mem → Option (Int32 × Mem)) (x0 : Nat) (x1 : Int32) (x2 : Int32) (x4 : Nat) (x5 : Int32) (x6 : Int32) (s0 : Int32) (s1 : Nat) (mm : Mem) : Option (Int32 × Mem) := f0_partToInner_j143 k17 x0 x1 x2 x4 x5 x6 (-1 : Int32) s0 s1 mm
theorem f0_partToInner_j142_ok {E : Ev} {l : Launch} {C : Cfg} {x : (Int32 × Mem)} {k17 : Nat → Int32 → Int32 → Nat → Int32 → Int32 → Mem → Option (Int32 × Mem)} (hj : Dj C) (X : Ec E l C rmX0_partToInner) (B : Bx E RX0 tbX0_partToInner 12 (some .int)) (hQ : Rt E) (hr : Rs E (some (.int x.1)) x.2) (hk17 : ∀ (x0 : Nat) (x1 : Int32) (x2 : Int32) (x4 : Nat) (x5 : Int32) (x6 : Int32) (mm : Mem), Ob x0 0 → Ob x4 5 → k17 x0 x1 x2 x4 x5 x6 mm = some x → G E 12 17 [(0, .ref x0), (1, .int x1), (2, .int x2), (4, .ref x4), (5, .int x5), (6, .int x6)] [] mm) (x0 : Nat) (x1 : Int32) (x2 : Int32) (x4 : Nat) (x5 : Int32) (x6 : Int32) (s0 : Int32) (s1 : Nat) (mm : Mem) (o_x0 : Ob x0 0) (o_x4 : Ob x4 5) (o_s1 : Ob s1 8) (hf : f0_partToInner_j142 k17 x0 x1 x2 x4 x5 x6 s0 s1 mm = some x) : G E 12 142 [(0, .ref x0), (1, .int x1), (2, .int x2), (4, .ref x4), (5, .int x5), (6, .int x6)] [.int s0, .ref s1] mm := by
  unfold f0_partToInner_j142 at hf
  refine z_iconst (-1) B 68 rfl (by decide) ?_
  exact f0_partToInner_j143_ok hj X B hQ hr hk17 _ _ _ _ _ _ _ _ _ _ o_x0 o_x4 o_s1 hf
def f0_partToInner_l17 : Nat → Nat → Int32 → Int32 → Nat → Int32 → Int32 → Mem → Option (Int32 × Mem)
  | 0, _, _, _, _, _, _, _ => none
  | n + 1, x0, x1, x2, x4, x5, x6, mm => if x6 < (mm x4 0) then bd (f6_at mm (x4 + 1) x6) (fun r2 => if r2 = x1 then bd (f6_at mm (x0 + 27) x6) (fun r4 => bd (f6_at mm (x0 + 28) x6) (fun r5 => bd (f5_cut mm x4 x6 r4) (fun r6 => bd (f5_cut mm x4 x6 r5) (fun r7 => nm (mni x5 (r7 - r6)) (fun v8 => nm (x5 - v8) (fun v9 => nm (r6 + v8) (fun v10 => bd (f6_put mm (x0 + 21) x6 v10) (fun r11 => if v10 < r4 then f0_partToInner_j142 (fun x0 x1 x2 x4 x5 x6 mm => f0_partToInner_l17 n x0 x1 x2 x4 x5 x6 mm) x0 x1 x2 x4 v9 x6 x6 (x0 + 20) r11 else if r5 < v10 then f0_partToInner_j142 (fun x0 x1 x2 x4 x5 x6 mm => f0_partToInner_l17 n x0 x1 x2 x4 x5 x6 mm) x0 x1 x2 x4 v9 x6 x6 (x0 + 20) r11 else f0_partToInner_j143 (fun x0 x1 x2 x4 x5 x6 mm => f0_partToInner_l17 n x0 x1 x2 x4 x5 x6 mm) x0 x1 x2 x4 v9 x6 x2 x6 (x0 + 20) r11)))))))) else f0_partToInner_j146 (fun x0 x1 x2 x4 x5 x6 mm => f0_partToInner_l17 n x0 x1 x2 x4 x5 x6 mm) x0 x1 x2 x4 x5 x6 mm) else some (x5, mm)
theorem f0_partToInner_l17_ok {E : Ev} {l : Launch} {C : Cfg} {x : (Int32 × Mem)} (hj : Dj C) (X : Ec E l C rmX0_partToInner) (B : Bx E RX0 tbX0_partToInner 12 (some .int)) (hQ : Rt E) (hr : Rs E (some (.int x.1)) x.2) (n : Nat) : ∀ (x0 : Nat) (x1 : Int32) (x2 : Int32) (x4 : Nat) (x5 : Int32) (x6 : Int32) (mm : Mem), Ob x0 0 → Ob x4 5 → f0_partToInner_l17 n x0 x1 x2 x4 x5 x6 mm = some x → G E 12 17 [(0, .ref x0), (1, .int x1), (2, .int x2), (4, .ref x4), (5, .int x5), (6, .int x6)] [] mm := by
  induction n with
  | zero =>
    intro x0 x1 x2 x4 x5 x6 mm o_x0 o_x4 hf
    rw [f0_partToInner_l17] at hf
    cases hf
  | succ n ih =>
    intro x0 x1 x2 x4 x5 x6 mm o_x0 o_x4 hf
    rw [f0_partToInner_l17] at hf
    refine z_iload B 10 rfl 5 rfl ?_
    refine z_aload B 11 rfl 3 rfl ?_
    refine z_geti 5 0 x4 B 12 rfl o_x4 rfl (iX0_partToInner _ (List.mem_of_getElem? (i := 2) rfl)) rfl ?_
    by_cases hc : x6 < (mm x4 0)
    · replace hf := (if_pos hc).symm.trans hf
      refine z_icmp_ge_f B 13 rfl 152 (by decide) hc ?_
      refine z_aload B 14 rfl 3 rfl ?_
      refine z_getr 5 1 x4 B 15 rfl o_x4 rfl (iX0_partToInner _ (List.mem_of_getElem? (i := 3) rfl)) rfl ?_
      refine z_iload B 16 rfl 5 rfl ?_
      obtain ⟨r2, ec, hf⟩ := bd_e hf
      refine z_callN [.ref (x4 + 1), .int x6] [] [.int r2] X B 17 rfl miX6_at ⟨List.mem_of_getElem? (i := 13) rfl, (iX0_partToInner _ (List.mem_of_getElem? (i := 4) rfl))⟩ (ctX6_at hj (obf_5_1 o_x4) ec) ⟨Nat.le_of_ble_eq_true rfl, Nat.le_of_ble_eq_true rfl⟩ rfl rfl (Nat.le_of_ble_eq_true rfl) rfl ?_
      refine z_iload_n B 18 rfl 1 1 rfl rfl ?_
      by_cases hc : r2 = x1
      · replace hf := (if_pos hc).symm.trans hf
        refine z_icmp_ne_f B 19 rfl 146 (by decide) hc ?_
        refine z_aload_n B 20 rfl 0 0 rfl rfl ?_
        refine z_getr 0 8 x0 B 21 rfl o_x0 rfl (iX0_partToInner _ (List.mem_of_getElem? (i := 5) rfl)) rfl ?_
        refine z_iload B 22 rfl 5 rfl ?_
        obtain ⟨r4, ec, hf⟩ := bd_e hf
        refine z_callN [.ref (x0 + 27), .int x6] [] [.int r4] X B 23 rfl miX6_at ⟨List.mem_of_getElem? (i := 13) rfl, (iX0_partToInner _ (List.mem_of_getElem? (i := 4) rfl))⟩ (ctX6_at hj (obf_0_8 o_x0) ec) ⟨Nat.le_of_ble_eq_true rfl, Nat.le_of_ble_eq_true rfl⟩ rfl rfl (Nat.le_of_ble_eq_true rfl) rfl ?_
        refine z_istore [(7, .int r4), (0, .ref x0), (1, .int x1), (2, .int x2), (4, .ref x4), (5, .int x5), (6, .int x6)] B 24 rfl (by decide) rfl ?_
        refine z_aload_n B 25 rfl 0 1 rfl rfl ?_
        refine z_getr 0 9 x0 B 26 rfl o_x0 rfl (iX0_partToInner _ (List.mem_of_getElem? (i := 6) rfl)) rfl ?_
        refine z_iload B 27 rfl 6 rfl ?_
        obtain ⟨r5, ec, hf⟩ := bd_e hf
        refine z_callN [.ref (x0 + 28), .int x6] [] [.int r5] X B 28 rfl miX6_at ⟨List.mem_of_getElem? (i := 13) rfl, (iX0_partToInner _ (List.mem_of_getElem? (i := 4) rfl))⟩ (ctX6_at hj (obf_0_9 o_x0) ec) ⟨Nat.le_of_ble_eq_true rfl, Nat.le_of_ble_eq_true rfl⟩ rfl rfl (Nat.le_of_ble_eq_true rfl) rfl ?_
        refine z_istore [(8, .int r5), (7, .int r4), (0, .ref x0), (1, .int x1), (2, .int x2), (4, .ref x4), (5, .int x5), (6, .int x6)] B 29 rfl (by decide) rfl ?_
        refine z_aload B 30 rfl 5 rfl ?_
        refine z_iload B 31 rfl 7 rfl ?_
        refine z_iload B 32 rfl 1 rfl ?_
        obtain ⟨r6, ec, hf⟩ := bd_e hf
        refine z_callV x4 5 [.int x6, .int r4] [] [.int r6] X B 33 rfl (by decide) o_x4 rfl rfl miX5_cut ⟨(iX0_partToInner _ (List.mem_of_getElem? (i := 7) rfl)), (iX0_partToInner _ (List.mem_of_getElem? (i := 8) rfl)), (iX0_partToInner _ (List.mem_of_getElem? (i := 9) rfl))⟩ (ctX5_cut hj o_x4 ec) ⟨Nat.le_of_ble_eq_true rfl, Nat.le_of_ble_eq_true rfl⟩ rfl rfl (Nat.le_of_ble_eq_true rfl) rfl ?_
        refine z_istore [(9, .int r6), (8, .int r5), (7, .int r4), (0, .ref x0), (1, .int x1), (2, .int x2), (4, .ref x4), (5, .int x5), (6, .int x6)] B 34 rfl (by decide) rfl ?_
        refine z_iload B 35 rfl 7 rfl ?_
        refine z_aload B 36 rfl 6 rfl ?_
        refine z_iload B 37 rfl 8 rfl ?_
        refine z_iload B 38 rfl 1 rfl ?_
        obtain ⟨r7, ec, hf⟩ := bd_e hf
        refine z_callV x4 5 [.int x6, .int r5] [.int x5] [.int r7, .int x5] X B 39 rfl (by decide) o_x4 rfl rfl miX5_cut ⟨(iX0_partToInner _ (List.mem_of_getElem? (i := 7) rfl)), (iX0_partToInner _ (List.mem_of_getElem? (i := 8) rfl)), (iX0_partToInner _ (List.mem_of_getElem? (i := 9) rfl))⟩ (ctX5_cut hj o_x4 ec) ⟨Nat.le_of_ble_eq_true rfl, Nat.le_of_ble_eq_true rfl⟩ rfl rfl (Nat.le_of_ble_eq_true rfl) rfl ?_
        refine z_iload B 40 rfl 0 rfl ?_
        refine z_isub B 41 rfl ?_
        refine z_mmin X B 42 rfl ⟨(iX0_partToInner _ (List.mem_of_getElem? (i := 10) rfl)), (iX0_partToInner _ (List.mem_of_getElem? (i := 11) rfl)), (iX0_partToInner _ (List.mem_of_getElem? (i := 12) rfl)), (iX0_partToInner _ (List.mem_of_getElem? (i := 13) rfl))⟩ ⟨Nat.le_of_ble_eq_true rfl, Nat.le_of_ble_eq_true rfl⟩ (Nat.le_of_ble_eq_true rfl) ?_
        obtain ⟨v8, ex, hf⟩ := nm_x hf
        refine z_top ex ?_
        refine z_istore [(10, .int v8), (9, .int r6), (8, .int r5), (7, .int r4), (0, .ref x0), (1, .int x1), (2, .int x2), (4, .ref x4), (5, .int x5), (6, .int x6)] B 43 rfl (by decide) rfl ?_
        refine z_iload B 44 rfl 8 rfl ?_
        refine z_iload B 45 rfl 0 rfl ?_
        refine z_isub B 46 rfl ?_
        obtain ⟨v9, ex, hf⟩ := nm_x hf
        refine z_top ex ?_
        refine z_istore [(5, .int v9), (10, .int v8), (9, .int r6), (8, .int r5), (7, .int r4), (0, .ref x0), (1, .int x1), (2, .int x2), (4, .ref x4), (6, .int x6)] B 47 rfl (by decide) rfl ?_
        refine z_iload B 48 rfl 2 rfl ?_
        refine z_iload B 49 rfl 1 rfl ?_
        refine z_iadd B 50 rfl ?_
        obtain ⟨v10, ex, hf⟩ := nm_x hf
        refine z_top ex ?_
        refine z_istore [(11, .int v10), (5, .int v9), (10, .int v8), (9, .int r6), (8, .int r5), (7, .int r4), (0, .ref x0), (1, .int x1), (2, .int x2), (4, .ref x4), (6, .int x6)] B 51 rfl (by decide) rfl ?_
        refine z_aload_n B 52 rfl 0 6 rfl rfl ?_
        refine z_getr 0 2 x0 B 53 rfl o_x0 rfl (iX0_partToInner _ (List.mem_of_getElem? (i := 14) rfl)) rfl ?_
        refine z_iload B 54 rfl 10 rfl ?_
        refine z_iload B 55 rfl 0 rfl ?_
        obtain ⟨r11, ec, hf⟩ := bd_e hf
        refine z_callN [.ref (x0 + 21), .int x6, .int v10] [] [] X B 56 rfl miX6_put ⟨List.mem_of_getElem? (i := 12) rfl, (iX0_partToInner _ (List.mem_of_getElem? (i := 15) rfl))⟩ (ctX6_put hj (obf_0_2 o_x0) ec) ⟨Nat.le_of_ble_eq_true rfl, Nat.le_of_ble_eq_true rfl⟩ rfl rfl (Nat.le_of_ble_eq_true rfl) rfl ?_
        refine z_aload_n B 57 rfl 0 6 rfl rfl ?_
        refine z_getr 0 1 x0 B 58 rfl o_x0 rfl (iX0_partToInner _ (List.mem_of_getElem? (i := 16) rfl)) rfl ?_
        refine z_iload B 59 rfl 10 rfl ?_
        refine z_iload B 60 rfl 5 rfl ?_
        refine z_iload B 61 rfl 0 rfl ?_
        by_cases hc : v10 < r4
        · replace hf := (if_pos hc).symm.trans hf
          refine z_icmp_gt_t B 62 rfl 142 (by decide) hc ?_
          refine z_sub [(0, .ref x0), (1, .int x1), (2, .int x2), (4, .ref x4), (5, .int v9), (6, .int x6)] [6, 7, 8, 9, 1, 10] rfl ?_
          exact f0_partToInner_j142_ok hj X B hQ hr ih _ _ _ _ _ _ _ _ _ o_x0 o_x4 (obf_0_1 o_x0) hf
        · replace hf := (if_neg hc).symm.trans hf
          refine z_icmp_gt_f B 62 rfl 142 (by decide) hc ?_
          refine z_iload B 63 rfl 0 rfl ?_
          refine z_iload B 64 rfl 4 rfl ?_
          by_cases hc : r5 < v10
          · replace hf := (if_pos hc).symm.trans hf
            refine z_icmp_gt_t B 65 rfl 142 (by decide) hc ?_
            refine z_sub [(0, .ref x0), (1, .int x1), (2, .int x2), (4, .ref x4), (5, .int v9), (6, .int x6)] [6, 7, 8, 9, 1, 10] rfl ?_
            exact f0_partToInner_j142_ok hj X B hQ hr ih _ _ _ _ _ _ _ _ _ o_x0 o_x4 (obf_0_1 o_x0) hf
          · replace hf := (if_neg hc).symm.trans hf
            refine z_icmp_gt_f B 65 rfl 142 (by decide) hc ?_
            refine z_iload_n B 66 rfl 2 8 rfl rfl ?_
            refine z_goto B 67 rfl 143 (by decide) ?_
            refine z_sub [(0, .ref x0), (1, .int x1), (2, .int x2), (4, .ref x4), (5, .int v9), (6, .int x6)] [6, 7, 8, 9, 1, 10] rfl ?_
            exact f0_partToInner_j143_ok hj X B hQ hr ih _ _ _ _ _ _ _ _ _ _ o_x0 o_x4 (obf_0_1 o_x0) hf
      · replace hf := (if_neg hc).symm.trans hf
        refine z_icmp_ne_t B 19 rfl 146 (by decide) hc ?_
        exact f0_partToInner_j146_ok hj X B hQ hr ih _ _ _ _ _ _ _ o_x0 o_x4  hf
    · replace hf := (if_neg hc).symm.trans hf
      refine z_icmp_ge_t B 13 rfl 152 (by decide) hc ?_
      refine z_iload B 72 rfl 4 rfl ?_
      cases hf
      exact z_iret B 73 rfl rfl hQ hr
def f0_partToInner (mm : Mem) (a0 : Nat) (a1 : Int32) (a2 : Int32) (a3 : Int32) : Option (Int32 × Mem) := nm (a1 + (1 : Int32)) (fun v1 => f0_partToInner_l17 FU a0 a1 a2 (a0 + 1 + 1) a3 v1 mm)
theorem ctX0_partToInner {l : Launch} {C : Cfg} (hj : Dj C) {mm : Mem} {a0 : Nat} {a1 : Int32} {a2 : Int32} {a3 : Int32} {x : (Int32 × Mem)} (o_a0 : Ob a0 0) (hf : f0_partToInner mm a0 a1 a2 a3 = some x) : Ct l C yX0_partToInner cX0_partToInner 12 (some .int) 2 43 [.ref a0, .int a1, .int a2, .int a3] mm (some (.int x.1)) x.2 := by
  refine Ct.of (tb := tbX0_partToInner) hj miX0_partToInner.2.1 miX0_partToInner.1 dtX0_partToInner (Nat.le_of_ble_eq_true rfl) ?_
  intro E B hQ hr X
  unfold f0_partToInner at hf
  show G E 12 0 [(0, .ref a0), (1, .int a1), (2, .int a2), (3, .int a3)] [] mm
  refine z_aload_n B 0 rfl 0 0 rfl rfl ?_
  refine z_getr 0 0 a0 B 1 rfl o_a0 rfl (iX0_partToInner _ (List.mem_of_getElem? (i := 0) rfl)) rfl ?_
  refine z_getr 1 0 (a0 + 1) B 2 rfl (obf_0_0 o_a0) rfl (iX0_partToInner _ (List.mem_of_getElem? (i := 1) rfl)) rfl ?_
  refine z_astore [(4, .ref (a0 + 1 + 1)), (0, .ref a0), (1, .int a1), (2, .int a2), (3, .int a3)] B 3 rfl (by decide) rfl ?_
  refine z_iload_n B 4 rfl 3 4 rfl rfl ?_
  refine z_istore [(5, .int a3), (4, .ref (a0 + 1 + 1)), (0, .ref a0), (1, .int a1), (2, .int a2), (3, .int a3)] B 5 rfl (by decide) rfl ?_
  refine z_iload_n B 6 rfl 1 3 rfl rfl ?_
  refine z_iconst 1 B 7 rfl (by decide) ?_
  refine z_iadd B 8 rfl ?_
  obtain ⟨v1, ex, hf⟩ := nm_x hf
  refine z_top ex ?_
  refine z_istore [(6, .int v1), (5, .int a3), (4, .ref (a0 + 1 + 1)), (0, .ref a0), (1, .int a1), (2, .int a2), (3, .int a3)] B 9 rfl (by decide) rfl ?_
  refine z_sub [(0, .ref a0), (1, .int a1), (2, .int a2), (4, .ref (a0 + 1 + 1)), (5, .int a3), (6, .int v1)] [3, 4, 5, 2, 1, 0] rfl ?_
  exact f0_partToInner_l17_ok hj X B hQ hr FU _ _ _ _ _ _ _ o_a0 (obf_1_0 (obf_0_0 o_a0))  hf
/-! ZoneCapacity$Auction.part(I)V -/
def tbX0_part : Tb := [(0, .aload_n 0, 1, 1), (1, .getfield 18, 3, 4), (4, .iload_n 1, 1, 5), (5, .invokestatic 69, 3, 8), (8, .istore_n 2, 1, 9), (9, .iload_n 2, 1, 10), (10, .aload_n 0, 1, 11), (11, .getfield 52, 3, 14), (14, .if_icmp .eq 30, 3, 17), (17, .aload_n 0, 1, 18), (18, .iload_n 1, 1, 19), (19, .iload_n 2, 1, 20), (20, .aload_n 0, 1, 21), (21, .getfield 40, 3, 24), (24, .invokevirtual 81, 3, 27), (27, .aload_n 0, 1, 28), (28, .iload_n 1, 1, 29), (29, .iload_n 2, 1, 30), (30, .iconst 1, 1, 31), (31, .iadd, 1, 32), (32, .aload_n 0, 1, 33), (33, .getfield 43, 3, 36), (36, .invokevirtual 81, 3, 39), (39, .aload_n 0, 1, 40), (40, .iload_n 2, 1, 41), (41, .putfield 52, 3, 44), (44, .aload_n 0, 1, 45), (45, .getfield 22, 3, 48), (48, .iload_n 1, 1, 49), (49, .invokestatic 69, 3, 52), (52, .aload_n 0, 1, 53), (53, .getfield 40, 3, 56), (56, .iload_n 1, 1, 57), (57, .invokestatic 69, 3, 60), (60, .isub, 1, 61), (61, .istore_n 3, 1, 62), (62, .aload_n 0, 1, 63), (63, .iload_n 1, 1, 64), (64, .iload_n 2, 1, 65), (65, .iload_n 3, 1, 66), (66, .invokevirtual 124, 3, 69), (69, .istore_n 3, 1, 70), (70, .aload_n 0, 1, 71), (71, .iload_n 1, 1, 72), (72, .iload_n 2, 1, 73), (73, .iload_n 3, 1, 74), (74, .invokevirtual 128, 3, 77), (77, .istore_n 3, 1, 78), (78, .aload_n 0, 1, 79), (79, .getfield 25, 3, 82), (82, .iload_n 1, 1, 83), (83, .aload_n 0, 1, 84), (84, .getfield 12, 3, 87), (87, .getfield 60, 3, 90), (90, .iload_n 1, 1, 91), (91, .iload_n 2, 1, 92), (92, .invokevirtual 110, 3, 95), (95, .iload_n 3, 1, 96), (96, .isub, 1, 97), (97, .invokestatic 56, 3, 100), (100, .return_, 1, 101)]
theorem dtX0_part : ∀ q ∈ tbX0_part, decode cX0_part q.1 = .ok (q.2.1, q.2.2.1) ∧ q.1 + q.2.2.1 = q.2.2.2 := by decide +kernel
theorem miX0_part : MI yX0_part cX0_part 4 none 1 := ⟨tw_mem (List.mem_of_getElem? (i := 397) (by decide +kernel)) rfl, by decide, by decide +kernel, tw_mem (List.mem_of_getElem? (i := 15) (by decide +kernel)) rfl⟩
abbrev rmX0_part : Room := { frames := 3, cells := 0, slots := 0, locals := 78 }
def wX0_part : List Cond := [.fieldLink "ZoneCapacity$Auction" 18 "ZoneCapacity$Auction" "prices" "[I", .static yX6_at, .fieldLink "ZoneCapacity$Auction" 52 "ZoneCapacity$Auction" "filledAt" "I", .fieldLink "ZoneCapacity$Auction" 22 "ZoneCapacity$Auction" "nets" "[I", .fieldLink "ZoneCapacity$Auction" 40 "ZoneCapacity$Auction" "lows" "[I", .methodLink "ZoneCapacity$Auction" 124 yX0_partToLines, .instanceMethod yX0_partToLines, .selects "ZoneCapacity$Auction" yX0_partToLines yX0_partToLines, .methodLink "ZoneCapacity$Auction" 128 yX0_partToInner, .instanceMethod yX0_partToInner, .selects "ZoneCapacity$Auction" yX0_partToInner yX0_partToInner, .fieldLink "ZoneCapacity$Auction" 25 "ZoneCapacity$Auction" "servedUnits" "[I", .fieldLink "ZoneCapacity$Auction" 12 "ZoneCapacity$Auction" "market" "LZoneCapacity$Market;", .fieldLink "ZoneCapacity$Auction" 60 "ZoneCapacity$Market" "zones" "LZoneCapacity$Zones;", .methodLink "ZoneCapacity$Auction" 110 yX5_wantedFrom, .instanceMethod yX5_wantedFrom, .selects "ZoneCapacity$Zones" yX5_wantedFrom yX5_wantedFrom, .static yX6_put, .methodLink "ZoneCapacity$Auction" 81 yX0_fillLevels, .instanceMethod yX0_fillLevels, .selects "ZoneCapacity$Auction" yX0_fillLevels yX0_fillLevels, .fieldLink "ZoneCapacity$Auction" 43 "ZoneCapacity$Auction" "highs" "[I"]
theorem iX0_part : ∀ w ∈ wX0_part, w ∈ TW := tw_of (ids := [162, 272, 175, 164, 173, 398, 400, 6, 403, 405, 7, 166, 160, 150, 377, 378, 379, 291, 373, 375, 3, 174]) (by decide +kernel)
def f0_part_j44 (x0 : Nat) (x1 : Int32) (x2 : Int32) (mm : Mem) : Option Mem := bd (f6_at mm (x0 + 21) x1) (fun r2 => bd (f6_at mm (x0 + 27) x1) (fun r3 => nm (r2 - r3) (fun v4 => bd (f0_partToLines mm x0 x1 x2 v4) (fun r5 => bd (f0_partToInner r5.2 x0 x1 x2 r5.1) (fun r6 => bd (f5_wantedFrom r6.2 (x0 + 1 + 1) x1 x2) (fun r7 => bd (f6_put r6.2 (x0 + 22) x1 (r7 - r6.1)) (fun r8 => some r8)))))))
theorem f0_part_j44_ok {E : Ev} {l : Launch} {C : Cfg} {x : Mem} (hj : Dj C) (X : Ec E l C rmX0_part) (B : Bx E RX0 tbX0_part 4 none) (hQ : Rt E) (hr : Rs E none x) (x0 : Nat) (x1 : Int32) (x2 : Int32) (mm : Mem) (o_x0 : Ob x0 0) (hf : f0_part_j44 x0 x1 x2 mm = some x) : G E 4 44 [(0, .ref x0), (1, .int x1), (2, .int x2)] [] mm := by
  unfold f0_part_j44 at hf
  refine z_aload_n B 26 rfl 0 0 rfl rfl ?_
  refine z_getr 0 2 x0 B 27 rfl o_x0 rfl (iX0_part _ (List.mem_of_getElem? (i := 3) rfl)) rfl ?_
  refine z_iload_n B 28 rfl 1 1 rfl rfl ?_
  obtain ⟨r2, ec, hf⟩ := bd_e hf
  refine z_callN [.ref (x0 + 21), .int x1] [] [.int r2] X B 29 rfl miX6_at ⟨List.mem_of_getElem? (i := 13) rfl, (iX0_part _ (List.mem_of_getElem? (i := 1) rfl))⟩ (ctX6_at hj (obf_0_2 o_x0) ec) ⟨Nat.le_of_ble_eq_true rfl, Nat.le_of_ble_eq_true rfl⟩ rfl rfl (Nat.le_of_ble_eq_true rfl) rfl ?_
  refine z_aload_n B 30 rfl 0 0 rfl rfl ?_
  refine z_getr 0 8 x0 B 31 rfl o_x0 rfl (iX0_part _ (List.mem_of_getElem? (i := 4) rfl)) rfl ?_
  refine z_iload_n B 32 rfl 1 1 rfl rfl ?_
  obtain ⟨r3, ec, hf⟩ := bd_e hf
  refine z_callN [.ref (x0 + 27), .int x1] [.int r2] [.int r3, .int r2] X B 33 rfl miX6_at ⟨List.mem_of_getElem? (i := 13) rfl, (iX0_part _ (List.mem_of_getElem? (i := 1) rfl))⟩ (ctX6_at hj (obf_0_8 o_x0) ec) ⟨Nat.le_of_ble_eq_true rfl, Nat.le_of_ble_eq_true rfl⟩ rfl rfl (Nat.le_of_ble_eq_true rfl) rfl ?_
  refine z_isub B 34 rfl ?_
  obtain ⟨v4, ex, hf⟩ := nm_x hf
  refine z_top ex ?_
  refine z_istore_n [(3, .int v4), (0, .ref x0), (1, .int x1), (2, .int x2)] B 35 rfl 3 rfl (by decide) rfl ?_
  refine z_aload_n B 36 rfl 0 1 rfl rfl ?_
  refine z_iload_n B 37 rfl 1 2 rfl rfl ?_
  refine z_iload_n B 38 rfl 2 3 rfl rfl ?_
  refine z_iload_n B 39 rfl 3 0 rfl rfl ?_
  obtain ⟨r5, ec, hf⟩ := bd_e hf
  refine z_callV x0 0 [.int x1, .int x2, .int v4] [] [.int r5.1] X B 40 rfl (by decide) o_x0 rfl rfl miX0_partToLines ⟨(iX0_part _ (List.mem_of_getElem? (i := 5) rfl)), (iX0_part _ (List.mem_of_getElem? (i := 6) rfl)), (iX0_part _ (List.mem_of_getElem? (i := 7) rfl))⟩ (ctX0_partToLines hj o_x0 ec) ⟨Nat.le_of_ble_eq_true rfl, Nat.le_of_ble_eq_true rfl⟩ rfl rfl (Nat.le_of_ble_eq_true rfl) rfl ?_
  refine z_istore_n [(3, .int r5.1), (0, .ref x0), (1, .int x1), (2, .int x2)] B 41 rfl 3 rfl (by decide) rfl ?_
  refine z_aload_n B 42 rfl 0 1 rfl rfl ?_
  refine z_iload_n B 43 rfl 1 2 rfl rfl ?_
  refine z_iload_n B 44 rfl 2 3 rfl rfl ?_
  refine z_iload_n B 45 rfl 3 0 rfl rfl ?_
  obtain ⟨r6, ec, hf⟩ := bd_e hf
  refine z_callV x0 0 [.int x1, .int x2, .int r5.1] [] [.int r6.1] X B 46 rfl (by decide) o_x0 rfl rfl miX0_partToInner ⟨(iX0_part _ (List.mem_of_getElem? (i := 8) rfl)), (iX0_part _ (List.mem_of_getElem? (i := 9) rfl)), (iX0_part _ (List.mem_of_getElem? (i := 10) rfl))⟩ (ctX0_partToInner hj o_x0 ec) ⟨Nat.le_of_ble_eq_true rfl, Nat.le_of_ble_eq_true rfl⟩ rfl rfl (Nat.le_of_ble_eq_true rfl) rfl ?_
  refine z_istore_n [(3, .int r6.1), (0, .ref x0), (1, .int x1), (2, .int x2)] B 47 rfl 3 rfl (by decide) rfl ?_
  refine z_aload_n B 48 rfl 0 1 rfl rfl ?_
  refine z_getr 0 3 x0 B 49 rfl o_x0 rfl (iX0_part _ (List.mem_of_getElem? (i := 11) rfl)) rfl ?_
  refine z_iload_n B 50 rfl 1 2 rfl rfl ?_
  refine z_aload_n B 51 rfl 0 1 rfl rfl ?_
  refine z_getr 0 0 x0 B 52 rfl o_x0 rfl (iX0_part _ (List.mem_of_getElem? (i := 12) rfl)) rfl ?_
  refine z_getr 1 0 (x0 + 1) B 53 rfl (obf_0_0 o_x0) rfl (iX0_part _ (List.mem_of_getElem? (i := 13) rfl)) rfl ?_
  refine z_iload_n B 54 rfl 1 2 rfl rfl ?_
  refine z_iload_n B 55 rfl 2 3 rfl rfl ?_
  obtain ⟨r7, ec, hf⟩ := bd_e hf
  refine z_callV (x0 + 1 + 1) 5 [.int x1, .int x2] [.int x1, .ref (x0 + 22)] [.int r7, .int x1, .ref (x0 + 22)] X B 56 rfl (by decide) (obf_1_0 (obf_0_0 o_x0)) rfl rfl miX5_wantedFrom ⟨(iX0_part _ (List.mem_of_getElem? (i := 14) rfl)), (iX0_part _ (List.mem_of_getElem? (i := 15) rfl)), (iX0_part _ (List.mem_of_getElem? (i := 16) rfl))⟩ (ctX5_wantedFrom hj (obf_1_0 (obf_0_0 o_x0)) ec) ⟨Nat.le_of_ble_eq_true rfl, Nat.le_of_ble_eq_true rfl⟩ rfl rfl (Nat.le_of_ble_eq_true rfl) rfl ?_
  refine z_iload_n B 57 rfl 3 0 rfl rfl ?_
  refine z_isub B 58 rfl ?_
  obtain ⟨r8, ec, hf⟩ := bd_e hf
  refine z_callN [.ref (x0 + 22), .int x1, .int (r7 - r6.1)] [] [] X B 59 rfl miX6_put ⟨List.mem_of_getElem? (i := 12) rfl, (iX0_part _ (List.mem_of_getElem? (i := 17) rfl))⟩ (ctX6_put hj (obf_0_3 o_x0) ec) ⟨Nat.le_of_ble_eq_true rfl, Nat.le_of_ble_eq_true rfl⟩ rfl rfl (Nat.le_of_ble_eq_true rfl) rfl ?_
  cases hf
  exact z_vret B 60 rfl hQ hr
def f0_part (mm : Mem) (a0 : Nat) (a1 : Int32) : Option Mem := bd (f6_at mm (a0 + 20) a1) (fun r1 => if r1 = (mm a0 10) then f0_part_j44 a0 a1 r1 mm else bd (f0_fillLevels mm a0 a1 r1 (a0 + 27)) (fun r9 => bd (f0_fillLevels r9 a0 a1 (r1 + (1 : Int32)) (a0 + 28)) (fun r10 => nm (up2 r10 a0 10 r1) (fun m11 => f0_part_j44 a0 a1 r1 m11))))
theorem ctX0_part {l : Launch} {C : Cfg} (hj : Dj C) {mm : Mem} {a0 : Nat} {a1 : Int32} {x : Mem} (o_a0 : Ob a0 0) (hf : f0_part mm a0 a1 = some x) : Ct l C yX0_part cX0_part 4 none 3 78 [.ref a0, .int a1] mm none x := by
  refine Ct.of (tb := tbX0_part) hj miX0_part.2.1 miX0_part.1 dtX0_part (Nat.le_of_ble_eq_true rfl) ?_
  intro E B hQ hr X
  unfold f0_part at hf
  show G E 4 0 [(0, .ref a0), (1, .int a1)] [] mm
  refine z_aload_n B 0 rfl 0 0 rfl rfl ?_
  refine z_getr 0 1 a0 B 1 rfl o_a0 rfl (iX0_part _ (List.mem_of_getElem? (i := 0) rfl)) rfl ?_
  refine z_iload_n B 2 rfl 1 1 rfl rfl ?_
  obtain ⟨r1, ec, hf⟩ := bd_e hf
  refine z_callN [.ref (a0 + 20), .int a1] [] [.int r1] X B 3 rfl miX6_at ⟨List.mem_of_getElem? (i := 13) rfl, (iX0_part _ (List.mem_of_getElem? (i := 1) rfl))⟩ (ctX6_at hj (obf_0_1 o_a0) ec) ⟨Nat.le_of_ble_eq_true rfl, Nat.le_of_ble_eq_true rfl⟩ rfl rfl (Nat.le_of_ble_eq_true rfl) rfl ?_
  refine z_istore_n [(2, .int r1), (0, .ref a0), (1, .int a1)] B 4 rfl 2 rfl (by decide) rfl ?_
  refine z_iload_n B 5 rfl 2 0 rfl rfl ?_
  refine z_aload_n B 6 rfl 0 1 rfl rfl ?_
  refine z_geti 0 10 a0 B 7 rfl o_a0 rfl (iX0_part _ (List.mem_of_getElem? (i := 2) rfl)) rfl ?_
  by_cases hc : r1 = (mm a0 10)
  · replace hf := (if_pos hc).symm.trans hf
    refine z_icmp_eq_t B 8 rfl 44 (by decide) hc ?_
    refine z_sub [(0, .ref a0), (1, .int a1), (2, .int r1)] [1, 2, 0] rfl ?_
    exact f0_part_j44_ok hj X B hQ hr _ _ _ _ o_a0  hf
  · replace hf := (if_neg hc).symm.trans hf
    refine z_icmp_eq_f B 8 rfl 44 (by decide) hc ?_
    refine z_aload_n B 9 rfl 0 1 rfl rfl ?_
    refine z_iload_n B 10 rfl 1 2 rfl rfl ?_
    refine z_iload_n B 11 rfl 2 0 rfl rfl ?_
    refine z_aload_n B 12 rfl 0 1 rfl rfl ?_
    refine z_getr 0 8 a0 B 13 rfl o_a0 rfl (iX0_part _ (List.mem_of_getElem? (i := 4) rfl)) rfl ?_
    obtain ⟨r9, ec, hf⟩ := bd_e hf
    refine z_callV a0 0 [.int a1, .int r1, .ref (a0 + 27)] [] [] X B 14 rfl (by decide) o_a0 rfl rfl miX0_fillLevels ⟨(iX0_part _ (List.mem_of_getElem? (i := 18) rfl)), (iX0_part _ (List.mem_of_getElem? (i := 19) rfl)), (iX0_part _ (List.mem_of_getElem? (i := 20) rfl))⟩ (ctX0_fillLevels hj o_a0 (obf_0_8 o_a0) ec) ⟨Nat.le_of_ble_eq_true rfl, Nat.le_of_ble_eq_true rfl⟩ rfl rfl (Nat.le_of_ble_eq_true rfl) rfl ?_
    refine z_aload_n B 15 rfl 0 1 rfl rfl ?_
    refine z_iload_n B 16 rfl 1 2 rfl rfl ?_
    refine z_iload_n B 17 rfl 2 0 rfl rfl ?_
    refine z_iconst 1 B 18 rfl (by decide) ?_
    refine z_iadd B 19 rfl ?_
    refine z_aload_n B 20 rfl 0 1 rfl rfl ?_
    refine z_getr 0 9 a0 B 21 rfl o_a0 rfl (iX0_part _ (List.mem_of_getElem? (i := 21) rfl)) rfl ?_
    obtain ⟨r10, ec, hf⟩ := bd_e hf
    refine z_callV a0 0 [.int a1, .int (r1 + (1 : Int32)), .ref (a0 + 28)] [] [] X B 22 rfl (by decide) o_a0 rfl rfl miX0_fillLevels ⟨(iX0_part _ (List.mem_of_getElem? (i := 18) rfl)), (iX0_part _ (List.mem_of_getElem? (i := 19) rfl)), (iX0_part _ (List.mem_of_getElem? (i := 20) rfl))⟩ (ctX0_fillLevels hj o_a0 (obf_0_9 o_a0) ec) ⟨Nat.le_of_ble_eq_true rfl, Nat.le_of_ble_eq_true rfl⟩ rfl rfl (Nat.le_of_ble_eq_true rfl) rfl ?_
    refine z_aload_n B 23 rfl 0 1 rfl rfl ?_
    refine z_iload_n B 24 rfl 2 0 rfl rfl ?_
    refine z_puti 0 10 a0 B 25 rfl o_a0 rfl (iX0_part _ (List.mem_of_getElem? (i := 2) rfl)) rfl (ty := .int) (by decide) rfl rfl rfl ?_
    obtain ⟨m11, ex, hf⟩ := nm_x hf
    refine z_mem ex ?_
    refine z_sub [(0, .ref a0), (1, .int a1), (2, .int r1)] [1, 2, 0] rfl ?_
    exact f0_part_j44_ok hj X B hQ hr _ _ _ _ o_a0  hf
end
section
/-! ZoneCapacity$Auction.clear()V -/
def tbX0_clear : Tb := [(0, .aload_n 0, 1, 1), (1, .invokevirtual 46, 3, 4), (4, .aload_n 0, 1, 5), (5, .invokevirtual 49, 3, 8), (8, .aload_n 0, 1, 9), (9, .iconst (-1), 1, 10), (10, .putfield 52, 3, 13), (13, .aload_n 0, 1, 14), (14, .getfield 18, 3, 17), (17, .iconst 0, 1, 18), (18, .iconst (-1), 1, 19), (19, .invokestatic 56, 3, 22), (22, .aload_n 0, 1, 23), (23, .getfield 22, 3, 26), (26, .iconst 0, 1, 27), (27, .iconst 0, 1, 28), (28, .invokestatic 56, 3, 31), (31, .iconst 0, 1, 32), (32, .istore_n 1, 1, 33), (33, .iload_n 1, 1, 34), (34, .aload_n 0, 1, 35), (35, .getfield 12, 3, 38), (38, .getfield 60, 3, 41), (41, .getfield 64, 3, 44), (44, .if_icmp .ge 47, 3, 47), (47, .aload_n 0, 1, 48), (48, .getfield 18, 3, 51), (51, .iload_n 1, 1, 52), (52, .invokestatic 69, 3, 55), (55, .iconst (-1), 1, 56), (56, .if_icmp .ne 24, 3, 59), (59, .aload_n 0, 1, 60), (60, .getfield 18, 3, 63), (63, .iload_n 1, 1, 64), (64, .aload_n 0, 1, 65), (65, .iload_n 1, 1, 66), (66, .aload_n 0, 1, 67), (67, .getfield 22, 3, 70), (70, .iload_n 1, 1, 71), (71, .invokestatic 69, 3, 74), (74, .invokevirtual 73, 3, 77), (77, .invokestatic 56, 3, 80), (80, .aload_n 0, 1, 81), (81, .iload_n 1, 1, 82), (82, .invokevirtual 77, 3, 85), (85, .iinc 1 1, 3, 88), (88, .goto (-55), 3, 91), (91, .return_, 1, 92)]
theorem dtX0_clear : ∀ q ∈ tbX0_clear, decode cX0_clear q.1 = .ok (q.2.1, q.2.2.1) ∧ q.1 + q.2.2.1 = q.2.2.2 := by decide +kernel
theorem miX0_clear : MI yX0_clear cX0_clear 2 none 0 := ⟨tw_mem (List.mem_of_getElem? (i := 335) (by decide +kernel)) rfl, by decide, by decide +kernel, tw_mem (List.mem_of_getElem? (i := 15) (by decide +kernel)) rfl⟩
abbrev rmX0_clear : Room := { frames := 4, cells := 0, slots := 0, locals := 102 }
def wX0_clear : List Cond := [.methodLink "ZoneCapacity$Auction" 46 yX0_readLines, .instanceMethod yX0_readLines, .selects "ZoneCapacity$Auction" yX0_readLines yX0_readLines, .methodLink "ZoneCapacity$Auction" 49 yX0_readTop, .instanceMethod yX0_readTop, .selects "ZoneCapacity$Auction" yX0_readTop yX0_readTop, .fieldLink "ZoneCapacity$Auction" 52 "ZoneCapacity$Auction" "filledAt" "I", .fieldLink "ZoneCapacity$Auction" 18 "ZoneCapacity$Auction" "prices" "[I", .static yX6_put, .fieldLink "ZoneCapacity$Auction" 22 "ZoneCapacity$Auction" "nets" "[I", .fieldLink "ZoneCapacity$Auction" 12 "ZoneCapacity$Auction" "market" "LZoneCapacity$Market;", .fieldLink "ZoneCapacity$Auction" 60 "ZoneCapacity$Market" "zones" "LZoneCapacity$Zones;", .fieldLink "ZoneCapacity$Auction" 64 "ZoneCapacity$Zones" "many" "I", .static yX6_at, .methodLink "ZoneCapacity$Auction" 77 yX0_part, .instanceMethod yX0_part, .selects "ZoneCapacity$Auction" yX0_part yX0_part, .methodLink "ZoneCapacity$Auction" 73 yX0_leastPrice, .instanceMethod yX0_leastPrice, .selects "ZoneCapacity$Auction" yX0_leastPrice yX0_leastPrice]
theorem iX0_clear : ∀ w ∈ wX0_clear, w ∈ TW := tw_of (ids := [336, 338, 0, 359, 361, 1, 175, 162, 291, 164, 160, 150, 69, 272, 394, 396, 5, 369, 371, 2]) (by decide +kernel)
def f0_clear_j80 (k33 : Nat → Int32 → Mem → Option Mem) (x0 : Nat) (x1 : Int32) (mm : Mem) : Option Mem := bd (f0_part mm x0 x1) (fun r7 => nm (x1 + 1) (fun v8 => k33 x0 v8 r7))
theorem f0_clear_j80_ok {E : Ev} {l : Launch} {C : Cfg} {x : Mem} {k33 : Nat → Int32 → Mem → Option Mem} (hj : Dj C) (X : Ec E l C rmX0_clear) (B : Bx E RX0 tbX0_clear 2 none) (hQ : Rt E) (hr : Rs E none x) (hk33 : ∀ (x0 : Nat) (x1 : Int32) (mm : Mem), Ob x0 0 → k33 x0 x1 mm = some x → G E 2 33 [(0, .ref x0), (1, .int x1)] [] mm) (x0 : Nat) (x1 : Int32) (mm : Mem) (o_x0 : Ob x0 0) (hf : f0_clear_j80 k33 x0 x1 mm = some x) : G E 2 80 [(0, .ref x0), (1, .int x1)] [] mm := by
  unfold f0_clear_j80 at hf
  refine z_aload_n B 42 rfl 0 0 rfl rfl ?_
  refine z_iload_n B 43 rfl 1 1 rfl rfl ?_
  obtain ⟨r7, ec, hf⟩ := bd_e hf
  refine z_callV x0 0 [.int x1] [] [] X B 44 rfl (by decide) o_x0 rfl rfl miX0_part ⟨(iX0_clear _ (List.mem_of_getElem? (i := 14) rfl)), (iX0_clear _ (List.mem_of_getElem? (i := 15) rfl)), (iX0_clear _ (List.mem_of_getElem? (i := 16) rfl))⟩ (ctX0_part hj o_x0 ec) ⟨Nat.le_of_ble_eq_true rfl, Nat.le_of_ble_eq_true rfl⟩ rfl rfl (Nat.le_of_ble_eq_true rfl) rfl ?_
  obtain ⟨v8, ex, hf⟩ := nm_x hf
  refine z_iinc v8 [(1, .int v8), (0, .ref x0)] B 45 rfl 1 rfl (ex.symm) (by decide) rfl ?_
  refine z_goto B 46 rfl 33 (by decide) ?_
  refine z_sub [(0, .ref x0), (1, .int v8)] [1, 0] rfl ?_
  exact hk33 _ _ _ o_x0  hf
def f0_clear_l33 : Nat → Nat → Int32 → Mem → Option Mem
  | 0, _, _, _ => none
  | n + 1, x0, x1, mm => if x1 < (mm (x0 + 1 + 1) 0) then bd (f6_at mm (x0 + 20) x1) (fun r6 => if r6 = (-1 : Int32) then bd (f6_at mm (x0 + 21) x1) (fun r9 => bd (f0_leastPrice mm x0 x1 r9) (fun r10 => bd (f6_put r10.2 (x0 + 20) x1 r10.1) (fun r11 => f0_clear_j80 (fun x0 x1 mm => f0_clear_l33 n x0 x1 mm) x0 x1 r11))) else f0_clear_j80 (fun x0 x1 mm => f0_clear_l33 n x0 x1 mm) x0 x1 mm) else some mm
theorem f0_clear_l33_ok {E : Ev} {l : Launch} {C : Cfg} {x : Mem} (hj : Dj C) (X : Ec E l C rmX0_clear) (B : Bx E RX0 tbX0_clear 2 none) (hQ : Rt E) (hr : Rs E none x) (n : Nat) : ∀ (x0 : Nat) (x1 : Int32) (mm : Mem), Ob x0 0 → f0_clear_l33 n x0 x1 mm = some x → G E 2 33 [(0, .ref x0), (1, .int x1)] [] mm := by
  induction n with
  | zero =>
    intro x0 x1 mm o_x0 hf
    rw [f0_clear_l33] at hf
    cases hf
  | succ n ih =>
    intro x0 x1 mm o_x0 hf
    rw [f0_clear_l33] at hf
    refine z_iload_n B 19 rfl 1 1 rfl rfl ?_
    refine z_aload_n B 20 rfl 0 0 rfl rfl ?_
    refine z_getr 0 0 x0 B 21 rfl o_x0 rfl (iX0_clear _ (List.mem_of_getElem? (i := 10) rfl)) rfl ?_
    refine z_getr 1 0 (x0 + 1) B 22 rfl (obf_0_0 o_x0) rfl (iX0_clear _ (List.mem_of_getElem? (i := 11) rfl)) rfl ?_
    refine z_geti 5 0 (x0 + 1 + 1) B 23 rfl (obf_1_0 (obf_0_0 o_x0)) rfl (iX0_clear _ (List.mem_of_getElem? (i := 12) rfl)) rfl ?_
    by_cases hc : x1 < (mm (x0 + 1 + 1) 0)
    · replace hf := (if_pos hc).symm.trans hf
      refine z_icmp_ge_f B 24 rfl 91 (by decide) hc ?_
      refine z_aload_n B 25 rfl 0 0 rfl rfl ?_
      refine z_getr 0 1 x0 B 26 rfl o_x0 rfl (iX0_clear _ (List.mem_of_getElem? (i := 7) rfl)) rfl ?_
      refine z_iload_n B 27 rfl 1 1 rfl rfl ?_
      obtain ⟨r6, ec, hf⟩ := bd_e hf
      refine z_callN [.ref (x0 + 20), .int x1] [] [.int r6] X B 28 rfl miX6_at ⟨List.mem_of_getElem? (i := 13) rfl, (iX0_clear _ (List.mem_of_getElem? (i := 13) rfl))⟩ (ctX6_at hj (obf_0_1 o_x0) ec) ⟨Nat.le_of_ble_eq_true rfl, Nat.le_of_ble_eq_true rfl⟩ rfl rfl (Nat.le_of_ble_eq_true rfl) rfl ?_
      refine z_iconst (-1) B 29 rfl (by decide) ?_
      by_cases hc : r6 = (-1 : Int32)
      · replace hf := (if_pos hc).symm.trans hf
        refine z_icmp_ne_f B 30 rfl 80 (by decide) hc ?_
        refine z_aload_n B 31 rfl 0 0 rfl rfl ?_
        refine z_getr 0 1 x0 B 32 rfl o_x0 rfl (iX0_clear _ (List.mem_of_getElem? (i := 7) rfl)) rfl ?_
        refine z_iload_n B 33 rfl 1 1 rfl rfl ?_
        refine z_aload_n B 34 rfl 0 0 rfl rfl ?_
        refine z_iload_n B 35 rfl 1 1 rfl rfl ?_
        refine z_aload_n B 36 rfl 0 0 rfl rfl ?_
        refine z_getr 0 2 x0 B 37 rfl o_x0 rfl (iX0_clear _ (List.mem_of_getElem? (i := 9) rfl)) rfl ?_
        refine z_iload_n B 38 rfl 1 1 rfl rfl ?_
        obtain ⟨r9, ec, hf⟩ := bd_e hf
        refine z_callN [.ref (x0 + 21), .int x1] [.int x1, .ref x0, .int x1, .ref (x0 + 20)] [.int r9, .int x1, .ref x0, .int x1, .ref (x0 + 20)] X B 39 rfl miX6_at ⟨List.mem_of_getElem? (i := 13) rfl, (iX0_clear _ (List.mem_of_getElem? (i := 13) rfl))⟩ (ctX6_at hj (obf_0_2 o_x0) ec) ⟨Nat.le_of_ble_eq_true rfl, Nat.le_of_ble_eq_true rfl⟩ rfl rfl (Nat.le_of_ble_eq_true rfl) rfl ?_
        obtain ⟨r10, ec, hf⟩ := bd_e hf
        refine z_callV x0 0 [.int x1, .int r9] [.int x1, .ref (x0 + 20)] [.int r10.1, .int x1, .ref (x0 + 20)] X B 40 rfl (by decide) o_x0 rfl rfl miX0_leastPrice ⟨(iX0_clear _ (List.mem_of_getElem? (i := 17) rfl)), (iX0_clear _ (List.mem_of_getElem? (i := 18) rfl)), (iX0_clear _ (List.mem_of_getElem? (i := 19) rfl))⟩ (ctX0_leastPrice hj o_x0 ec) ⟨Nat.le_of_ble_eq_true rfl, Nat.le_of_ble_eq_true rfl⟩ rfl rfl (Nat.le_of_ble_eq_true rfl) rfl ?_
        obtain ⟨r11, ec, hf⟩ := bd_e hf
        refine z_callN [.ref (x0 + 20), .int x1, .int r10.1] [] [] X B 41 rfl miX6_put ⟨List.mem_of_getElem? (i := 12) rfl, (iX0_clear _ (List.mem_of_getElem? (i := 8) rfl))⟩ (ctX6_put hj (obf_0_1 o_x0) ec) ⟨Nat.le_of_ble_eq_true rfl, Nat.le_of_ble_eq_true rfl⟩ rfl rfl (Nat.le_of_ble_eq_true rfl) rfl ?_
        exact f0_clear_j80_ok hj X B hQ hr ih _ _ _ o_x0  hf
      · replace hf := (if_neg hc).symm.trans hf
        refine z_icmp_ne_t B 30 rfl 80 (by decide) hc ?_
        exact f0_clear_j80_ok hj X B hQ hr ih _ _ _ o_x0  hf
    · replace hf := (if_neg hc).symm.trans hf
      refine z_icmp_ge_t B 24 rfl 91 (by decide) hc ?_
      cases hf
      exact z_vret B 47 rfl hQ hr
def f0_clear (mm : Mem) (a0 : Nat) : Option Mem := bd (f0_readLines mm a0) (fun r1 => bd (f0_readTop r1 a0) (fun r2 => nm (up2 r2 a0 10 (-1 : Int32)) (fun m3 => bd (f6_put m3 (a0 + 20) (0 : Int32) (-1 : Int32)) (fun r4 => bd (f6_put r4 (a0 + 21) (0 : Int32) (0 : Int32)) (fun r5 => f0_clear_l33 FU a0 (0 : Int32) r5)))))
theorem ctX0_clear {l : Launch} {C : Cfg} (hj : Dj C) {mm : Mem} {a0 : Nat} {x : Mem} (o_a0 : Ob a0 0) (hf : f0_clear mm a0 = some x) : Ct l C yX0_clear cX0_clear 2 none 4 102 [.ref a0] mm none x := by
  refine Ct.of (tb := tbX0_clear) hj miX0_clear.2.1 miX0_clear.1 dtX0_clear (Nat.le_of_ble_eq_true rfl) ?_
  intro E B hQ hr X
  unfold f0_clear at hf
  show G E 2 0 [(0, .ref a0)] [] mm
  refine z_aload_n B 0 rfl 0 0 rfl rfl ?_
  obtain ⟨r1, ec, hf⟩ := bd_e hf
  refine z_callV a0 0 [] [] [] X B 1 rfl (by decide) o_a0 rfl rfl miX0_readLines ⟨(iX0_clear _ (List.mem_of_getElem? (i := 0) rfl)), (iX0_clear _ (List.mem_of_getElem? (i := 1) rfl)), (iX0_clear _ (List.mem_of_getElem? (i := 2) rfl))⟩ (ctX0_readLines hj o_a0 ec) ⟨Nat.le_of_ble_eq_true rfl, Nat.le_of_ble_eq_true rfl⟩ rfl rfl (Nat.le_of_ble_eq_true rfl) rfl ?_
  refine z_aload_n B 2 rfl 0 0 rfl rfl ?_
  obtain ⟨r2, ec, hf⟩ := bd_e hf
  refine z_callV a0 0 [] [] [] X B 3 rfl (by decide) o_a0 rfl rfl miX0_readTop ⟨(iX0_clear _ (List.mem_of_getElem? (i := 3) rfl)), (iX0_clear _ (List.mem_of_getElem? (i := 4) rfl)), (iX0_clear _ (List.mem_of_getElem? (i := 5) rfl))⟩ (ctX0_readTop hj o_a0 ec) ⟨Nat.le_of_ble_eq_true rfl, Nat.le_of_ble_eq_true rfl⟩ rfl rfl (Nat.le_of_ble_eq_true rfl) rfl ?_
  refine z_aload_n B 4 rfl 0 0 rfl rfl ?_
  refine z_iconst (-1) B 5 rfl (by decide) ?_
  refine z_puti 0 10 a0 B 6 rfl o_a0 rfl (iX0_clear _ (List.mem_of_getElem? (i := 6) rfl)) rfl (ty := .int) (by decide) rfl rfl rfl ?_
  obtain ⟨m3, ex, hf⟩ := nm_x hf
  refine z_mem ex ?_
  refine z_aload_n B 7 rfl 0 0 rfl rfl ?_
  refine z_getr 0 1 a0 B 8 rfl o_a0 rfl (iX0_clear _ (List.mem_of_getElem? (i := 7) rfl)) rfl ?_
  refine z_iconst 0 B 9 rfl (by decide) ?_
  refine z_iconst (-1) B 10 rfl (by decide) ?_
  obtain ⟨r4, ec, hf⟩ := bd_e hf
  refine z_callN [.ref (a0 + 20), .int (0 : Int32), .int (-1 : Int32)] [] [] X B 11 rfl miX6_put ⟨List.mem_of_getElem? (i := 12) rfl, (iX0_clear _ (List.mem_of_getElem? (i := 8) rfl))⟩ (ctX6_put hj (obf_0_1 o_a0) ec) ⟨Nat.le_of_ble_eq_true rfl, Nat.le_of_ble_eq_true rfl⟩ rfl rfl (Nat.le_of_ble_eq_true rfl) rfl ?_
  refine z_aload_n B 12 rfl 0 0 rfl rfl ?_
  refine z_getr 0 2 a0 B 13 rfl o_a0 rfl (iX0_clear _ (List.mem_of_getElem? (i := 9) rfl)) rfl ?_
  refine z_iconst 0 B 14 rfl (by decide) ?_
  refine z_iconst 0 B 15 rfl (by decide) ?_
  obtain ⟨r5, ec, hf⟩ := bd_e hf
  refine z_callN [.ref (a0 + 21), .int (0 : Int32), .int (0 : Int32)] [] [] X B 16 rfl miX6_put ⟨List.mem_of_getElem? (i := 12) rfl, (iX0_clear _ (List.mem_of_getElem? (i := 8) rfl))⟩ (ctX6_put hj (obf_0_2 o_a0) ec) ⟨Nat.le_of_ble_eq_true rfl, Nat.le_of_ble_eq_true rfl⟩ rfl rfl (Nat.le_of_ble_eq_true rfl) rfl ?_
  refine z_iconst 0 B 17 rfl (by decide) ?_
  refine z_istore_n [(1, .int (0 : Int32)), (0, .ref a0)] B 18 rfl 1 rfl (by decide) rfl ?_
  refine z_sub [(0, .ref a0), (1, .int (0 : Int32))] [1, 0] rfl ?_
  exact f0_clear_l33_ok hj X B hQ hr FU _ _ _ o_a0  hf
/-! ZoneCapacity$Auction.levelOf(II)I -/
def tbX0_levelOf : Tb := [(0, .aload_n 0, 1, 1), (1, .invokevirtual 46, 3, 4), (4, .aload_n 0, 1, 5), (5, .iload_n 1, 1, 6), (6, .iload_n 2, 1, 7), (7, .aload_n 0, 1, 8), (8, .getfield 37, 3, 11), (11, .invokevirtual 81, 3, 14), (14, .aload_n 0, 1, 15), (15, .getfield 37, 3, 18), (18, .iload_n 1, 1, 19), (19, .invokestatic 69, 3, 22), (22, .ireturn, 1, 23)]
theorem dtX0_levelOf : ∀ q ∈ tbX0_levelOf, decode cX0_levelOf q.1 = .ok (q.2.1, q.2.2.1) ∧ q.1 + q.2.2.1 = q.2.2.2 := by decide +kernel
theorem miX0_levelOf : MI yX0_levelOf cX0_levelOf 3 (some .int) 2 := ⟨tw_mem (List.mem_of_getElem? (i := 847) (by decide +kernel)) rfl, by decide, by decide +kernel, tw_mem (List.mem_of_getElem? (i := 15) (by decide +kernel)) rfl⟩
abbrev rmX0_levelOf : Room := { frames := 4, cells := 0, slots := 0, locals := 89 }
def wX0_levelOf : List Cond := [.methodLink "ZoneCapacity$Auction" 46 yX0_readLines, .instanceMethod yX0_readLines, .selects "ZoneCapacity$Auction" yX0_readLines yX0_readLines, .fieldLink "ZoneCapacity$Auction" 37 "ZoneCapacity$Auction" "levels" "[I", .methodLink "ZoneCapacity$Auction" 81 yX0_fillLevels, .instanceMethod yX0_fillLevels, .selects "ZoneCapacity$Auction" yX0_fillLevels yX0_fillLevels, .static yX6_at]
theorem iX0_levelOf : ∀ w ∈ wX0_levelOf, w ∈ TW := tw_of (ids := [336, 338, 0, 172, 373, 375, 3, 272]) (by decide +kernel)
def f0_levelOf (mm : Mem) (a0 : Nat) (a1 : Int32) (a2 : Int32) : Option (Int32 × Mem) := bd (f0_readLines mm a0) (fun r1 => bd (f0_fillLevels r1 a0 a1 a2 (a0 + 26)) (fun r2 => bd (f6_at r2 (a0 + 26) a1) (fun r3 => some (r3, r2))))
theorem ctX0_levelOf {l : Launch} {C : Cfg} (hj : Dj C) {mm : Mem} {a0 : Nat} {a1 : Int32} {a2 : Int32} {x : (Int32 × Mem)} (o_a0 : Ob a0 0) (hf : f0_levelOf mm a0 a1 a2 = some x) : Ct l C yX0_levelOf cX0_levelOf 3 (some .int) 4 89 [.ref a0, .int a1, .int a2] mm (some (.int x.1)) x.2 := by
  refine Ct.of (tb := tbX0_levelOf) hj miX0_levelOf.2.1 miX0_levelOf.1 dtX0_levelOf (Nat.le_of_ble_eq_true rfl) ?_
  intro E B hQ hr X
  unfold f0_levelOf at hf
  show G E 3 0 [(0, .ref a0), (1, .int a1), (2, .int a2)] [] mm
  refine z_aload_n B 0 rfl 0 0 rfl rfl ?_
  obtain ⟨r1, ec, hf⟩ := bd_e hf
  refine z_callV a0 0 [] [] [] X B 1 rfl (by decide) o_a0 rfl rfl miX0_readLines ⟨(iX0_levelOf _ (List.mem_of_getElem? (i := 0) rfl)), (iX0_levelOf _ (List.mem_of_getElem? (i := 1) rfl)), (iX0_levelOf _ (List.mem_of_getElem? (i := 2) rfl))⟩ (ctX0_readLines hj o_a0 ec) ⟨Nat.le_of_ble_eq_true rfl, Nat.le_of_ble_eq_true rfl⟩ rfl rfl (Nat.le_of_ble_eq_true rfl) rfl ?_
  refine z_aload_n B 2 rfl 0 0 rfl rfl ?_
  refine z_iload_n B 3 rfl 1 1 rfl rfl ?_
  refine z_iload_n B 4 rfl 2 2 rfl rfl ?_
  refine z_aload_n B 5 rfl 0 0 rfl rfl ?_
  refine z_getr 0 7 a0 B 6 rfl o_a0 rfl (iX0_levelOf _ (List.mem_of_getElem? (i := 3) rfl)) rfl ?_
  obtain ⟨r2, ec, hf⟩ := bd_e hf
  refine z_callV a0 0 [.int a1, .int a2, .ref (a0 + 26)] [] [] X B 7 rfl (by decide) o_a0 rfl rfl miX0_fillLevels ⟨(iX0_levelOf _ (List.mem_of_getElem? (i := 4) rfl)), (iX0_levelOf _ (List.mem_of_getElem? (i := 5) rfl)), (iX0_levelOf _ (List.mem_of_getElem? (i := 6) rfl))⟩ (ctX0_fillLevels hj o_a0 (obf_0_7 o_a0) ec) ⟨Nat.le_of_ble_eq_true rfl, Nat.le_of_ble_eq_true rfl⟩ rfl rfl (Nat.le_of_ble_eq_true rfl) rfl ?_
  refine z_aload_n B 8 rfl 0 0 rfl rfl ?_
  refine z_getr 0 7 a0 B 9 rfl o_a0 rfl (iX0_levelOf _ (List.mem_of_getElem? (i := 3) rfl)) rfl ?_
  refine z_iload_n B 10 rfl 1 1 rfl rfl ?_
  obtain ⟨r3, ec, hf⟩ := bd_e hf
  refine z_callN [.ref (a0 + 26), .int a1] [] [.int r3] X B 11 rfl miX6_at ⟨List.mem_of_getElem? (i := 13) rfl, (iX0_levelOf _ (List.mem_of_getElem? (i := 7) rfl))⟩ (ctX6_at hj (obf_0_7 o_a0) ec) ⟨Nat.le_of_ble_eq_true rfl, Nat.le_of_ble_eq_true rfl⟩ rfl rfl (Nat.le_of_ble_eq_true rfl) rfl ?_
  cases hf
  exact z_iret B 12 rfl rfl hQ hr
/-! ZoneCapacity$Auction.takenOf(I)I -/
def tbX0_takenOf : Tb := [(0, .iconst 0, 1, 1), (1, .istore_n 2, 1, 2), (2, .iload_n 1, 1, 3), (3, .iconst 4, 1, 4), (4, .imul, 1, 5), (5, .istore_n 3, 1, 6), (6, .iload_n 3, 1, 7), (7, .iload_n 1, 1, 8), (8, .iconst 4, 1, 9), (9, .imul, 1, 10), (10, .iconst 4, 1, 11), (11, .iadd, 1, 12), (12, .if_icmp .ge 20, 3, 15), (15, .iload_n 2, 1, 16), (16, .aload_n 0, 1, 17), (17, .getfield 28, 3, 20), (20, .iload_n 3, 1, 21), (21, .invokestatic 69, 3, 24), (24, .iadd, 1, 25), (25, .istore_n 2, 1, 26), (26, .iinc 3 1, 3, 29), (29, .goto (-23), 3, 32), (32, .iload_n 2, 1, 33), (33, .ireturn, 1, 34)]
theorem dtX0_takenOf : ∀ q ∈ tbX0_takenOf, decode cX0_takenOf q.1 = .ok (q.2.1, q.2.2.1) ∧ q.1 + q.2.2.1 = q.2.2.2 := by decide +kernel
theorem miX0_takenOf : MI yX0_takenOf cX0_takenOf 4 (some .int) 1 := ⟨tw_mem (List.mem_of_getElem? (i := 414) (by decide +kernel)) rfl, by decide, by decide +kernel, tw_mem (List.mem_of_getElem? (i := 15) (by decide +kernel)) rfl⟩
abbrev rmX0_takenOf : Room := { frames := 1, cells := 0, slots := 0, locals := 21 }
def wX0_takenOf : List Cond := [.fieldLink "ZoneCapacity$Auction" 28 "ZoneCapacity$Auction" "takenUnits" "[I", .static yX6_at]
theorem iX0_takenOf : ∀ w ∈ wX0_takenOf, w ∈ TW := tw_of (ids := [168, 272]) (by decide +kernel)
def f0_takenOf_l6 (mm : Mem) : Nat → Nat → Int32 → Int32 → Int32 → Option Int32
  | 0, _, _, _, _ => none
  | n + 1, x0, x1, x2, x3 => if x3 < ((x1 * (4 : Int32)) + (4 : Int32)) then bd (f6_at mm (x0 + 23) x3) (fun r2 => nm (x2 + r2) (fun v3 => nm (x3 + 1) (fun v4 => f0_takenOf_l6 mm n x0 x1 v3 v4))) else some (x2)
theorem f0_takenOf_l6_ok {E : Ev} {l : Launch} {C : Cfg} {mm : Mem} {x : Int32} (hj : Dj C) (X : Ec E l C rmX0_takenOf) (B : Bx E RX0 tbX0_takenOf 4 (some .int)) (hQ : Rt E) (hr : Rs E (some (.int x)) mm) (n : Nat) : ∀ (x0 : Nat) (x1 : Int32) (x2 : Int32) (x3 : Int32), Ob x0 0 → f0_takenOf_l6 mm n x0 x1 x2 x3 = some x → G E 4 6 [(0, .ref x0), (1, .int x1), (2, .int x2), (3, .int x3)] [] mm := by
  induction n with
  | zero =>
    intro x0 x1 x2 x3 o_x0 hf
    rw [f0_takenOf_l6] at hf
    cases hf
  | succ n ih =>
    intro x0 x1 x2 x3 o_x0 hf
    rw [f0_takenOf_l6] at hf
    refine z_iload_n B 6 rfl 3 3 rfl rfl ?_
    refine z_iload_n B 7 rfl 1 1 rfl rfl ?_
    refine z_iconst 4 B 8 rfl (by decide) ?_
    refine z_imul B 9 rfl ?_
    refine z_iconst 4 B 10 rfl (by decide) ?_
    refine z_iadd B 11 rfl ?_
    by_cases hc : x3 < ((x1 * (4 : Int32)) + (4 : Int32))
    · replace hf := (if_pos hc).symm.trans hf
      refine z_icmp_ge_f B 12 rfl 32 (by decide) hc ?_
      refine z_iload_n B 13 rfl 2 2 rfl rfl ?_
      refine z_aload_n B 14 rfl 0 0 rfl rfl ?_
      refine z_getr 0 4 x0 B 15 rfl o_x0 rfl (iX0_takenOf _ (List.mem_of_getElem? (i := 0) rfl)) rfl ?_
      refine z_iload_n B 16 rfl 3 3 rfl rfl ?_
      obtain ⟨r2, ec, hf⟩ := bd_e hf
      refine z_callN [.ref (x0 + 23), .int x3] [.int x2] [.int r2, .int x2] X B 17 rfl miX6_at ⟨List.mem_of_getElem? (i := 13) rfl, (iX0_takenOf _ (List.mem_of_getElem? (i := 1) rfl))⟩ (ctX6_at hj (obf_0_4 o_x0) ec) ⟨Nat.le_of_ble_eq_true rfl, Nat.le_of_ble_eq_true rfl⟩ rfl rfl (Nat.le_of_ble_eq_true rfl) rfl ?_
      refine z_iadd B 18 rfl ?_
      obtain ⟨v3, ex, hf⟩ := nm_x hf
      refine z_top ex ?_
      refine z_istore_n [(2, .int v3), (0, .ref x0), (1, .int x1), (3, .int x3)] B 19 rfl 2 rfl (by decide) rfl ?_
      obtain ⟨v4, ex, hf⟩ := nm_x hf
      refine z_iinc v4 [(3, .int v4), (2, .int v3), (0, .ref x0), (1, .int x1)] B 20 rfl 3 rfl (ex.symm) (by decide) rfl ?_
      refine z_goto B 21 rfl 6 (by decide) ?_
      refine z_sub [(0, .ref x0), (1, .int x1), (2, .int v3), (3, .int v4)] [2, 3, 1, 0] rfl ?_
      exact ih _ _ _ _ o_x0  hf
    · replace hf := (if_neg hc).symm.trans hf
      refine z_icmp_ge_t B 12 rfl 32 (by decide) hc ?_
      refine z_iload_n B 22 rfl 2 2 rfl rfl ?_
      cases hf
      exact z_iret B 23 rfl rfl hQ hr
def f0_takenOf (mm : Mem) (a0 : Nat) (a1 : Int32) : Option Int32 := nm (a1 * (4 : Int32)) (fun v1 => f0_takenOf_l6 mm FU a0 a1 (0 : Int32) v1)
theorem ctX0_takenOf {l : Launch} {C : Cfg} (hj : Dj C) {mm : Mem} {a0 : Nat} {a1 : Int32} {x : Int32} (o_a0 : Ob a0 0) (hf : f0_takenOf mm a0 a1 = some x) : Ct l C yX0_takenOf cX0_takenOf 4 (some .int) 1 21 [.ref a0, .int a1] mm (some (.int x)) mm := by
  refine Ct.of (tb := tbX0_takenOf) hj miX0_takenOf.2.1 miX0_takenOf.1 dtX0_takenOf (Nat.le_of_ble_eq_true rfl) ?_
  intro E B hQ hr X
  unfold f0_takenOf at hf
  show G E 4 0 [(0, .ref a0), (1, .int a1)] [] mm
  refine z_iconst 0 B 0 rfl (by decide) ?_
  refine z_istore_n [(2, .int (0 : Int32)), (0, .ref a0), (1, .int a1)] B 1 rfl 2 rfl (by decide) rfl ?_
  refine z_iload_n B 2 rfl 1 2 rfl rfl ?_
  refine z_iconst 4 B 3 rfl (by decide) ?_
  refine z_imul B 4 rfl ?_
  obtain ⟨v1, ex, hf⟩ := nm_x hf
  refine z_top ex ?_
  refine z_istore_n [(3, .int v1), (2, .int (0 : Int32)), (0, .ref a0), (1, .int a1)] B 5 rfl 3 rfl (by decide) rfl ?_
  refine z_sub [(0, .ref a0), (1, .int a1), (2, .int (0 : Int32)), (3, .int v1)] [2, 3, 1, 0] rfl ?_
  exact f0_takenOf_l6_ok hj X B hQ hr FU _ _ _ _ o_a0  hf
/-! ZoneCapacity$Auction.boundOf(I)I -/
def tbX0_boundOf : Tb := [(0, .aload_n 0, 1, 1), (1, .getfield 12, 3, 4), (4, .getfield 60, 3, 7), (7, .astore_n 2, 1, 8), (8, .aload_n 0, 1, 9), (9, .getfield 22, 3, 12), (12, .iload_n 1, 1, 13), (13, .invokestatic 69, 3, 16), (16, .istore_n 3, 1, 17), (17, .aload_n 0, 1, 18), (18, .getfield 18, 3, 21), (21, .iload_n 1, 1, 22), (22, .invokestatic 69, 3, 25), (25, .aload_n 0, 1, 26), (26, .getfield 18, 3, 29), (29, .aload_n 2, 1, 30), (30, .getfield 118, 3, 33), (33, .iload_n 1, 1, 34), (34, .invokestatic 69, 3, 37), (37, .invokestatic 69, 3, 40), (40, .isub, 1, 41), (41, .istore 4, 2, 43), (43, .iload 4, 2, 45), (45, .ifCond .le 18, 3, 48), (48, .iload_n 3, 1, 49), (49, .aload_n 2, 1, 50), (50, .getfield 134, 3, 53), (53, .iload_n 1, 1, 54), (54, .invokestatic 69, 3, 57), (57, .ineg, 1, 58), (58, .if_icmp .ne 5, 3, 61), (61, .iconst 1, 1, 62), (62, .ireturn, 1, 63), (63, .iload 4, 2, 65), (65, .ifCond .ge 19, 3, 68), (68, .iload_n 3, 1, 69), (69, .aload_n 2, 1, 70), (70, .getfield 137, 3, 73), (73, .iload_n 1, 1, 74), (74, .invokestatic 69, 3, 77), (77, .if_icmp .ne 7, 3, 80), (80, .iconst 2, 1, 81), (81, .goto 4, 3, 84), (84, .iconst 0, 1, 85), (85, .ireturn, 1, 86)]
theorem dtX0_boundOf : ∀ q ∈ tbX0_boundOf, decode cX0_boundOf q.1 = .ok (q.2.1, q.2.2.1) ∧ q.1 + q.2.2.1 = q.2.2.2 := by decide +kernel
theorem miX0_boundOf : MI yX0_boundOf cX0_boundOf 5 (some .int) 1 := ⟨tw_mem (List.mem_of_getElem? (i := 1021) (by decide +kernel)) rfl, by decide, by decide +kernel, tw_mem (List.mem_of_getElem? (i := 15) (by decide +kernel)) rfl⟩
abbrev rmX0_boundOf : Room := { frames := 1, cells := 0, slots := 0, locals := 21 }
def wX0_boundOf : List Cond := [.fieldLink "ZoneCapacity$Auction" 12 "ZoneCapacity$Auction" "market" "LZoneCapacity$Market;", .fieldLink "ZoneCapacity$Auction" 60 "ZoneCapacity$Market" "zones" "LZoneCapacity$Zones;", .fieldLink "ZoneCapacity$Auction" 22 "ZoneCapacity$Auction" "nets" "[I", .static yX6_at, .fieldLink "ZoneCapacity$Auction" 18 "ZoneCapacity$Auction" "prices" "[I", .fieldLink "ZoneCapacity$Auction" 118 "ZoneCapacity$Zones" "outer" "[I", .fieldLink "ZoneCapacity$Auction" 137 "ZoneCapacity$Zones" "out" "[I", .fieldLink "ZoneCapacity$Auction" 134 "ZoneCapacity$Zones" "in" "[I"]
theorem iX0_boundOf : ∀ w ∈ wX0_boundOf, w ∈ TW := tw_of (ids := [160, 150, 164, 272, 162, 72, 78, 75]) (by decide +kernel)
def f0_boundOf_j63 (mm : Mem) (x1 : Int32) (x2 : Nat) (x3 : Int32) (x4 : Int32) : Option Int32 := if x4 < 0 then bd (f6_at mm (x2 + 3) x1) (fun r6 => if x3 = r6 then some ((2 : Int32)) else some ((0 : Int32))) else some ((0 : Int32))
theorem f0_boundOf_j63_ok {E : Ev} {l : Launch} {C : Cfg} {mm : Mem} {x : Int32} (hj : Dj C) (X : Ec E l C rmX0_boundOf) (B : Bx E RX0 tbX0_boundOf 5 (some .int)) (hQ : Rt E) (hr : Rs E (some (.int x)) mm) (x1 : Int32) (x2 : Nat) (x3 : Int32) (x4 : Int32) (o_x2 : Ob x2 5) (hf : f0_boundOf_j63 mm x1 x2 x3 x4 = some x) : G E 5 63 [(1, .int x1), (2, .ref x2), (3, .int x3), (4, .int x4)] [] mm := by
  unfold f0_boundOf_j63 at hf
  refine z_iload B 33 rfl 3 rfl ?_
  by_cases hc : x4 < 0
  · replace hf := (if_pos hc).symm.trans hf
    refine z_if_ge_f B 34 rfl 84 (by decide) hc ?_
    refine z_iload_n B 35 rfl 3 2 rfl rfl ?_
    refine z_aload_n B 36 rfl 2 1 rfl rfl ?_
    refine z_getr 5 3 x2 B 37 rfl o_x2 rfl (iX0_boundOf _ (List.mem_of_getElem? (i := 6) rfl)) rfl ?_
    refine z_iload_n B 38 rfl 1 0 rfl rfl ?_
    obtain ⟨r6, ec, hf⟩ := bd_e hf
    refine z_callN [.ref (x2 + 3), .int x1] [.int x3] [.int r6, .int x3] X B 39 rfl miX6_at ⟨List.mem_of_getElem? (i := 13) rfl, (iX0_boundOf _ (List.mem_of_getElem? (i := 3) rfl))⟩ (ctX6_at hj (obf_5_3 o_x2) ec) ⟨Nat.le_of_ble_eq_true rfl, Nat.le_of_ble_eq_true rfl⟩ rfl rfl (Nat.le_of_ble_eq_true rfl) rfl ?_
    by_cases hc : x3 = r6
    · replace hf := (if_pos hc).symm.trans hf
      refine z_icmp_ne_f B 40 rfl 84 (by decide) hc ?_
      refine z_iconst 2 B 41 rfl (by decide) ?_
      refine z_goto B 42 rfl 85 (by decide) ?_
      cases hf
      exact z_iret B 44 rfl rfl hQ hr
    · replace hf := (if_neg hc).symm.trans hf
      refine z_icmp_ne_t B 40 rfl 84 (by decide) hc ?_
      refine z_iconst 0 B 43 rfl (by decide) ?_
      cases hf
      exact z_iret B 44 rfl rfl hQ hr
  · replace hf := (if_neg hc).symm.trans hf
    refine z_if_ge_t B 34 rfl 84 (by decide) hc ?_
    refine z_iconst 0 B 43 rfl (by decide) ?_
    cases hf
    exact z_iret B 44 rfl rfl hQ hr
def f0_boundOf (mm : Mem) (a0 : Nat) (a1 : Int32) : Option Int32 := bd (f6_at mm (a0 + 21) a1) (fun r1 => bd (f6_at mm (a0 + 20) a1) (fun r2 => bd (f6_at mm (a0 + 1 + 1 + 1) a1) (fun r3 => bd (f6_at mm (a0 + 20) r3) (fun r4 => nm (r2 - r4) (fun v5 => if 0 < v5 then bd (f6_at mm (a0 + 1 + 1 + 2) a1) (fun r7 => if r1 = (-r7) then some ((1 : Int32)) else f0_boundOf_j63 mm a1 (a0 + 1 + 1) r1 v5) else f0_boundOf_j63 mm a1 (a0 + 1 + 1) r1 v5)))))
theorem ctX0_boundOf {l : Launch} {C : Cfg} (hj : Dj C) {mm : Mem} {a0 : Nat} {a1 : Int32} {x : Int32} (o_a0 : Ob a0 0) (hf : f0_boundOf mm a0 a1 = some x) : Ct l C yX0_boundOf cX0_boundOf 5 (some .int) 1 21 [.ref a0, .int a1] mm (some (.int x)) mm := by
  refine Ct.of (tb := tbX0_boundOf) hj miX0_boundOf.2.1 miX0_boundOf.1 dtX0_boundOf (Nat.le_of_ble_eq_true rfl) ?_
  intro E B hQ hr X
  unfold f0_boundOf at hf
  show G E 5 0 [(0, .ref a0), (1, .int a1)] [] mm
  refine z_aload_n B 0 rfl 0 0 rfl rfl ?_
  refine z_getr 0 0 a0 B 1 rfl o_a0 rfl (iX0_boundOf _ (List.mem_of_getElem? (i := 0) rfl)) rfl ?_
  refine z_getr 1 0 (a0 + 1) B 2 rfl (obf_0_0 o_a0) rfl (iX0_boundOf _ (List.mem_of_getElem? (i := 1) rfl)) rfl ?_
  refine z_astore_n [(2, .ref (a0 + 1 + 1)), (0, .ref a0), (1, .int a1)] B 3 rfl 2 rfl (by decide) rfl ?_
  refine z_aload_n B 4 rfl 0 1 rfl rfl ?_
  refine z_getr 0 2 a0 B 5 rfl o_a0 rfl (iX0_boundOf _ (List.mem_of_getElem? (i := 2) rfl)) rfl ?_
  refine z_iload_n B 6 rfl 1 2 rfl rfl ?_
  obtain ⟨r1, ec, hf⟩ := bd_e hf
  refine z_callN [.ref (a0 + 21), .int a1] [] [.int r1] X B 7 rfl miX6_at ⟨List.mem_of_getElem? (i := 13) rfl, (iX0_boundOf _ (List.mem_of_getElem? (i := 3) rfl))⟩ (ctX6_at hj (obf_0_2 o_a0) ec) ⟨Nat.le_of_ble_eq_true rfl, Nat.le_of_ble_eq_true rfl⟩ rfl rfl (Nat.le_of_ble_eq_true rfl) rfl ?_
  refine z_istore_n [(3, .int r1), (2, .ref (a0 + 1 + 1)), (0, .ref a0), (1, .int a1)] B 8 rfl 3 rfl (by decide) rfl ?_
  refine z_aload_n B 9 rfl 0 2 rfl rfl ?_
  refine z_getr 0 1 a0 B 10 rfl o_a0 rfl (iX0_boundOf _ (List.mem_of_getElem? (i := 4) rfl)) rfl ?_
  refine z_iload_n B 11 rfl 1 3 rfl rfl ?_
  obtain ⟨r2, ec, hf⟩ := bd_e hf
  refine z_callN [.ref (a0 + 20), .int a1] [] [.int r2] X B 12 rfl miX6_at ⟨List.mem_of_getElem? (i := 13) rfl, (iX0_boundOf _ (List.mem_of_getElem? (i := 3) rfl))⟩ (ctX6_at hj (obf_0_1 o_a0) ec) ⟨Nat.le_of_ble_eq_true rfl, Nat.le_of_ble_eq_true rfl⟩ rfl rfl (Nat.le_of_ble_eq_true rfl) rfl ?_
  refine z_aload_n B 13 rfl 0 2 rfl rfl ?_
  refine z_getr 0 1 a0 B 14 rfl o_a0 rfl (iX0_boundOf _ (List.mem_of_getElem? (i := 4) rfl)) rfl ?_
  refine z_aload_n B 15 rfl 2 1 rfl rfl ?_
  refine z_getr 5 1 (a0 + 1 + 1) B 16 rfl (obf_1_0 (obf_0_0 o_a0)) rfl (iX0_boundOf _ (List.mem_of_getElem? (i := 5) rfl)) rfl ?_
  refine z_iload_n B 17 rfl 1 3 rfl rfl ?_
  obtain ⟨r3, ec, hf⟩ := bd_e hf
  refine z_callN [.ref (a0 + 1 + 1 + 1), .int a1] [.ref (a0 + 20), .int r2] [.int r3, .ref (a0 + 20), .int r2] X B 18 rfl miX6_at ⟨List.mem_of_getElem? (i := 13) rfl, (iX0_boundOf _ (List.mem_of_getElem? (i := 3) rfl))⟩ (ctX6_at hj (obf_5_1 (obf_1_0 (obf_0_0 o_a0))) ec) ⟨Nat.le_of_ble_eq_true rfl, Nat.le_of_ble_eq_true rfl⟩ rfl rfl (Nat.le_of_ble_eq_true rfl) rfl ?_
  obtain ⟨r4, ec, hf⟩ := bd_e hf
  refine z_callN [.ref (a0 + 20), .int r3] [.int r2] [.int r4, .int r2] X B 19 rfl miX6_at ⟨List.mem_of_getElem? (i := 13) rfl, (iX0_boundOf _ (List.mem_of_getElem? (i := 3) rfl))⟩ (ctX6_at hj (obf_0_1 o_a0) ec) ⟨Nat.le_of_ble_eq_true rfl, Nat.le_of_ble_eq_true rfl⟩ rfl rfl (Nat.le_of_ble_eq_true rfl) rfl ?_
  refine z_isub B 20 rfl ?_
  obtain ⟨v5, ex, hf⟩ := nm_x hf
  refine z_top ex ?_
  refine z_istore [(4, .int v5), (3, .int r1), (2, .ref (a0 + 1 + 1)), (0, .ref a0), (1, .int a1)] B 21 rfl (by decide) rfl ?_
  refine z_iload B 22 rfl 0 rfl ?_
  by_cases hc : 0 < v5
  · replace hf := (if_pos hc).symm.trans hf
    refine z_if_le_f B 23 rfl 63 (by decide) hc ?_
    refine z_iload_n B 24 rfl 3 1 rfl rfl ?_
    refine z_aload_n B 25 rfl 2 2 rfl rfl ?_
    refine z_getr 5 2 (a0 + 1 + 1) B 26 rfl (obf_1_0 (obf_0_0 o_a0)) rfl (iX0_boundOf _ (List.mem_of_getElem? (i := 7) rfl)) rfl ?_
    refine z_iload_n B 27 rfl 1 4 rfl rfl ?_
    obtain ⟨r7, ec, hf⟩ := bd_e hf
    refine z_callN [.ref (a0 + 1 + 1 + 2), .int a1] [.int r1] [.int r7, .int r1] X B 28 rfl miX6_at ⟨List.mem_of_getElem? (i := 13) rfl, (iX0_boundOf _ (List.mem_of_getElem? (i := 3) rfl))⟩ (ctX6_at hj (obf_5_2 (obf_1_0 (obf_0_0 o_a0))) ec) ⟨Nat.le_of_ble_eq_true rfl, Nat.le_of_ble_eq_true rfl⟩ rfl rfl (Nat.le_of_ble_eq_true rfl) rfl ?_
    refine z_ineg B 29 rfl ?_
    by_cases hc : r1 = (-r7)
    · replace hf := (if_pos hc).symm.trans hf
      refine z_icmp_ne_f B 30 rfl 63 (by decide) hc ?_
      refine z_iconst 1 B 31 rfl (by decide) ?_
      cases hf
      exact z_iret B 32 rfl rfl hQ hr
    · replace hf := (if_neg hc).symm.trans hf
      refine z_icmp_ne_t B 30 rfl 63 (by decide) hc ?_
      refine z_sub [(1, .int a1), (2, .ref (a0 + 1 + 1)), (3, .int r1), (4, .int v5)] [4, 2, 1, 0] rfl ?_
      exact f0_boundOf_j63_ok hj X B hQ hr _ _ _ _ (obf_1_0 (obf_0_0 o_a0))  hf
  · replace hf := (if_neg hc).symm.trans hf
    refine z_if_le_t B 23 rfl 63 (by decide) hc ?_
    refine z_sub [(1, .int a1), (2, .ref (a0 + 1 + 1)), (3, .int r1), (4, .int v5)] [4, 2, 1, 0] rfl ?_
    exact f0_boundOf_j63_ok hj X B hQ hr _ _ _ _ (obf_1_0 (obf_0_0 o_a0))  hf
/-! ZoneCapacity$Zones.fallen(III)I -/
def tbX5_fallen : Tb := [(0, .iload_n 2, 1, 1), (1, .ifCond .le 11, 3, 4), (4, .iload_n 0, 1, 5), (5, .iload_n 1, 1, 6), (6, .imul, 1, 7), (7, .iload_n 2, 1, 8), (8, .idiv, 1, 9), (9, .goto 4, 3, 12), (12, .iconst 0, 1, 13), (13, .ireturn, 1, 14)]
theorem dtX5_fallen : ∀ q ∈ tbX5_fallen, decode cX5_fallen q.1 = .ok (q.2.1, q.2.2.1) ∧ q.1 + q.2.2.1 = q.2.2.2 := by decide +kernel
theorem miX5_fallen : MI yX5_fallen cX5_fallen 3 (some .int) 3 := ⟨tw_mem (List.mem_of_getElem? (i := 436) (by decide +kernel)) rfl, by decide, by decide +kernel, tw_mem (List.mem_of_getElem? (i := 17) (by decide +kernel)) rfl⟩
abbrev rmX5_fallen : Room := { frames := 0, cells := 0, slots := 0, locals := 0 }
def f5_fallen (mm : Mem) (a0 : Int32) (a1 : Int32) (a2 : Int32) : Option Int32 := if 0 < a2 then dvz a2 (some ((a0 * a1) / a2)) else some ((0 : Int32))
theorem ctX5_fallen {l : Launch} {C : Cfg} (hj : Dj C) {mm : Mem} {a0 : Int32} {a1 : Int32} {a2 : Int32} {x : Int32} (hf : f5_fallen mm a0 a1 a2 = some x) : Ct l C yX5_fallen cX5_fallen 3 (some .int) 0 0 [.int a0, .int a1, .int a2] mm (some (.int x)) mm := by
  refine Ct.of (tb := tbX5_fallen) hj miX5_fallen.2.1 miX5_fallen.1 dtX5_fallen (Nat.le_of_ble_eq_true rfl) ?_
  intro E B hQ hr X
  unfold f5_fallen at hf
  show G E 3 0 [(0, .int a0), (1, .int a1), (2, .int a2)] [] mm
  refine z_iload_n B 0 rfl 2 2 rfl rfl ?_
  by_cases hc : 0 < a2
  · replace hf := (if_pos hc).symm.trans hf
    refine z_if_le_f B 1 rfl 12 (by decide) hc ?_
    refine z_iload_n B 2 rfl 0 0 rfl rfl ?_
    refine z_iload_n B 3 rfl 1 1 rfl rfl ?_
    refine z_imul B 4 rfl ?_
    refine z_iload_n B 5 rfl 2 2 rfl rfl ?_
    obtain ⟨hz, hf⟩ := dvz_e hf
    refine z_idiv B 6 rfl hz ?_
    refine z_goto B 7 rfl 13 (by decide) ?_
    cases hf
    exact z_iret B 9 rfl rfl hQ hr
  · replace hf := (if_neg hc).symm.trans hf
    refine z_if_le_t B 1 rfl 12 (by decide) hc ?_
    refine z_iconst 0 B 8 rfl (by decide) ?_
    cases hf
    exact z_iret B 9 rfl rfl hQ hr
/-! ZoneCapacity$Zones.worthOfFirst(II)J -/
def tbX5_worthOfFirst : Tb := [(0, .lconst 0, 1, 1), (1, .lstore_n 3, 1, 2), (2, .iconst 0, 1, 3), (3, .istore 5, 2, 5), (5, .aload_n 0, 1, 6), (6, .getfield 31, 3, 9), (9, .iload_n 1, 1, 10), (10, .iconst 4, 1, 11), (11, .imul, 1, 12), (12, .invokestatic 46, 3, 15), (15, .istore 6, 2, 17), (17, .iconst 0, 1, 18), (18, .istore 7, 2, 20), (20, .iload 7, 2, 22), (22, .aload_n 0, 1, 23), (23, .getfield 25, 3, 26), (26, .iload_n 1, 1, 27), (27, .invokestatic 46, 3, 30), (30, .if_icmp .ge 99, 3, 33), (33, .aload_n 0, 1, 34), (34, .getfield 28, 3, 37), (37, .iload_n 1, 1, 38), (38, .iconst 4, 1, 39), (39, .imul, 1, 40), (40, .iload 7, 2, 42), (42, .iadd, 1, 43), (43, .invokestatic 46, 3, 46), (46, .istore 8, 2, 48), (48, .aload_n 0, 1, 49), (49, .getfield 31, 3, 52), (52, .iload_n 1, 1, 53), (53, .iconst 4, 1, 54), (54, .imul, 1, 55), (55, .iload 7, 2, 57), (57, .iadd, 1, 58), (58, .invokestatic 46, 3, 61), (61, .istore 9, 2, 63), (63, .iload_n 2, 1, 64), (64, .iload 8, 2, 66), (66, .invokestatic 54, 3, 69), (69, .istore 10, 2, 71), (71, .iload 5, 2, 73), (73, .iconst 1, 1, 74), (74, .iadd, 1, 75), (75, .istore 11, 2, 77), (77, .iload 11, 2, 79), (79, .iload 10, 2, 81), (81, .if_icmp .gt 34, 3, 84), (84, .lload_n 3, 1, 85), (85, .iload 6, 2, 87), (87, .iload 6, 2, 89), (89, .iload 9, 2, 91), (91, .isub, 1, 92), (92, .iload 11, 2, 94), (94, .iload 5, 2, 96), (96, .isub, 1, 97), (97, .iload 8, 2, 99), (99, .iload 5, 2, 101), (101, .isub, 1, 102), (102, .invokestatic 50, 3, 105), (105, .isub, 1, 106), (106, .i2l, 1, 107), (107, .ladd, 1, 108), (108, .lstore_n 3, 1, 109), (109, .iinc 11 1, 3, 112), (112, .goto (-35), 3, 115), (115, .iload 8, 2, 117), (117, .istore 5, 2, 119), (119, .iload 9, 2, 121), (121, .istore 6, 2, 123), (123, .iinc 7 1, 3, 126), (126, .goto (-106), 3, 129), (129, .lload_n 3, 1, 130), (130, .lreturn, 1, 131)]
theorem dtX5_worthOfFirst : ∀ q ∈ tbX5_worthOfFirst, decode cX5_worthOfFirst q.1 = .ok (q.2.1, q.2.2.1) ∧ q.1 + q.2.2.1 = q.2.2.2 := by decide +kernel
theorem miX5_worthOfFirst : MI yX5_worthOfFirst cX5_worthOfFirst 12 (some .long) 2 := ⟨tw_mem (List.mem_of_getElem? (i := 433) (by decide +kernel)) rfl, by decide, by decide +kernel, tw_mem (List.mem_of_getElem? (i := 17) (by decide +kernel)) rfl⟩
abbrev rmX5_worthOfFirst : Room := { frames := 1, cells := 0, slots := 0, locals := 22 }
def wX5_worthOfFirst : List Cond := [.fieldLink "ZoneCapacity$Zones" 31 "ZoneCapacity$Zones" "pointPrices" "[I", .static yX6_at, .fieldLink "ZoneCapacity$Zones" 25 "ZoneCapacity$Zones" "points" "[I", .fieldLink "ZoneCapacity$Zones" 28 "ZoneCapacity$Zones" "pointUnits" "[I", .methodLink "ZoneCapacity$Zones" 54 ⟨"java/lang/Math", "min", "(II)I"⟩, .static ⟨"java/lang/Math", "min", "(II)I"⟩, .initialized "java/lang/Math", .code Lib.Math.min.name Lib.Math.min.code 2 (some .int), .methodLink "ZoneCapacity$Zones" 50 yX5_fallen, .static yX5_fallen]
theorem iX5_worthOfFirst : ∀ w ∈ wX5_worthOfFirst, w ∈ TW := tw_of (ids := [82, 272, 79, 81, 392, 357, 26, 358, 434, 435]) (by decide +kernel)
def f5_worthOfFirst_l77 (k20 : Nat → Int32 → Int32 → Int64 → Int32 → Int32 → Int32 → Option Int64) (mm : Mem) : Nat → Nat → Int32 → Int32 → Int64 → Int32 → Int32 → Int32 → Int32 → Int32 → Int32 → Int32 → Option Int64
  | 0, _, _, _, _, _, _, _, _, _, _, _ => none
  | n + 1, x0, x1, x2, x3, x5, x6, x7, x8, x9, x10, x11 => if x10 < x11 then nm (x7 + 1) (fun v7 => k20 x0 x1 x2 x3 x8 x9 v7) else bd (f5_fallen mm (x6 - x9) (x11 - x5) (x8 - x5)) (fun r8 => nm (x3 + ((x6 - r8).toInt64)) (fun v9 => nm (x11 + 1) (fun v10 => f5_worthOfFirst_l77 k20 mm n x0 x1 x2 v9 x5 x6 x7 x8 x9 x10 v10)))
theorem f5_worthOfFirst_l77_ok {E : Ev} {l : Launch} {C : Cfg} {mm : Mem} {x : Int64} {k20 : Nat → Int32 → Int32 → Int64 → Int32 → Int32 → Int32 → Option Int64} (hj : Dj C) (X : Ec E l C rmX5_worthOfFirst) (B : Bx E RX5 tbX5_worthOfFirst 12 (some .long)) (hQ : Rt E) (hr : Rs E (some (.long x)) mm) (hk20 : ∀ (x0 : Nat) (x1 : Int32) (x2 : Int32) (x3 : Int64) (x5 : Int32) (x6 : Int32) (x7 : Int32), Ob x0 5 → k20 x0 x1 x2 x3 x5 x6 x7 = some x → G E 12 20 [(0, .ref x0), (1, .int x1), (2, .int x2), (3, .long x3), (5, .int x5), (6, .int x6), (7, .int x7)] [] mm) (n : Nat) : ∀ (x0 : Nat) (x1 : Int32) (x2 : Int32) (x3 : Int64) (x5 : Int32) (x6 : Int32) (x7 : Int32) (x8 : Int32) (x9 : Int32) (x10 : Int32) (x11 : Int32), Ob x0 5 → f5_worthOfFirst_l77 k20 mm n x0 x1 x2 x3 x5 x6 x7 x8 x9 x10 x11 = some x → G E 12 77 [(0, .ref x0), (1, .int x1), (2, .int x2), (3, .long x3), (5, .int x5), (6, .int x6), (7, .int x7), (8, .int x8), (9, .int x9), (10, .int x10), (11, .int x11)] [] mm := by
  induction n with
  | zero =>
    intro x0 x1 x2 x3 x5 x6 x7 x8 x9 x10 x11 o_x0 hf
    rw [f5_worthOfFirst_l77] at hf
    cases hf
  | succ n ih =>
    intro x0 x1 x2 x3 x5 x6 x7 x8 x9 x10 x11 o_x0 hf
    rw [f5_worthOfFirst_l77] at hf
    refine z_iload B 45 rfl 10 rfl ?_
    refine z_iload B 46 rfl 9 rfl ?_
    by_cases hc : x10 < x11
    · replace hf := (if_pos hc).symm.trans hf
      refine z_icmp_gt_t B 47 rfl 115 (by decide) hc ?_
      refine z_iload B 66 rfl 7 rfl ?_
      refine z_istore [(5, .int x8), (0, .ref x0), (1, .int x1), (2, .int x2), (3, .long x3), (6, .int x6), (7, .int x7), (8, .int x8), (9, .int x9), (10, .int x10), (11, .int x11)] B 67 rfl (by decide) rfl ?_
      refine z_iload B 68 rfl 8 rfl ?_
      refine z_istore [(6, .int x9), (5, .int x8), (0, .ref x0), (1, .int x1), (2, .int x2), (3, .long x3), (7, .int x7), (8, .int x8), (9, .int x9), (10, .int x10), (11, .int x11)] B 69 rfl (by decide) rfl ?_
      obtain ⟨v7, ex, hf⟩ := nm_x hf
      refine z_iinc v7 [(7, .int v7), (6, .int x9), (5, .int x8), (0, .ref x0), (1, .int x1), (2, .int x2), (3, .long x3), (8, .int x8), (9, .int x9), (10, .int x10), (11, .int x11)] B 70 rfl 6 rfl (ex.symm) (by decide) rfl ?_
      refine z_goto B 71 rfl 20 (by decide) ?_
      refine z_sub [(0, .ref x0), (1, .int x1), (2, .int x2), (3, .long x3), (5, .int x8), (6, .int x9), (7, .int v7)] [3, 4, 5, 6, 2, 1, 0] rfl ?_
      exact hk20 _ _ _ _ _ _ _ o_x0  hf
    · replace hf := (if_neg hc).symm.trans hf
      refine z_icmp_gt_f B 47 rfl 115 (by decide) hc ?_
      refine z_lload_n B 48 rfl 3 3 rfl rfl ?_
      refine z_iload B 49 rfl 5 rfl ?_
      refine z_iload B 50 rfl 5 rfl ?_
      refine z_iload B 51 rfl 8 rfl ?_
      refine z_isub B 52 rfl ?_
      refine z_iload B 53 rfl 10 rfl ?_
      refine z_iload B 54 rfl 4 rfl ?_
      refine z_isub B 55 rfl ?_
      refine z_iload B 56 rfl 7 rfl ?_
      refine z_iload B 57 rfl 4 rfl ?_
      refine z_isub B 58 rfl ?_
      obtain ⟨r8, ec, hf⟩ := bd_e hf
      refine z_callS [.int (x6 - x9), .int (x11 - x5), .int (x8 - x5)] [.int x6, .long x3] [.int r8, .int x6, .long x3] X B 59 rfl miX5_fallen ⟨(iX5_worthOfFirst _ (List.mem_of_getElem? (i := 8) rfl)), (iX5_worthOfFirst _ (List.mem_of_getElem? (i := 9) rfl))⟩ (ctX5_fallen hj ec) ⟨Nat.le_of_ble_eq_true rfl, Nat.le_of_ble_eq_true rfl⟩ rfl rfl (Nat.le_of_ble_eq_true rfl) rfl ?_
      refine z_isub B 60 rfl ?_
      refine z_i2l B 61 rfl ?_
      refine z_ladd B 62 rfl ?_
      obtain ⟨v9, ex, hf⟩ := nm_x hf
      refine z_topl ex ?_
      refine z_lstore_n [(3, .long v9), (0, .ref x0), (1, .int x1), (2, .int x2), (5, .int x5), (6, .int x6), (7, .int x7), (8, .int x8), (9, .int x9), (10, .int x10), (11, .int x11)] B 63 rfl 3 rfl (by decide) rfl ?_
      obtain ⟨v10, ex, hf⟩ := nm_x hf
      refine z_iinc v10 [(11, .int v10), (3, .long v9), (0, .ref x0), (1, .int x1), (2, .int x2), (5, .int x5), (6, .int x6), (7, .int x7), (8, .int x8), (9, .int x9), (10, .int x10)] B 64 rfl 10 rfl (ex.symm) (by decide) rfl ?_
      refine z_goto B 65 rfl 77 (by decide) ?_
      refine z_sub [(0, .ref x0), (1, .int x1), (2, .int x2), (3, .long v9), (5, .int x5), (6, .int x6), (7, .int x7), (8, .int x8), (9, .int x9), (10, .int x10), (11, .int v10)] [2, 3, 4, 1, 5, 6, 7, 8, 9, 10, 0] rfl ?_
      exact ih _ _ _ _ _ _ _ _ _ _ _ o_x0  hf
def f5_worthOfFirst_l20 (mm : Mem) : Nat → Nat → Int32 → Int32 → Int64 → Int32 → Int32 → Int32 → Option Int64
  | 0, _, _, _, _, _, _, _ => none
  | n + 1, x0, x1, x2, x3, x5, x6, x7 => bd (f6_at mm (x0 + 4) x1) (fun r2 => if x7 < r2 then bd (f6_at mm (x0 + 5) ((x1 * (4 : Int32)) + x7)) (fun r3 => bd (f6_at mm (x0 + 6) ((x1 * (4 : Int32)) + x7)) (fun r4 => nm (mni x2 r3) (fun v5 => nm (x5 + (1 : Int32)) (fun v6 => f5_worthOfFirst_l77 (fun x0 x1 x2 x3 x5 x6 x7 => f5_worthOfFirst_l20 mm n x0 x1 x2 x3 x5 x6 x7) mm FU x0 x1 x2 x3 x5 x6 x7 r3 r4 v5 v6)))) else some (x3))
theorem f5_worthOfFirst_l20_ok {E : Ev} {l : Launch} {C : Cfg} {mm : Mem} {x : Int64} (hj : Dj C) (X : Ec E l C rmX5_worthOfFirst) (B : Bx E RX5 tbX5_worthOfFirst 12 (some .long)) (hQ : Rt E) (hr : Rs E (some (.long x)) mm) (n : Nat) : ∀ (x0 : Nat) (x1 : Int32) (x2 : Int32) (x3 : Int64) (x5 : Int32) (x6 : Int32) (x7 : Int32), Ob x0 5 → f5_worthOfFirst_l20 mm n x0 x1 x2 x3 x5 x6 x7 = some x → G E 12 20 [(0, .ref x0), (1, .int x1), (2, .int x2), (3, .long x3), (5, .int x5), (6, .int x6), (7, .int x7)] [] mm := by
  induction n with
  | zero =>
    intro x0 x1 x2 x3 x5 x6 x7 o_x0 hf
    rw [f5_worthOfFirst_l20] at hf
    cases hf
  | succ n ih =>
    intro x0 x1 x2 x3 x5 x6 x7 o_x0 hf
    rw [f5_worthOfFirst_l20] at hf
    refine z_iload B 13 rfl 6 rfl ?_
    refine z_aload_n B 14 rfl 0 0 rfl rfl ?_
    refine z_getr 5 4 x0 B 15 rfl o_x0 rfl (iX5_worthOfFirst _ (List.mem_of_getElem? (i := 2) rfl)) rfl ?_
    refine z_iload_n B 16 rfl 1 1 rfl rfl ?_
    obtain ⟨r2, ec, hf⟩ := bd_e hf
    refine z_callN [.ref (x0 + 4), .int x1] [.int x7] [.int r2, .int x7] X B 17 rfl miX6_at ⟨List.mem_of_getElem? (i := 8) rfl, (iX5_worthOfFirst _ (List.mem_of_getElem? (i := 1) rfl))⟩ (ctX6_at hj (obf_5_4 o_x0) ec) ⟨Nat.le_of_ble_eq_true rfl, Nat.le_of_ble_eq_true rfl⟩ rfl rfl (Nat.le_of_ble_eq_true rfl) rfl ?_
    by_cases hc : x7 < r2
    · replace hf := (if_pos hc).symm.trans hf
      refine z_icmp_ge_f B 18 rfl 129 (by decide) hc ?_
      refine z_aload_n B 19 rfl 0 0 rfl rfl ?_
      refine z_getr 5 5 x0 B 20 rfl o_x0 rfl (iX5_worthOfFirst _ (List.mem_of_getElem? (i := 3) rfl)) rfl ?_
      refine z_iload_n B 21 rfl 1 1 rfl rfl ?_
      refine z_iconst 4 B 22 rfl (by decide) ?_
      refine z_imul B 23 rfl ?_
      refine z_iload B 24 rfl 6 rfl ?_
      refine z_iadd B 25 rfl ?_
      obtain ⟨r3, ec, hf⟩ := bd_e hf
      refine z_callN [.ref (x0 + 5), .int ((x1 * (4 : Int32)) + x7)] [] [.int r3] X B 26 rfl miX6_at ⟨List.mem_of_getElem? (i := 8) rfl, (iX5_worthOfFirst _ (List.mem_of_getElem? (i := 1) rfl))⟩ (ctX6_at hj (obf_5_5 o_x0) ec) ⟨Nat.le_of_ble_eq_true rfl, Nat.le_of_ble_eq_true rfl⟩ rfl rfl (Nat.le_of_ble_eq_true rfl) rfl ?_
      refine z_istore [(8, .int r3), (0, .ref x0), (1, .int x1), (2, .int x2), (3, .long x3), (5, .int x5), (6, .int x6), (7, .int x7)] B 27 rfl (by decide) rfl ?_
      refine z_aload_n B 28 rfl 0 1 rfl rfl ?_
      refine z_getr 5 6 x0 B 29 rfl o_x0 rfl (iX5_worthOfFirst _ (List.mem_of_getElem? (i := 0) rfl)) rfl ?_
      refine z_iload_n B 30 rfl 1 2 rfl rfl ?_
      refine z_iconst 4 B 31 rfl (by decide) ?_
      refine z_imul B 32 rfl ?_
      refine z_iload B 33 rfl 7 rfl ?_
      refine z_iadd B 34 rfl ?_
      obtain ⟨r4, ec, hf⟩ := bd_e hf
      refine z_callN [.ref (x0 + 6), .int ((x1 * (4 : Int32)) + x7)] [] [.int r4] X B 35 rfl miX6_at ⟨List.mem_of_getElem? (i := 8) rfl, (iX5_worthOfFirst _ (List.mem_of_getElem? (i := 1) rfl))⟩ (ctX6_at hj (obf_5_6 o_x0) ec) ⟨Nat.le_of_ble_eq_true rfl, Nat.le_of_ble_eq_true rfl⟩ rfl rfl (Nat.le_of_ble_eq_true rfl) rfl ?_
      refine z_istore [(9, .int r4), (8, .int r3), (0, .ref x0), (1, .int x1), (2, .int x2), (3, .long x3), (5, .int x5), (6, .int x6), (7, .int x7)] B 36 rfl (by decide) rfl ?_
      refine z_iload_n B 37 rfl 2 4 rfl rfl ?_
      refine z_iload B 38 rfl 1 rfl ?_
      refine z_mmin X B 39 rfl ⟨(iX5_worthOfFirst _ (List.mem_of_getElem? (i := 4) rfl)), (iX5_worthOfFirst _ (List.mem_of_getElem? (i := 5) rfl)), (iX5_worthOfFirst _ (List.mem_of_getElem? (i := 6) rfl)), (iX5_worthOfFirst _ (List.mem_of_getElem? (i := 7) rfl))⟩ ⟨Nat.le_of_ble_eq_true rfl, Nat.le_of_ble_eq_true rfl⟩ (Nat.le_of_ble_eq_true rfl) ?_
      obtain ⟨v5, ex, hf⟩ := nm_x hf
      refine z_top ex ?_
      refine z_istore [(10, .int v5), (9, .int r4), (8, .int r3), (0, .ref x0), (1, .int x1), (2, .int x2), (3, .long x3), (5, .int x5), (6, .int x6), (7, .int x7)] B 40 rfl (by decide) rfl ?_
      refine z_iload B 41 rfl 7 rfl ?_
      refine z_iconst 1 B 42 rfl (by decide) ?_
      refine z_iadd B 43 rfl ?_
      obtain ⟨v6, ex, hf⟩ := nm_x hf
      refine z_top ex ?_
      refine z_istore [(11, .int v6), (10, .int v5), (9, .int r4), (8, .int r3), (0, .ref x0), (1, .int x1), (2, .int x2), (3, .long x3), (5, .int x5), (6, .int x6), (7, .int x7)] B 44 rfl (by decide) rfl ?_
      refine z_sub [(0, .ref x0), (1, .int x1), (2, .int x2), (3, .long x3), (5, .int x5), (6, .int x6), (7, .int x7), (8, .int r3), (9, .int r4), (10, .int v5), (11, .int v6)] [4, 5, 6, 7, 8, 9, 10, 3, 2, 1, 0] rfl ?_
      exact f5_worthOfFirst_l77_ok hj X B hQ hr ih FU _ _ _ _ _ _ _ _ _ _ _ o_x0  hf
    · replace hf := (if_neg hc).symm.trans hf
      refine z_icmp_ge_t B 18 rfl 129 (by decide) hc ?_
      refine z_lload_n B 72 rfl 3 3 rfl rfl ?_
      cases hf
      exact z_lret B 73 rfl hQ hr
def f5_worthOfFirst (mm : Mem) (a0 : Nat) (a1 : Int32) (a2 : Int32) : Option Int64 := bd (f6_at mm (a0 + 6) (a1 * (4 : Int32))) (fun r1 => f5_worthOfFirst_l20 mm FU a0 a1 a2 (0 : Int64) (0 : Int32) r1 (0 : Int32))
theorem ctX5_worthOfFirst {l : Launch} {C : Cfg} (hj : Dj C) {mm : Mem} {a0 : Nat} {a1 : Int32} {a2 : Int32} {x : Int64} (o_a0 : Ob a0 5) (hf : f5_worthOfFirst mm a0 a1 a2 = some x) : Ct l C yX5_worthOfFirst cX5_worthOfFirst 12 (some .long) 1 22 [.ref a0, .int a1, .int a2] mm (some (.long x)) mm := by
  refine Ct.of (tb := tbX5_worthOfFirst) hj miX5_worthOfFirst.2.1 miX5_worthOfFirst.1 dtX5_worthOfFirst (Nat.le_of_ble_eq_true rfl) ?_
  intro E B hQ hr X
  unfold f5_worthOfFirst at hf
  show G E 12 0 [(0, .ref a0), (1, .int a1), (2, .int a2)] [] mm
  refine z_lconst 0 B 0 rfl (by decide) ?_
  refine z_lstore_n [(3, .long (0 : Int64)), (0, .ref a0), (1, .int a1), (2, .int a2)] B 1 rfl 3 rfl (by decide) rfl ?_
  refine z_iconst 0 B 2 rfl (by decide) ?_
  refine z_istore [(5, .int (0 : Int32)), (3, .long (0 : Int64)), (0, .ref a0), (1, .int a1), (2, .int a2)] B 3 rfl (by decide) rfl ?_
  refine z_aload_n B 4 rfl 0 2 rfl rfl ?_
  refine z_getr 5 6 a0 B 5 rfl o_a0 rfl (iX5_worthOfFirst _ (List.mem_of_getElem? (i := 0) rfl)) rfl ?_
  refine z_iload_n B 6 rfl 1 3 rfl rfl ?_
  refine z_iconst 4 B 7 rfl (by decide) ?_
  refine z_imul B 8 rfl ?_
  obtain ⟨r1, ec, hf⟩ := bd_e hf
  refine z_callN [.ref (a0 + 6), .int (a1 * (4 : Int32))] [] [.int r1] X B 9 rfl miX6_at ⟨List.mem_of_getElem? (i := 8) rfl, (iX5_worthOfFirst _ (List.mem_of_getElem? (i := 1) rfl))⟩ (ctX6_at hj (obf_5_6 o_a0) ec) ⟨Nat.le_of_ble_eq_true rfl, Nat.le_of_ble_eq_true rfl⟩ rfl rfl (Nat.le_of_ble_eq_true rfl) rfl ?_
  refine z_istore [(6, .int r1), (5, .int (0 : Int32)), (3, .long (0 : Int64)), (0, .ref a0), (1, .int a1), (2, .int a2)] B 10 rfl (by decide) rfl ?_
  refine z_iconst 0 B 11 rfl (by decide) ?_
  refine z_istore [(7, .int (0 : Int32)), (6, .int r1), (5, .int (0 : Int32)), (3, .long (0 : Int64)), (0, .ref a0), (1, .int a1), (2, .int a2)] B 12 rfl (by decide) rfl ?_
  refine z_sub [(0, .ref a0), (1, .int a1), (2, .int a2), (3, .long (0 : Int64)), (5, .int (0 : Int32)), (6, .int r1), (7, .int (0 : Int32))] [4, 5, 6, 3, 2, 1, 0] rfl ?_
  exact f5_worthOfFirst_l20_ok hj X B hQ hr FU _ _ _ _ _ _ _ o_a0  hf
/-! ZoneCapacity$Auction.surplusOfAll()J -/
def tbX0_surplusOfAll : Tb := [(0, .lconst 0, 1, 1), (1, .lstore_n 1, 1, 2), (2, .iconst 0, 1, 3), (3, .istore_n 3, 1, 4), (4, .iload_n 3, 1, 5), (5, .aload_n 0, 1, 6), (6, .getfield 12, 3, 9), (9, .getfield 60, 3, 12), (12, .getfield 64, 3, 15), (15, .if_icmp .ge 31, 3, 18), (18, .lload_n 1, 1, 19), (19, .aload_n 0, 1, 20), (20, .getfield 12, 3, 23), (23, .getfield 60, 3, 26), (26, .iload_n 3, 1, 27), (27, .aload_n 0, 1, 28), (28, .getfield 25, 3, 31), (31, .iload_n 3, 1, 32), (32, .invokestatic 69, 3, 35), (35, .invokevirtual 140, 3, 38), (38, .ladd, 1, 39), (39, .lstore_n 1, 1, 40), (40, .iinc 3 1, 3, 43), (43, .goto (-39), 3, 46), (46, .iconst 0, 1, 47), (47, .istore_n 3, 1, 48), (48, .iload_n 3, 1, 49), (49, .aload_n 0, 1, 50), (50, .getfield 12, 3, 53), (53, .getfield 85, 3, 56), (56, .getfield 89, 3, 59), (59, .iconst 4, 1, 60), (60, .imul, 1, 61), (61, .if_icmp .ge 31, 3, 64), (64, .lload_n 1, 1, 65), (65, .aload_n 0, 1, 66), (66, .getfield 34, 3, 69), (69, .iload_n 3, 1, 70), (70, .invokestatic 69, 3, 73), (73, .i2l, 1, 74), (74, .aload_n 0, 1, 75), (75, .getfield 28, 3, 78), (78, .iload_n 3, 1, 79), (79, .invokestatic 69, 3, 82), (82, .i2l, 1, 83), (83, .lmul, 1, 84), (84, .lsub, 1, 85), (85, .lstore_n 1, 1, 86), (86, .iinc 3 1, 3, 89), (89, .goto (-41), 3, 92), (92, .lload_n 1, 1, 93), (93, .lreturn, 1, 94)]
theorem dtX0_surplusOfAll : ∀ q ∈ tbX0_surplusOfAll, decode cX0_surplusOfAll q.1 = .ok (q.2.1, q.2.2.1) ∧ q.1 + q.2.2.1 = q.2.2.2 := by decide +kernel
theorem miX0_surplusOfAll : MI yX0_surplusOfAll cX0_surplusOfAll 4 (some .long) 0 := ⟨tw_mem (List.mem_of_getElem? (i := 429) (by decide +kernel)) rfl, by decide, by decide +kernel, tw_mem (List.mem_of_getElem? (i := 15) (by decide +kernel)) rfl⟩
abbrev rmX0_surplusOfAll : Room := { frames := 2, cells := 0, slots := 0, locals := 53 }
def wX0_surplusOfAll : List Cond := [.fieldLink "ZoneCapacity$Auction" 12 "ZoneCapacity$Auction" "market" "LZoneCapacity$Market;", .fieldLink "ZoneCapacity$Auction" 60 "ZoneCapacity$Market" "zones" "LZoneCapacity$Zones;", .fieldLink "ZoneCapacity$Auction" 64 "ZoneCapacity$Zones" "many" "I", .fieldLink "ZoneCapacity$Auction" 85 "ZoneCapacity$Market" "offers" "LZoneCapacity$Offers;", .fieldLink "ZoneCapacity$Auction" 89 "ZoneCapacity$Offers" "many" "I", .fieldLink "ZoneCapacity$Auction" 34 "ZoneCapacity$Auction" "its" "[I", .static yX6_at, .fieldLink "ZoneCapacity$Auction" 28 "ZoneCapacity$Auction" "takenUnits" "[I", .fieldLink "ZoneCapacity$Auction" 25 "ZoneCapacity$Auction" "servedUnits" "[I", .methodLink "ZoneCapacity$Auction" 140 yX5_worthOfFirst, .instanceMethod yX5_worthOfFirst, .selects "ZoneCapacity$Zones" yX5_worthOfFirst yX5_worthOfFirst]
theorem iX0_surplusOfAll : ∀ w ∈ wX0_surplusOfAll, w ∈ TW := tw_of (ids := [160, 150, 69, 153, 106, 171, 272, 168, 166, 430, 431, 432]) (by decide +kernel)
def f0_surplusOfAll_l48 (mm : Mem) : Nat → Nat → Int64 → Int32 → Option Int64
  | 0, _, _, _ => none
  | n + 1, x0, x1, x3 => if x3 < ((mm (x0 + 1 + 8) 0) * (4 : Int32)) then bd (f6_at mm (x0 + 25) x3) (fun r1 => bd (f6_at mm (x0 + 23) x3) (fun r2 => nm (x1 - (r1.toInt64 * r2.toInt64)) (fun v3 => nm (x3 + 1) (fun v4 => f0_surplusOfAll_l48 mm n x0 v3 v4)))) else some (x1)
theorem f0_surplusOfAll_l48_ok {E : Ev} {l : Launch} {C : Cfg} {mm : Mem} {x : Int64} (hj : Dj C) (X : Ec E l C rmX0_surplusOfAll) (B : Bx E RX0 tbX0_surplusOfAll 4 (some .long)) (hQ : Rt E) (hr : Rs E (some (.long x)) mm) (n : Nat) : ∀ (x0 : Nat) (x1 : Int64) (x3 : Int32), Ob x0 0 → f0_surplusOfAll_l48 mm n x0 x1 x3 = some x → G E 4 48 [(0, .ref x0), (1, .long x1), (3, .int x3)] [] mm := by
  induction n with
  | zero =>
    intro x0 x1 x3 o_x0 hf
    rw [f0_surplusOfAll_l48] at hf
    cases hf
  | succ n ih =>
    intro x0 x1 x3 o_x0 hf
    rw [f0_surplusOfAll_l48] at hf
    refine z_iload_n B 26 rfl 3 2 rfl rfl ?_
    refine z_aload_n B 27 rfl 0 0 rfl rfl ?_
    refine z_getr 0 0 x0 B 28 rfl o_x0 rfl (iX0_surplusOfAll _ (List.mem_of_getElem? (i := 0) rfl)) rfl ?_
    refine z_getr 1 1 (x0 + 1) B 29 rfl (obf_0_0 o_x0) rfl (iX0_surplusOfAll _ (List.mem_of_getElem? (i := 3) rfl)) rfl ?_
    refine z_geti 2 0 (x0 + 1 + 8) B 30 rfl (obf_1_1 (obf_0_0 o_x0)) rfl (iX0_surplusOfAll _ (List.mem_of_getElem? (i := 4) rfl)) rfl ?_
    refine z_iconst 4 B 31 rfl (by decide) ?_
    refine z_imul B 32 rfl ?_
    by_cases hc : x3 < ((mm (x0 + 1 + 8) 0) * (4 : Int32))
    · replace hf := (if_pos hc).symm.trans hf
      refine z_icmp_ge_f B 33 rfl 92 (by decide) hc ?_
      refine z_lload_n B 34 rfl 1 1 rfl rfl ?_
      refine z_aload_n B 35 rfl 0 0 rfl rfl ?_
      refine z_getr 0 6 x0 B 36 rfl o_x0 rfl (iX0_surplusOfAll _ (List.mem_of_getElem? (i := 5) rfl)) rfl ?_
      refine z_iload_n B 37 rfl 3 2 rfl rfl ?_
      obtain ⟨r1, ec, hf⟩ := bd_e hf
      refine z_callN [.ref (x0 + 25), .int x3] [.long x1] [.int r1, .long x1] X B 38 rfl miX6_at ⟨List.mem_of_getElem? (i := 13) rfl, (iX0_surplusOfAll _ (List.mem_of_getElem? (i := 6) rfl))⟩ (ctX6_at hj (obf_0_6 o_x0) ec) ⟨Nat.le_of_ble_eq_true rfl, Nat.le_of_ble_eq_true rfl⟩ rfl rfl (Nat.le_of_ble_eq_true rfl) rfl ?_
      refine z_i2l B 39 rfl ?_
      refine z_aload_n B 40 rfl 0 0 rfl rfl ?_
      refine z_getr 0 4 x0 B 41 rfl o_x0 rfl (iX0_surplusOfAll _ (List.mem_of_getElem? (i := 7) rfl)) rfl ?_
      refine z_iload_n B 42 rfl 3 2 rfl rfl ?_
      obtain ⟨r2, ec, hf⟩ := bd_e hf
      refine z_callN [.ref (x0 + 23), .int x3] [.long r1.toInt64, .long x1] [.int r2, .long r1.toInt64, .long x1] X B 43 rfl miX6_at ⟨List.mem_of_getElem? (i := 13) rfl, (iX0_surplusOfAll _ (List.mem_of_getElem? (i := 6) rfl))⟩ (ctX6_at hj (obf_0_4 o_x0) ec) ⟨Nat.le_of_ble_eq_true rfl, Nat.le_of_ble_eq_true rfl⟩ rfl rfl (Nat.le_of_ble_eq_true rfl) rfl ?_
      refine z_i2l B 44 rfl ?_
      refine z_lmul B 45 rfl ?_
      refine z_lsub B 46 rfl ?_
      obtain ⟨v3, ex, hf⟩ := nm_x hf
      refine z_topl ex ?_
      refine z_lstore_n [(1, .long v3), (0, .ref x0), (3, .int x3)] B 47 rfl 1 rfl (by decide) rfl ?_
      obtain ⟨v4, ex, hf⟩ := nm_x hf
      refine z_iinc v4 [(3, .int v4), (1, .long v3), (0, .ref x0)] B 48 rfl 2 rfl (ex.symm) (by decide) rfl ?_
      refine z_goto B 49 rfl 48 (by decide) ?_
      refine z_sub [(0, .ref x0), (1, .long v3), (3, .int v4)] [2, 1, 0] rfl ?_
      exact ih _ _ _ o_x0  hf
    · replace hf := (if_neg hc).symm.trans hf
      refine z_icmp_ge_t B 33 rfl 92 (by decide) hc ?_
      refine z_lload_n B 50 rfl 1 1 rfl rfl ?_
      cases hf
      exact z_lret B 51 rfl hQ hr
def f0_surplusOfAll_l4 (mm : Mem) : Nat → Nat → Int64 → Int32 → Option Int64
  | 0, _, _, _ => none
  | n + 1, x0, x1, x3 => if x3 < (mm (x0 + 1 + 1) 0) then bd (f6_at mm (x0 + 22) x3) (fun r5 => bd (f5_worthOfFirst mm (x0 + 1 + 1) x3 r5) (fun r6 => nm (x1 + r6) (fun v7 => nm (x3 + 1) (fun v8 => f0_surplusOfAll_l4 mm n x0 v7 v8)))) else f0_surplusOfAll_l48 mm FU x0 x1 (0 : Int32)
theorem f0_surplusOfAll_l4_ok {E : Ev} {l : Launch} {C : Cfg} {mm : Mem} {x : Int64} (hj : Dj C) (X : Ec E l C rmX0_surplusOfAll) (B : Bx E RX0 tbX0_surplusOfAll 4 (some .long)) (hQ : Rt E) (hr : Rs E (some (.long x)) mm) (n : Nat) : ∀ (x0 : Nat) (x1 : Int64) (x3 : Int32), Ob x0 0 → f0_surplusOfAll_l4 mm n x0 x1 x3 = some x → G E 4 4 [(0, .ref x0), (1, .long x1), (3, .int x3)] [] mm := by
  induction n with
  | zero =>
    intro x0 x1 x3 o_x0 hf
    rw [f0_surplusOfAll_l4] at hf
    cases hf
  | succ n ih =>
    intro x0 x1 x3 o_x0 hf
    rw [f0_surplusOfAll_l4] at hf
    refine z_iload_n B 4 rfl 3 2 rfl rfl ?_
    refine z_aload_n B 5 rfl 0 0 rfl rfl ?_
    refine z_getr 0 0 x0 B 6 rfl o_x0 rfl (iX0_surplusOfAll _ (List.mem_of_getElem? (i := 0) rfl)) rfl ?_
    refine z_getr 1 0 (x0 + 1) B 7 rfl (obf_0_0 o_x0) rfl (iX0_surplusOfAll _ (List.mem_of_getElem? (i := 1) rfl)) rfl ?_
    refine z_geti 5 0 (x0 + 1 + 1) B 8 rfl (obf_1_0 (obf_0_0 o_x0)) rfl (iX0_surplusOfAll _ (List.mem_of_getElem? (i := 2) rfl)) rfl ?_
    by_cases hc : x3 < (mm (x0 + 1 + 1) 0)
    · replace hf := (if_pos hc).symm.trans hf
      refine z_icmp_ge_f B 9 rfl 46 (by decide) hc ?_
      refine z_lload_n B 10 rfl 1 1 rfl rfl ?_
      refine z_aload_n B 11 rfl 0 0 rfl rfl ?_
      refine z_getr 0 0 x0 B 12 rfl o_x0 rfl (iX0_surplusOfAll _ (List.mem_of_getElem? (i := 0) rfl)) rfl ?_
      refine z_getr 1 0 (x0 + 1) B 13 rfl (obf_0_0 o_x0) rfl (iX0_surplusOfAll _ (List.mem_of_getElem? (i := 1) rfl)) rfl ?_
      refine z_iload_n B 14 rfl 3 2 rfl rfl ?_
      refine z_aload_n B 15 rfl 0 0 rfl rfl ?_
      refine z_getr 0 3 x0 B 16 rfl o_x0 rfl (iX0_surplusOfAll _ (List.mem_of_getElem? (i := 8) rfl)) rfl ?_
      refine z_iload_n B 17 rfl 3 2 rfl rfl ?_
      obtain ⟨r5, ec, hf⟩ := bd_e hf
      refine z_callN [.ref (x0 + 22), .int x3] [.int x3, .ref (x0 + 1 + 1), .long x1] [.int r5, .int x3, .ref (x0 + 1 + 1), .long x1] X B 18 rfl miX6_at ⟨List.mem_of_getElem? (i := 13) rfl, (iX0_surplusOfAll _ (List.mem_of_getElem? (i := 6) rfl))⟩ (ctX6_at hj (obf_0_3 o_x0) ec) ⟨Nat.le_of_ble_eq_true rfl, Nat.le_of_ble_eq_true rfl⟩ rfl rfl (Nat.le_of_ble_eq_true rfl) rfl ?_
      obtain ⟨r6, ec, hf⟩ := bd_e hf
      refine z_callV (x0 + 1 + 1) 5 [.int x3, .int r5] [.long x1] [.long r6, .long x1] X B 19 rfl (by decide) (obf_1_0 (obf_0_0 o_x0)) rfl rfl miX5_worthOfFirst ⟨(iX0_surplusOfAll _ (List.mem_of_getElem? (i := 9) rfl)), (iX0_surplusOfAll _ (List.mem_of_getElem? (i := 10) rfl)), (iX0_surplusOfAll _ (List.mem_of_getElem? (i := 11) rfl))⟩ (ctX5_worthOfFirst hj (obf_1_0 (obf_0_0 o_x0)) ec) ⟨Nat.le_of_ble_eq_true rfl, Nat.le_of_ble_eq_true rfl⟩ rfl rfl (Nat.le_of_ble_eq_true rfl) rfl ?_
      refine z_ladd B 20 rfl ?_
      obtain ⟨v7, ex, hf⟩ := nm_x hf
      refine z_topl ex ?_
      refine z_lstore_n [(1, .long v7), (0, .ref x0), (3, .int x3)] B 21 rfl 1 rfl (by decide) rfl ?_
      obtain ⟨v8, ex, hf⟩ := nm_x hf
      refine z_iinc v8 [(3, .int v8), (1, .long v7), (0, .ref x0)] B 22 rfl 2 rfl (ex.symm) (by decide) rfl ?_
      refine z_goto B 23 rfl 4 (by decide) ?_
      refine z_sub [(0, .ref x0), (1, .long v7), (3, .int v8)] [2, 1, 0] rfl ?_
      exact ih _ _ _ o_x0  hf
    · replace hf := (if_neg hc).symm.trans hf
      refine z_icmp_ge_t B 9 rfl 46 (by decide) hc ?_
      refine z_iconst 0 B 24 rfl (by decide) ?_
      refine z_istore_n [(3, .int (0 : Int32)), (0, .ref x0), (1, .long x1)] B 25 rfl 3 rfl (by decide) rfl ?_
      refine z_sub [(0, .ref x0), (1, .long x1), (3, .int (0 : Int32))] [1, 2, 0] rfl ?_
      exact f0_surplusOfAll_l48_ok hj X B hQ hr FU _ _ _ o_x0  hf
def f0_surplusOfAll (mm : Mem) (a0 : Nat) : Option Int64 := f0_surplusOfAll_l4 mm FU a0 (0 : Int64) (0 : Int32)
theorem ctX0_surplusOfAll {l : Launch} {C : Cfg} (hj : Dj C) {mm : Mem} {a0 : Nat} {x : Int64} (o_a0 : Ob a0 0) (hf : f0_surplusOfAll mm a0 = some x) : Ct l C yX0_surplusOfAll cX0_surplusOfAll 4 (some .long) 2 53 [.ref a0] mm (some (.long x)) mm := by
  refine Ct.of (tb := tbX0_surplusOfAll) hj miX0_surplusOfAll.2.1 miX0_surplusOfAll.1 dtX0_surplusOfAll (Nat.le_of_ble_eq_true rfl) ?_
  intro E B hQ hr X
  unfold f0_surplusOfAll at hf
  show G E 4 0 [(0, .ref a0)] [] mm
  refine z_lconst 0 B 0 rfl (by decide) ?_
  refine z_lstore_n [(1, .long (0 : Int64)), (0, .ref a0)] B 1 rfl 1 rfl (by decide) rfl ?_
  refine z_iconst 0 B 2 rfl (by decide) ?_
  refine z_istore_n [(3, .int (0 : Int32)), (1, .long (0 : Int64)), (0, .ref a0)] B 3 rfl 3 rfl (by decide) rfl ?_
  refine z_sub [(0, .ref a0), (1, .long (0 : Int64)), (3, .int (0 : Int32))] [2, 1, 0] rfl ?_
  exact f0_surplusOfAll_l4_ok hj X B hQ hr FU _ _ _ o_a0  hf
/-! ZoneCapacity$Auction.rentOf(I)J -/
def tbX0_rentOf : Tb := [(0, .aload_n 0, 1, 1), (1, .getfield 12, 3, 4), (4, .getfield 60, 3, 7), (7, .getfield 118, 3, 10), (10, .iload_n 1, 1, 11), (11, .invokestatic 69, 3, 14), (14, .istore_n 2, 1, 15), (15, .aload_n 0, 1, 16), (16, .getfield 22, 3, 19), (19, .iload_n 1, 1, 20), (20, .invokestatic 69, 3, 23), (23, .i2l, 1, 24), (24, .aload_n 0, 1, 25), (25, .getfield 18, 3, 28), (28, .iload_n 2, 1, 29), (29, .invokestatic 69, 3, 32), (32, .aload_n 0, 1, 33), (33, .getfield 18, 3, 36), (36, .iload_n 1, 1, 37), (37, .invokestatic 69, 3, 40), (40, .isub, 1, 41), (41, .i2l, 1, 42), (42, .lmul, 1, 43), (43, .lreturn, 1, 44)]
theorem dtX0_rentOf : ∀ q ∈ tbX0_rentOf, decode cX0_rentOf q.1 = .ok (q.2.1, q.2.2.1) ∧ q.1 + q.2.2.1 = q.2.2.2 := by decide +kernel
theorem miX0_rentOf : MI yX0_rentOf cX0_rentOf 3 (some .long) 1 := ⟨tw_mem (List.mem_of_getElem? (i := 1013) (by decide +kernel)) rfl, by decide, by decide +kernel, tw_mem (List.mem_of_getElem? (i := 15) (by decide +kernel)) rfl⟩
abbrev rmX0_rentOf : Room := { frames := 1, cells := 0, slots := 0, locals := 21 }
def wX0_rentOf : List Cond := [.fieldLink "ZoneCapacity$Auction" 12 "ZoneCapacity$Auction" "market" "LZoneCapacity$Market;", .fieldLink "ZoneCapacity$Auction" 60 "ZoneCapacity$Market" "zones" "LZoneCapacity$Zones;", .fieldLink "ZoneCapacity$Auction" 118 "ZoneCapacity$Zones" "outer" "[I", .static yX6_at, .fieldLink "ZoneCapacity$Auction" 22 "ZoneCapacity$Auction" "nets" "[I", .fieldLink "ZoneCapacity$Auction" 18 "ZoneCapacity$Auction" "prices" "[I"]
theorem iX0_rentOf : ∀ w ∈ wX0_rentOf, w ∈ TW := tw_of (ids := [160, 150, 72, 272, 164, 162]) (by decide +kernel)
def f0_rentOf (mm : Mem) (a0 : Nat) (a1 : Int32) : Option Int64 := bd (f6_at mm (a0 + 1 + 1 + 1) a1) (fun r1 => bd (f6_at mm (a0 + 21) a1) (fun r2 => bd (f6_at mm (a0 + 20) r1) (fun r3 => bd (f6_at mm (a0 + 20) a1) (fun r4 => some (r2.toInt64 * ((r3 - r4).toInt64))))))
theorem ctX0_rentOf {l : Launch} {C : Cfg} (hj : Dj C) {mm : Mem} {a0 : Nat} {a1 : Int32} {x : Int64} (o_a0 : Ob a0 0) (hf : f0_rentOf mm a0 a1 = some x) : Ct l C yX0_rentOf cX0_rentOf 3 (some .long) 1 21 [.ref a0, .int a1] mm (some (.long x)) mm := by
  refine Ct.of (tb := tbX0_rentOf) hj miX0_rentOf.2.1 miX0_rentOf.1 dtX0_rentOf (Nat.le_of_ble_eq_true rfl) ?_
  intro E B hQ hr X
  unfold f0_rentOf at hf
  show G E 3 0 [(0, .ref a0), (1, .int a1)] [] mm
  refine z_aload_n B 0 rfl 0 0 rfl rfl ?_
  refine z_getr 0 0 a0 B 1 rfl o_a0 rfl (iX0_rentOf _ (List.mem_of_getElem? (i := 0) rfl)) rfl ?_
  refine z_getr 1 0 (a0 + 1) B 2 rfl (obf_0_0 o_a0) rfl (iX0_rentOf _ (List.mem_of_getElem? (i := 1) rfl)) rfl ?_
  refine z_getr 5 1 (a0 + 1 + 1) B 3 rfl (obf_1_0 (obf_0_0 o_a0)) rfl (iX0_rentOf _ (List.mem_of_getElem? (i := 2) rfl)) rfl ?_
  refine z_iload_n B 4 rfl 1 1 rfl rfl ?_
  obtain ⟨r1, ec, hf⟩ := bd_e hf
  refine z_callN [.ref (a0 + 1 + 1 + 1), .int a1] [] [.int r1] X B 5 rfl miX6_at ⟨List.mem_of_getElem? (i := 13) rfl, (iX0_rentOf _ (List.mem_of_getElem? (i := 3) rfl))⟩ (ctX6_at hj (obf_5_1 (obf_1_0 (obf_0_0 o_a0))) ec) ⟨Nat.le_of_ble_eq_true rfl, Nat.le_of_ble_eq_true rfl⟩ rfl rfl (Nat.le_of_ble_eq_true rfl) rfl ?_
  refine z_istore_n [(2, .int r1), (0, .ref a0), (1, .int a1)] B 6 rfl 2 rfl (by decide) rfl ?_
  refine z_aload_n B 7 rfl 0 1 rfl rfl ?_
  refine z_getr 0 2 a0 B 8 rfl o_a0 rfl (iX0_rentOf _ (List.mem_of_getElem? (i := 4) rfl)) rfl ?_
  refine z_iload_n B 9 rfl 1 2 rfl rfl ?_
  obtain ⟨r2, ec, hf⟩ := bd_e hf
  refine z_callN [.ref (a0 + 21), .int a1] [] [.int r2] X B 10 rfl miX6_at ⟨List.mem_of_getElem? (i := 13) rfl, (iX0_rentOf _ (List.mem_of_getElem? (i := 3) rfl))⟩ (ctX6_at hj (obf_0_2 o_a0) ec) ⟨Nat.le_of_ble_eq_true rfl, Nat.le_of_ble_eq_true rfl⟩ rfl rfl (Nat.le_of_ble_eq_true rfl) rfl ?_
  refine z_i2l B 11 rfl ?_
  refine z_aload_n B 12 rfl 0 1 rfl rfl ?_
  refine z_getr 0 1 a0 B 13 rfl o_a0 rfl (iX0_rentOf _ (List.mem_of_getElem? (i := 5) rfl)) rfl ?_
  refine z_iload_n B 14 rfl 2 0 rfl rfl ?_
  obtain ⟨r3, ec, hf⟩ := bd_e hf
  refine z_callN [.ref (a0 + 20), .int r1] [.long r2.toInt64] [.int r3, .long r2.toInt64] X B 15 rfl miX6_at ⟨List.mem_of_getElem? (i := 13) rfl, (iX0_rentOf _ (List.mem_of_getElem? (i := 3) rfl))⟩ (ctX6_at hj (obf_0_1 o_a0) ec) ⟨Nat.le_of_ble_eq_true rfl, Nat.le_of_ble_eq_true rfl⟩ rfl rfl (Nat.le_of_ble_eq_true rfl) rfl ?_
  refine z_aload_n B 16 rfl 0 1 rfl rfl ?_
  refine z_getr 0 1 a0 B 17 rfl o_a0 rfl (iX0_rentOf _ (List.mem_of_getElem? (i := 5) rfl)) rfl ?_
  refine z_iload_n B 18 rfl 1 2 rfl rfl ?_
  obtain ⟨r4, ec, hf⟩ := bd_e hf
  refine z_callN [.ref (a0 + 20), .int a1] [.int r3, .long r2.toInt64] [.int r4, .int r3, .long r2.toInt64] X B 19 rfl miX6_at ⟨List.mem_of_getElem? (i := 13) rfl, (iX0_rentOf _ (List.mem_of_getElem? (i := 3) rfl))⟩ (ctX6_at hj (obf_0_1 o_a0) ec) ⟨Nat.le_of_ble_eq_true rfl, Nat.le_of_ble_eq_true rfl⟩ rfl rfl (Nat.le_of_ble_eq_true rfl) rfl ?_
  refine z_isub B 20 rfl ?_
  refine z_i2l B 21 rfl ?_
  refine z_lmul B 22 rfl ?_
  cases hf
  exact z_lret B 23 rfl hQ hr
/-! ZoneCapacity$Auction.paidTo(I)J -/
def tbX0_paidTo : Tb := [(0, .aload_n 0, 1, 1), (1, .getfield 18, 3, 4), (4, .aload_n 0, 1, 5), (5, .getfield 12, 3, 8), (8, .getfield 85, 3, 11), (11, .getfield 113, 3, 14), (14, .iload_n 1, 1, 15), (15, .invokestatic 69, 3, 18), (18, .invokestatic 69, 3, 21), (21, .i2l, 1, 22), (22, .aload_n 0, 1, 23), (23, .iload_n 1, 1, 24), (24, .invokevirtual 144, 3, 27), (27, .i2l, 1, 28), (28, .lmul, 1, 29), (29, .lreturn, 1, 30)]
theorem dtX0_paidTo : ∀ q ∈ tbX0_paidTo, decode cX0_paidTo q.1 = .ok (q.2.1, q.2.2.1) ∧ q.1 + q.2.2.1 = q.2.2.2 := by decide +kernel
theorem miX0_paidTo : MI yX0_paidTo cX0_paidTo 2 (some .long) 1 := ⟨tw_mem (List.mem_of_getElem? (i := 1029) (by decide +kernel)) rfl, by decide, by decide +kernel, tw_mem (List.mem_of_getElem? (i := 15) (by decide +kernel)) rfl⟩
abbrev rmX0_paidTo : Room := { frames := 2, cells := 0, slots := 0, locals := 44 }
def wX0_paidTo : List Cond := [.fieldLink "ZoneCapacity$Auction" 18 "ZoneCapacity$Auction" "prices" "[I", .fieldLink "ZoneCapacity$Auction" 12 "ZoneCapacity$Auction" "market" "LZoneCapacity$Market;", .fieldLink "ZoneCapacity$Auction" 85 "ZoneCapacity$Market" "offers" "LZoneCapacity$Offers;", .fieldLink "ZoneCapacity$Auction" 113 "ZoneCapacity$Offers" "zones" "[I", .static yX6_at, .methodLink "ZoneCapacity$Auction" 144 yX0_takenOf, .instanceMethod yX0_takenOf, .selects "ZoneCapacity$Auction" yX0_takenOf yX0_takenOf]
theorem iX0_paidTo : ∀ w ∈ wX0_paidTo, w ∈ TW := tw_of (ids := [162, 160, 153, 112, 272, 1030, 412, 413]) (by decide +kernel)
def f0_paidTo (mm : Mem) (a0 : Nat) (a1 : Int32) : Option Int64 := bd (f6_at mm (a0 + 1 + 8 + 2) a1) (fun r1 => bd (f6_at mm (a0 + 20) r1) (fun r2 => bd (f0_takenOf mm a0 a1) (fun r3 => some (r2.toInt64 * r3.toInt64))))
theorem ctX0_paidTo {l : Launch} {C : Cfg} (hj : Dj C) {mm : Mem} {a0 : Nat} {a1 : Int32} {x : Int64} (o_a0 : Ob a0 0) (hf : f0_paidTo mm a0 a1 = some x) : Ct l C yX0_paidTo cX0_paidTo 2 (some .long) 2 44 [.ref a0, .int a1] mm (some (.long x)) mm := by
  refine Ct.of (tb := tbX0_paidTo) hj miX0_paidTo.2.1 miX0_paidTo.1 dtX0_paidTo (Nat.le_of_ble_eq_true rfl) ?_
  intro E B hQ hr X
  unfold f0_paidTo at hf
  show G E 2 0 [(0, .ref a0), (1, .int a1)] [] mm
  refine z_aload_n B 0 rfl 0 0 rfl rfl ?_
  refine z_getr 0 1 a0 B 1 rfl o_a0 rfl (iX0_paidTo _ (List.mem_of_getElem? (i := 0) rfl)) rfl ?_
  refine z_aload_n B 2 rfl 0 0 rfl rfl ?_
  refine z_getr 0 0 a0 B 3 rfl o_a0 rfl (iX0_paidTo _ (List.mem_of_getElem? (i := 1) rfl)) rfl ?_
  refine z_getr 1 1 (a0 + 1) B 4 rfl (obf_0_0 o_a0) rfl (iX0_paidTo _ (List.mem_of_getElem? (i := 2) rfl)) rfl ?_
  refine z_getr 2 3 (a0 + 1 + 8) B 5 rfl (obf_1_1 (obf_0_0 o_a0)) rfl (iX0_paidTo _ (List.mem_of_getElem? (i := 3) rfl)) rfl ?_
  refine z_iload_n B 6 rfl 1 1 rfl rfl ?_
  obtain ⟨r1, ec, hf⟩ := bd_e hf
  refine z_callN [.ref (a0 + 1 + 8 + 2), .int a1] [.ref (a0 + 20)] [.int r1, .ref (a0 + 20)] X B 7 rfl miX6_at ⟨List.mem_of_getElem? (i := 13) rfl, (iX0_paidTo _ (List.mem_of_getElem? (i := 4) rfl))⟩ (ctX6_at hj (obf_2_3 (obf_1_1 (obf_0_0 o_a0))) ec) ⟨Nat.le_of_ble_eq_true rfl, Nat.le_of_ble_eq_true rfl⟩ rfl rfl (Nat.le_of_ble_eq_true rfl) rfl ?_
  obtain ⟨r2, ec, hf⟩ := bd_e hf
  refine z_callN [.ref (a0 + 20), .int r1] [] [.int r2] X B 8 rfl miX6_at ⟨List.mem_of_getElem? (i := 13) rfl, (iX0_paidTo _ (List.mem_of_getElem? (i := 4) rfl))⟩ (ctX6_at hj (obf_0_1 o_a0) ec) ⟨Nat.le_of_ble_eq_true rfl, Nat.le_of_ble_eq_true rfl⟩ rfl rfl (Nat.le_of_ble_eq_true rfl) rfl ?_
  refine z_i2l B 9 rfl ?_
  refine z_aload_n B 10 rfl 0 0 rfl rfl ?_
  refine z_iload_n B 11 rfl 1 1 rfl rfl ?_
  obtain ⟨r3, ec, hf⟩ := bd_e hf
  refine z_callV a0 0 [.int a1] [.long r2.toInt64] [.int r3, .long r2.toInt64] X B 12 rfl (by decide) o_a0 rfl rfl miX0_takenOf ⟨(iX0_paidTo _ (List.mem_of_getElem? (i := 5) rfl)), (iX0_paidTo _ (List.mem_of_getElem? (i := 6) rfl)), (iX0_paidTo _ (List.mem_of_getElem? (i := 7) rfl))⟩ (ctX0_takenOf hj o_a0 ec) ⟨Nat.le_of_ble_eq_true rfl, Nat.le_of_ble_eq_true rfl⟩ rfl rfl (Nat.le_of_ble_eq_true rfl) rfl ?_
  refine z_i2l B 13 rfl ?_
  refine z_lmul B 14 rfl ?_
  cases hf
  exact z_lret B 15 rfl hQ hr
/-! ZoneCapacity$Auction.paidToOwner(I)J -/
def tbX0_paidToOwner : Tb := [(0, .aload_n 0, 1, 1), (1, .getfield 12, 3, 4), (4, .getfield 85, 3, 7), (7, .astore_n 2, 1, 8), (8, .lconst 0, 1, 9), (9, .lstore_n 3, 1, 10), (10, .iconst 0, 1, 11), (11, .istore 5, 2, 13), (13, .iload 5, 2, 15), (15, .aload_n 2, 1, 16), (16, .getfield 89, 3, 19), (19, .if_icmp .ge 31, 3, 22), (22, .aload_n 2, 1, 23), (23, .getfield 147, 3, 26), (26, .iload 5, 2, 28), (28, .invokestatic 69, 3, 31), (31, .iload_n 1, 1, 32), (32, .if_icmp .ne 12, 3, 35), (35, .lload_n 3, 1, 36), (36, .aload_n 0, 1, 37), (37, .iload 5, 2, 39), (39, .invokevirtual 150, 3, 42), (42, .ladd, 1, 43), (43, .lstore_n 3, 1, 44), (44, .iinc 5 1, 3, 47), (47, .goto (-34), 3, 50), (50, .lload_n 3, 1, 51), (51, .lreturn, 1, 52)]
theorem dtX0_paidToOwner : ∀ q ∈ tbX0_paidToOwner, decode cX0_paidToOwner q.1 = .ok (q.2.1, q.2.2.1) ∧ q.1 + q.2.2.1 = q.2.2.2 := by decide +kernel
theorem miX0_paidToOwner : MI yX0_paidToOwner cX0_paidToOwner 6 (some .long) 1 := ⟨tw_mem (List.mem_of_getElem? (i := 1034) (by decide +kernel)) rfl, by decide, by decide +kernel, tw_mem (List.mem_of_getElem? (i := 15) (by decide +kernel)) rfl⟩
abbrev rmX0_paidToOwner : Room := { frames := 3, cells := 0, slots := 0, locals := 65 }
def wX0_paidToOwner : List Cond := [.fieldLink "ZoneCapacity$Auction" 12 "ZoneCapacity$Auction" "market" "LZoneCapacity$Market;", .fieldLink "ZoneCapacity$Auction" 85 "ZoneCapacity$Market" "offers" "LZoneCapacity$Offers;", .fieldLink "ZoneCapacity$Auction" 89 "ZoneCapacity$Offers" "many" "I", .fieldLink "ZoneCapacity$Auction" 147 "ZoneCapacity$Offers" "owners" "[I", .static yX6_at, .methodLink "ZoneCapacity$Auction" 150 yX0_paidTo, .instanceMethod yX0_paidTo, .selects "ZoneCapacity$Auction" yX0_paidTo yX0_paidTo]
theorem iX0_paidToOwner : ∀ w ∈ wX0_paidToOwner, w ∈ TW := tw_of (ids := [160, 153, 106, 116, 272, 1035, 1027, 1028]) (by decide +kernel)
def f0_paidToOwner_j44 (k13 : Nat → Int32 → Nat → Int64 → Int32 → Option Int64) (mm : Mem) (x0 : Nat) (x1 : Int32) (x2 : Nat) (x3 : Int64) (x5 : Int32) : Option Int64 := nm (x5 + 1) (fun v2 => k13 x0 x1 x2 x3 v2)
theorem f0_paidToOwner_j44_ok {E : Ev} {l : Launch} {C : Cfg} {mm : Mem} {x : Int64} {k13 : Nat → Int32 → Nat → Int64 → Int32 → Option Int64} (hj : Dj C) (X : Ec E l C rmX0_paidToOwner) (B : Bx E RX0 tbX0_paidToOwner 6 (some .long)) (hQ : Rt E) (hr : Rs E (some (.long x)) mm) (hk13 : ∀ (x0 : Nat) (x1 : Int32) (x2 : Nat) (x3 : Int64) (x5 : Int32), Ob x0 0 → Ob x2 2 → k13 x0 x1 x2 x3 x5 = some x → G E 6 13 [(0, .ref x0), (1, .int x1), (2, .ref x2), (3, .long x3), (5, .int x5)] [] mm) (x0 : Nat) (x1 : Int32) (x2 : Nat) (x3 : Int64) (x5 : Int32) (o_x0 : Ob x0 0) (o_x2 : Ob x2 2) (hf : f0_paidToOwner_j44 k13 mm x0 x1 x2 x3 x5 = some x) : G E 6 44 [(0, .ref x0), (1, .int x1), (2, .ref x2), (3, .long x3), (5, .int x5)] [] mm := by
  unfold f0_paidToOwner_j44 at hf
  obtain ⟨v2, ex, hf⟩ := nm_x hf
  refine z_iinc v2 [(5, .int v2), (0, .ref x0), (1, .int x1), (2, .ref x2), (3, .long x3)] B 24 rfl 4 rfl (ex.symm) (by decide) rfl ?_
  refine z_goto B 25 rfl 13 (by decide) ?_
  refine z_sub [(0, .ref x0), (1, .int x1), (2, .ref x2), (3, .long x3), (5, .int v2)] [1, 2, 3, 4, 0] rfl ?_
  exact hk13 _ _ _ _ _ o_x0 o_x2  hf
def f0_paidToOwner_l13 (mm : Mem) : Nat → Nat → Int32 → Nat → Int64 → Int32 → Option Int64
  | 0, _, _, _, _, _ => none
  | n + 1, x0, x1, x2, x3, x5 => if x5 < (mm x2 0) then bd (f6_at mm (x2 + 5) x5) (fun r1 => if r1 = x1 then bd (f0_paidTo mm x0 x5) (fun r3 => nm (x3 + r3) (fun v4 => f0_paidToOwner_j44 (fun x0 x1 x2 x3 x5 => f0_paidToOwner_l13 mm n x0 x1 x2 x3 x5) mm x0 x1 x2 v4 x5)) else f0_paidToOwner_j44 (fun x0 x1 x2 x3 x5 => f0_paidToOwner_l13 mm n x0 x1 x2 x3 x5) mm x0 x1 x2 x3 x5) else some (x3)
theorem f0_paidToOwner_l13_ok {E : Ev} {l : Launch} {C : Cfg} {mm : Mem} {x : Int64} (hj : Dj C) (X : Ec E l C rmX0_paidToOwner) (B : Bx E RX0 tbX0_paidToOwner 6 (some .long)) (hQ : Rt E) (hr : Rs E (some (.long x)) mm) (n : Nat) : ∀ (x0 : Nat) (x1 : Int32) (x2 : Nat) (x3 : Int64) (x5 : Int32), Ob x0 0 → Ob x2 2 → f0_paidToOwner_l13 mm n x0 x1 x2 x3 x5 = some x → G E 6 13 [(0, .ref x0), (1, .int x1), (2, .ref x2), (3, .long x3), (5, .int x5)] [] mm := by
  induction n with
  | zero =>
    intro x0 x1 x2 x3 x5 o_x0 o_x2 hf
    rw [f0_paidToOwner_l13] at hf
    cases hf
  | succ n ih =>
    intro x0 x1 x2 x3 x5 o_x0 o_x2 hf
    rw [f0_paidToOwner_l13] at hf
    refine z_iload B 8 rfl 4 rfl ?_
    refine z_aload_n B 9 rfl 2 2 rfl rfl ?_
    refine z_geti 2 0 x2 B 10 rfl o_x2 rfl (iX0_paidToOwner _ (List.mem_of_getElem? (i := 2) rfl)) rfl ?_
    by_cases hc : x5 < (mm x2 0)
    · replace hf := (if_pos hc).symm.trans hf
      refine z_icmp_ge_f B 11 rfl 50 (by decide) hc ?_
      refine z_aload_n B 12 rfl 2 2 rfl rfl ?_
      refine z_getr 2 6 x2 B 13 rfl o_x2 rfl (iX0_paidToOwner _ (List.mem_of_getElem? (i := 3) rfl)) rfl ?_
      refine z_iload B 14 rfl 4 rfl ?_
      obtain ⟨r1, ec, hf⟩ := bd_e hf
      refine z_callN [.ref (x2 + 5), .int x5] [] [.int r1] X B 15 rfl miX6_at ⟨List.mem_of_getElem? (i := 13) rfl, (iX0_paidToOwner _ (List.mem_of_getElem? (i := 4) rfl))⟩ (ctX6_at hj (obf_2_6 o_x2) ec) ⟨Nat.le_of_ble_eq_true rfl, Nat.le_of_ble_eq_true rfl⟩ rfl rfl (Nat.le_of_ble_eq_true rfl) rfl ?_
      refine z_iload_n B 16 rfl 1 1 rfl rfl ?_
      by_cases hc : r1 = x1
      · replace hf := (if_pos hc).symm.trans hf
        refine z_icmp_ne_f B 17 rfl 44 (by decide) hc ?_
        refine z_lload_n B 18 rfl 3 3 rfl rfl ?_
        refine z_aload_n B 19 rfl 0 0 rfl rfl ?_
        refine z_iload B 20 rfl 4 rfl ?_
        obtain ⟨r3, ec, hf⟩ := bd_e hf
        refine z_callV x0 0 [.int x5] [.long x3] [.long r3, .long x3] X B 21 rfl (by decide) o_x0 rfl rfl miX0_paidTo ⟨(iX0_paidToOwner _ (List.mem_of_getElem? (i := 5) rfl)), (iX0_paidToOwner _ (List.mem_of_getElem? (i := 6) rfl)), (iX0_paidToOwner _ (List.mem_of_getElem? (i := 7) rfl))⟩ (ctX0_paidTo hj o_x0 ec) ⟨Nat.le_of_ble_eq_true rfl, Nat.le_of_ble_eq_true rfl⟩ rfl rfl (Nat.le_of_ble_eq_true rfl) rfl ?_
        refine z_ladd B 22 rfl ?_
        obtain ⟨v4, ex, hf⟩ := nm_x hf
        refine z_topl ex ?_
        refine z_lstore_n [(3, .long v4), (0, .ref x0), (1, .int x1), (2, .ref x2), (5, .int x5)] B 23 rfl 3 rfl (by decide) rfl ?_
        refine z_sub [(0, .ref x0), (1, .int x1), (2, .ref x2), (3, .long v4), (5, .int x5)] [1, 2, 3, 0, 4] rfl ?_
        exact f0_paidToOwner_j44_ok hj X B hQ hr ih _ _ _ _ _ o_x0 o_x2  hf
      · replace hf := (if_neg hc).symm.trans hf
        refine z_icmp_ne_t B 17 rfl 44 (by decide) hc ?_
        exact f0_paidToOwner_j44_ok hj X B hQ hr ih _ _ _ _ _ o_x0 o_x2  hf
    · replace hf := (if_neg hc).symm.trans hf
      refine z_icmp_ge_t B 11 rfl 50 (by decide) hc ?_
      refine z_lload_n B 26 rfl 3 3 rfl rfl ?_
      cases hf
      exact z_lret B 27 rfl hQ hr
def f0_paidToOwner (mm : Mem) (a0 : Nat) (a1 : Int32) : Option Int64 := f0_paidToOwner_l13 mm FU a0 a1 (a0 + 1 + 8) (0 : Int64) (0 : Int32)
theorem ctX0_paidToOwner {l : Launch} {C : Cfg} (hj : Dj C) {mm : Mem} {a0 : Nat} {a1 : Int32} {x : Int64} (o_a0 : Ob a0 0) (hf : f0_paidToOwner mm a0 a1 = some x) : Ct l C yX0_paidToOwner cX0_paidToOwner 6 (some .long) 3 65 [.ref a0, .int a1] mm (some (.long x)) mm := by
  refine Ct.of (tb := tbX0_paidToOwner) hj miX0_paidToOwner.2.1 miX0_paidToOwner.1 dtX0_paidToOwner (Nat.le_of_ble_eq_true rfl) ?_
  intro E B hQ hr X
  unfold f0_paidToOwner at hf
  show G E 6 0 [(0, .ref a0), (1, .int a1)] [] mm
  refine z_aload_n B 0 rfl 0 0 rfl rfl ?_
  refine z_getr 0 0 a0 B 1 rfl o_a0 rfl (iX0_paidToOwner _ (List.mem_of_getElem? (i := 0) rfl)) rfl ?_
  refine z_getr 1 1 (a0 + 1) B 2 rfl (obf_0_0 o_a0) rfl (iX0_paidToOwner _ (List.mem_of_getElem? (i := 1) rfl)) rfl ?_
  refine z_astore_n [(2, .ref (a0 + 1 + 8)), (0, .ref a0), (1, .int a1)] B 3 rfl 2 rfl (by decide) rfl ?_
  refine z_lconst 0 B 4 rfl (by decide) ?_
  refine z_lstore_n [(3, .long (0 : Int64)), (2, .ref (a0 + 1 + 8)), (0, .ref a0), (1, .int a1)] B 5 rfl 3 rfl (by decide) rfl ?_
  refine z_iconst 0 B 6 rfl (by decide) ?_
  refine z_istore [(5, .int (0 : Int32)), (3, .long (0 : Int64)), (2, .ref (a0 + 1 + 8)), (0, .ref a0), (1, .int a1)] B 7 rfl (by decide) rfl ?_
  refine z_sub [(0, .ref a0), (1, .int a1), (2, .ref (a0 + 1 + 8)), (3, .long (0 : Int64)), (5, .int (0 : Int32))] [3, 4, 2, 1, 0] rfl ?_
  exact f0_paidToOwner_l13_ok hj X B hQ hr FU _ _ _ _ _ o_a0 (obf_1_1 (obf_0_0 o_a0))  hf
/-! ZoneCapacity$Offers.has(I)Z -/
def tbX2_has : Tb := [(0, .iload_n 1, 1, 1), (1, .ifCond .lt 15, 3, 4), (4, .iload_n 1, 1, 5), (5, .aload_n 0, 1, 6), (6, .getfield 46, 3, 9), (9, .if_icmp .ge 7, 3, 12), (12, .iconst 1, 1, 13), (13, .goto 4, 3, 16), (16, .iconst 0, 1, 17), (17, .ireturn, 1, 18)]
theorem dtX2_has : ∀ q ∈ tbX2_has, decode cX2_has q.1 = .ok (q.2.1, q.2.2.1) ∧ q.1 + q.2.2.1 = q.2.2.2 := by decide +kernel
theorem miX2_has : MI yX2_has cX2_has 2 (some .boolean) 1 := ⟨tw_mem (List.mem_of_getElem? (i := 300) (by decide +kernel)) rfl, by decide, by decide +kernel, tw_mem (List.mem_of_getElem? (i := 18) (by decide +kernel)) rfl⟩
abbrev rmX2_has : Room := { frames := 0, cells := 0, slots := 0, locals := 0 }
def wX2_has : List Cond := [.fieldLink "ZoneCapacity$Offers" 46 "ZoneCapacity$Offers" "many" "I"]
theorem iX2_has : ∀ w ∈ wX2_has, w ∈ TW := tw_of (ids := [105]) (by decide +kernel)
def f2_has (mm : Mem) (a0 : Nat) (a1 : Int32) : Option Int32 := if a1 < 0 then some ((0 : Int32)) else if a1 < (mm a0 0) then some ((1 : Int32)) else some ((0 : Int32))
theorem ctX2_has {l : Launch} {C : Cfg} (hj : Dj C) {mm : Mem} {a0 : Nat} {a1 : Int32} {x : Int32} (o_a0 : Ob a0 2) (hf : f2_has mm a0 a1 = some x) : Ct l C yX2_has cX2_has 2 (some .boolean) 0 0 [.ref a0, .int a1] mm (some (.int x)) mm := by
  refine Ct.of (tb := tbX2_has) hj miX2_has.2.1 miX2_has.1 dtX2_has (Nat.le_of_ble_eq_true rfl) ?_
  intro E B hQ hr X
  unfold f2_has at hf
  show G E 2 0 [(0, .ref a0), (1, .int a1)] [] mm
  refine z_iload_n B 0 rfl 1 1 rfl rfl ?_
  by_cases hc : a1 < 0
  · replace hf := (if_pos hc).symm.trans hf
    refine z_if_lt_t B 1 rfl 16 (by decide) hc ?_
    refine z_iconst 0 B 8 rfl (by decide) ?_
    cases hf
    exact z_iret B 9 rfl (by decide) hQ hr
  · replace hf := (if_neg hc).symm.trans hf
    refine z_if_lt_f B 1 rfl 16 (by decide) hc ?_
    refine z_iload_n B 2 rfl 1 1 rfl rfl ?_
    refine z_aload_n B 3 rfl 0 0 rfl rfl ?_
    refine z_geti 2 0 a0 B 4 rfl o_a0 rfl (iX2_has _ (List.mem_of_getElem? (i := 0) rfl)) rfl ?_
    by_cases hc : a1 < (mm a0 0)
    · replace hf := (if_pos hc).symm.trans hf
      refine z_icmp_ge_f B 5 rfl 16 (by decide) hc ?_
      refine z_iconst 1 B 6 rfl (by decide) ?_
      refine z_goto B 7 rfl 17 (by decide) ?_
      cases hf
      exact z_iret B 9 rfl (by decide) hQ hr
    · replace hf := (if_neg hc).symm.trans hf
      refine z_icmp_ge_t B 5 rfl 16 (by decide) hc ?_
      refine z_iconst 0 B 8 rfl (by decide) ?_
      cases hf
      exact z_iret B 9 rfl (by decide) hQ hr
/-! ZoneCapacity$Offers.add(IIIIZZ)I -/
def tbX2_add : Tb := [(0, .aload_n 0, 1, 1), (1, .getfield 46, 3, 4), (4, .istore 7, 2, 6), (6, .aload_n 0, 1, 7), (7, .getfield 19, 3, 10), (10, .iload 7, 2, 12), (12, .iload_n 1, 1, 13), (13, .invokestatic 53, 3, 16), (16, .aload_n 0, 1, 17), (17, .getfield 22, 3, 20), (20, .iload 7, 2, 22), (22, .iload_n 2, 1, 23), (23, .invokestatic 53, 3, 26), (26, .aload_n 0, 1, 27), (27, .getfield 25, 3, 30), (30, .iload 7, 2, 32), (32, .iload_n 3, 1, 33), (33, .invokestatic 53, 3, 36), (36, .aload_n 0, 1, 37), (37, .getfield 28, 3, 40), (40, .iload 7, 2, 42), (42, .iload 4, 2, 44), (44, .invokestatic 53, 3, 47), (47, .aload_n 0, 1, 48), (48, .getfield 31, 3, 51), (51, .iload 7, 2, 53), (53, .iload 5, 2, 55), (55, .ifCond .eq 7, 3, 58), (58, .iconst 1, 1, 59), (59, .goto 4, 3, 62), (62, .iconst 0, 1, 63), (63, .invokestatic 53, 3, 66), (66, .aload_n 0, 1, 67), (67, .getfield 34, 3, 70), (70, .iload 7, 2, 72), (72, .iload 6, 2, 74), (74, .ifCond .eq 7, 3, 77), (77, .iconst 1, 1, 78), (78, .goto 4, 3, 81), (81, .iconst 0, 1, 82), (82, .invokestatic 53, 3, 85), (85, .aload_n 0, 1, 86), (86, .getfield 37, 3, 89), (89, .iload 7, 2, 91), (91, .iconst 0, 1, 92), (92, .invokestatic 53, 3, 95), (95, .aload_n 0, 1, 96), (96, .iload 7, 2, 98), (98, .iconst 1, 1, 99), (99, .iadd, 1, 100), (100, .putfield 46, 3, 103), (103, .iload 7, 2, 105), (105, .ireturn, 1, 106)]
theorem dtX2_add : ∀ q ∈ tbX2_add, decode cX2_add q.1 = .ok (q.2.1, q.2.2.1) ∧ q.1 + q.2.2.1 = q.2.2.2 := by decide +kernel
theorem miX2_add : MI yX2_add cX2_add 8 (some .int) 6 := ⟨tw_mem (List.mem_of_getElem? (i := 785) (by decide +kernel)) rfl, by decide, by decide +kernel, tw_mem (List.mem_of_getElem? (i := 18) (by decide +kernel)) rfl⟩
abbrev rmX2_add : Room := { frames := 1, cells := 0, slots := 0, locals := 22 }
def wX2_add : List Cond := [.fieldLink "ZoneCapacity$Offers" 46 "ZoneCapacity$Offers" "many" "I", .fieldLink "ZoneCapacity$Offers" 19 "ZoneCapacity$Offers" "zones" "[I", .static yX6_put, .fieldLink "ZoneCapacity$Offers" 22 "ZoneCapacity$Offers" "sizes" "[I", .fieldLink "ZoneCapacity$Offers" 25 "ZoneCapacity$Offers" "kinds" "[I", .fieldLink "ZoneCapacity$Offers" 28 "ZoneCapacity$Offers" "owners" "[I", .fieldLink "ZoneCapacity$Offers" 31 "ZoneCapacity$Offers" "must" "[I", .fieldLink "ZoneCapacity$Offers" 34 "ZoneCapacity$Offers" "free" "[I", .fieldLink "ZoneCapacity$Offers" 37 "ZoneCapacity$Offers" "steps" "[I"]
theorem iX2_add : ∀ w ∈ wX2_add, w ∈ TW := tw_of (ids := [105, 111, 291, 113, 114, 115, 117, 118, 120]) (by decide +kernel)
def f2_add_j82 (x0 : Nat) (x7 : Int32) (s0 : Int32) (s1 : Int32) (s2 : Nat) (mm : Mem) : Option (Int32 × Mem) := bd (f6_put mm s2 s1 s0) (fun r7 => bd (f6_put r7 (x0 + 8) x7 (0 : Int32)) (fun r8 => nm (up2 r8 x0 0 (x7 + (1 : Int32))) (fun m9 => some (x7, m9))))
theorem f2_add_j82_ok {E : Ev} {l : Launch} {C : Cfg} {x : (Int32 × Mem)} (hj : Dj C) (X : Ec E l C rmX2_add) (B : Bx E RX2 tbX2_add 8 (some .int)) (hQ : Rt E) (hr : Rs E (some (.int x.1)) x.2) (x0 : Nat) (x7 : Int32) (s0 : Int32) (s1 : Int32) (s2 : Nat) (mm : Mem) (o_x0 : Ob x0 2) (o_s2 : Ob s2 8) (hf : f2_add_j82 x0 x7 s0 s1 s2 mm = some x) : G E 8 82 [(0, .ref x0), (7, .int x7)] [.int s0, .int s1, .ref s2] mm := by
  unfold f2_add_j82 at hf
  obtain ⟨r7, ec, hf⟩ := bd_e hf
  refine z_callN [.ref s2, .int s1, .int s0] [] [] X B 40 rfl miX6_put ⟨List.mem_of_getElem? (i := 11) rfl, (iX2_add _ (List.mem_of_getElem? (i := 2) rfl))⟩ (ctX6_put hj o_s2 ec) ⟨Nat.le_of_ble_eq_true rfl, Nat.le_of_ble_eq_true rfl⟩ rfl rfl (Nat.le_of_ble_eq_true rfl) rfl ?_
  refine z_aload_n B 41 rfl 0 0 rfl rfl ?_
  refine z_getr 2 9 x0 B 42 rfl o_x0 rfl (iX2_add _ (List.mem_of_getElem? (i := 8) rfl)) rfl ?_
  refine z_iload B 43 rfl 1 rfl ?_
  refine z_iconst 0 B 44 rfl (by decide) ?_
  obtain ⟨r8, ec, hf⟩ := bd_e hf
  refine z_callN [.ref (x0 + 8), .int x7, .int (0 : Int32)] [] [] X B 45 rfl miX6_put ⟨List.mem_of_getElem? (i := 11) rfl, (iX2_add _ (List.mem_of_getElem? (i := 2) rfl))⟩ (ctX6_put hj (obf_2_9 o_x0) ec) ⟨Nat.le_of_ble_eq_true rfl, Nat.le_of_ble_eq_true rfl⟩ rfl rfl (Nat.le_of_ble_eq_true rfl) rfl ?_
  refine z_aload_n B 46 rfl 0 0 rfl rfl ?_
  refine z_iload B 47 rfl 1 rfl ?_
  refine z_iconst 1 B 48 rfl (by decide) ?_
  refine z_iadd B 49 rfl ?_
  refine z_puti 2 0 x0 B 50 rfl o_x0 rfl (iX2_add _ (List.mem_of_getElem? (i := 0) rfl)) rfl (ty := .int) (by decide) rfl rfl rfl ?_
  obtain ⟨m9, ex, hf⟩ := nm_x hf
  refine z_mem ex ?_
  refine z_iload B 51 rfl 1 rfl ?_
  cases hf
  exact z_iret B 52 rfl rfl hQ hr
def f2_add_j63 (x0 : Nat) (x6 : Int32) (x7 : Int32) (s0 : Int32) (s1 : Int32) (s2 : Nat) (mm : Mem) : Option (Int32 × Mem) := bd (f6_put mm s2 s1 s0) (fun r6 => if x6 = 0 then f2_add_j82 x0 x7 (0 : Int32) x7 (x0 + 7) r6 else f2_add_j82 x0 x7 (1 : Int32) x7 (x0 + 7) r6)
theorem f2_add_j63_ok {E : Ev} {l : Launch} {C : Cfg} {x : (Int32 × Mem)} (hj : Dj C) (X : Ec E l C rmX2_add) (B : Bx E RX2 tbX2_add 8 (some .int)) (hQ : Rt E) (hr : Rs E (some (.int x.1)) x.2) (x0 : Nat) (x6 : Int32) (x7 : Int32) (s0 : Int32) (s1 : Int32) (s2 : Nat) (mm : Mem) (o_x0 : Ob x0 2) (o_s2 : Ob s2 8) (hf : f2_add_j63 x0 x6 x7 s0 s1 s2 mm = some x) : G E 8 63 [(0, .ref x0), (6, .int x6), (7, .int x7)] [.int s0, .int s1, .ref s2] mm := by
  unfold f2_add_j63 at hf
  obtain ⟨r6, ec, hf⟩ := bd_e hf
  refine z_callN [.ref s2, .int s1, .int s0] [] [] X B 31 rfl miX6_put ⟨List.mem_of_getElem? (i := 11) rfl, (iX2_add _ (List.mem_of_getElem? (i := 2) rfl))⟩ (ctX6_put hj o_s2 ec) ⟨Nat.le_of_ble_eq_true rfl, Nat.le_of_ble_eq_true rfl⟩ rfl rfl (Nat.le_of_ble_eq_true rfl) rfl ?_
  refine z_aload_n B 32 rfl 0 0 rfl rfl ?_
  refine z_getr 2 8 x0 B 33 rfl o_x0 rfl (iX2_add _ (List.mem_of_getElem? (i := 7) rfl)) rfl ?_
  refine z_iload B 34 rfl 2 rfl ?_
  refine z_iload B 35 rfl 1 rfl ?_
  by_cases hc : x6 = 0
  · replace hf := (if_pos hc).symm.trans hf
    refine z_if_eq_t B 36 rfl 81 (by decide) hc ?_
    refine z_iconst 0 B 39 rfl (by decide) ?_
    refine z_sub [(0, .ref x0), (7, .int x7)] [0, 2] rfl ?_
    exact f2_add_j82_ok hj X B hQ hr _ _ _ _ _ _ o_x0 (obf_2_8 o_x0) hf
  · replace hf := (if_neg hc).symm.trans hf
    refine z_if_eq_f B 36 rfl 81 (by decide) hc ?_
    refine z_iconst 1 B 37 rfl (by decide) ?_
    refine z_goto B 38 rfl 82 (by decide) ?_
    refine z_sub [(0, .ref x0), (7, .int x7)] [0, 2] rfl ?_
    exact f2_add_j82_ok hj X B hQ hr _ _ _ _ _ _ o_x0 (obf_2_8 o_x0) hf
def f2_add (mm : Mem) (a0 : Nat) (a1 : Int32) (a2 : Int32) (a3 : Int32) (a4 : Int32) (a5 : Int32) (a6 : Int32) : Option (Int32 × Mem) := nm (mm a0 0) (fun v1 => bd (f6_put mm (a0 + 2) v1 a1) (fun r2 => bd (f6_put r2 (a0 + 3) v1 a2) (fun r3 => bd (f6_put r3 (a0 + 4) v1 a3) (fun r4 => bd (f6_put r4 (a0 + 5) v1 a4) (fun r5 => if a5 = 0 then f2_add_j63 a0 a6 v1 (0 : Int32) v1 (a0 + 6) r5 else f2_add_j63 a0 a6 v1 (1 : Int32) v1 (a0 + 6) r5)))))
theorem ctX2_add {l : Launch} {C : Cfg} (hj : Dj C) {mm : Mem} {a0 : Nat} {a1 : Int32} {a2 : Int32} {a3 : Int32} {a4 : Int32} {a5 : Int32} {a6 : Int32} {x : (Int32 × Mem)} (o_a0 : Ob a0 2) (hf : f2_add mm a0 a1 a2 a3 a4 a5 a6 = some x) : Ct l C yX2_add cX2_add 8 (some .int) 1 22 [.ref a0, .int a1, .int a2, .int a3, .int a4, .int a5, .int a6] mm (some (.int x.1)) x.2 := by
  refine Ct.of (tb := tbX2_add) hj miX2_add.2.1 miX2_add.1 dtX2_add (Nat.le_of_ble_eq_true rfl) ?_
  intro E B hQ hr X
  unfold f2_add at hf
  show G E 8 0 [(0, .ref a0), (1, .int a1), (2, .int a2), (3, .int a3), (4, .int a4), (5, .int a5), (6, .int a6)] [] mm
  refine z_aload_n B 0 rfl 0 0 rfl rfl ?_
  refine z_geti 2 0 a0 B 1 rfl o_a0 rfl (iX2_add _ (List.mem_of_getElem? (i := 0) rfl)) rfl ?_
  obtain ⟨v1, ex, hf⟩ := nm_x hf
  refine z_top ex ?_
  refine z_istore [(7, .int v1), (0, .ref a0), (1, .int a1), (2, .int a2), (3, .int a3), (4, .int a4), (5, .int a5), (6, .int a6)] B 2 rfl (by decide) rfl ?_
  refine z_aload_n B 3 rfl 0 1 rfl rfl ?_
  refine z_getr 2 3 a0 B 4 rfl o_a0 rfl (iX2_add _ (List.mem_of_getElem? (i := 1) rfl)) rfl ?_
  refine z_iload B 5 rfl 0 rfl ?_
  refine z_iload_n B 6 rfl 1 2 rfl rfl ?_
  obtain ⟨r2, ec, hf⟩ := bd_e hf
  refine z_callN [.ref (a0 + 2), .int v1, .int a1] [] [] X B 7 rfl miX6_put ⟨List.mem_of_getElem? (i := 11) rfl, (iX2_add _ (List.mem_of_getElem? (i := 2) rfl))⟩ (ctX6_put hj (obf_2_3 o_a0) ec) ⟨Nat.le_of_ble_eq_true rfl, Nat.le_of_ble_eq_true rfl⟩ rfl rfl (Nat.le_of_ble_eq_true rfl) rfl ?_
  refine z_aload_n B 8 rfl 0 1 rfl rfl ?_
  refine z_getr 2 4 a0 B 9 rfl o_a0 rfl (iX2_add _ (List.mem_of_getElem? (i := 3) rfl)) rfl ?_
  refine z_iload B 10 rfl 0 rfl ?_
  refine z_iload_n B 11 rfl 2 3 rfl rfl ?_
  obtain ⟨r3, ec, hf⟩ := bd_e hf
  refine z_callN [.ref (a0 + 3), .int v1, .int a2] [] [] X B 12 rfl miX6_put ⟨List.mem_of_getElem? (i := 11) rfl, (iX2_add _ (List.mem_of_getElem? (i := 2) rfl))⟩ (ctX6_put hj (obf_2_4 o_a0) ec) ⟨Nat.le_of_ble_eq_true rfl, Nat.le_of_ble_eq_true rfl⟩ rfl rfl (Nat.le_of_ble_eq_true rfl) rfl ?_
  refine z_aload_n B 13 rfl 0 1 rfl rfl ?_
  refine z_getr 2 5 a0 B 14 rfl o_a0 rfl (iX2_add _ (List.mem_of_getElem? (i := 4) rfl)) rfl ?_
  refine z_iload B 15 rfl 0 rfl ?_
  refine z_iload_n B 16 rfl 3 4 rfl rfl ?_
  obtain ⟨r4, ec, hf⟩ := bd_e hf
  refine z_callN [.ref (a0 + 4), .int v1, .int a3] [] [] X B 17 rfl miX6_put ⟨List.mem_of_getElem? (i := 11) rfl, (iX2_add _ (List.mem_of_getElem? (i := 2) rfl))⟩ (ctX6_put hj (obf_2_5 o_a0) ec) ⟨Nat.le_of_ble_eq_true rfl, Nat.le_of_ble_eq_true rfl⟩ rfl rfl (Nat.le_of_ble_eq_true rfl) rfl ?_
  refine z_aload_n B 18 rfl 0 1 rfl rfl ?_
  refine z_getr 2 6 a0 B 19 rfl o_a0 rfl (iX2_add _ (List.mem_of_getElem? (i := 5) rfl)) rfl ?_
  refine z_iload B 20 rfl 0 rfl ?_
  refine z_iload B 21 rfl 5 rfl ?_
  obtain ⟨r5, ec, hf⟩ := bd_e hf
  refine z_callN [.ref (a0 + 5), .int v1, .int a4] [] [] X B 22 rfl miX6_put ⟨List.mem_of_getElem? (i := 11) rfl, (iX2_add _ (List.mem_of_getElem? (i := 2) rfl))⟩ (ctX6_put hj (obf_2_6 o_a0) ec) ⟨Nat.le_of_ble_eq_true rfl, Nat.le_of_ble_eq_true rfl⟩ rfl rfl (Nat.le_of_ble_eq_true rfl) rfl ?_
  refine z_aload_n B 23 rfl 0 1 rfl rfl ?_
  refine z_getr 2 7 a0 B 24 rfl o_a0 rfl (iX2_add _ (List.mem_of_getElem? (i := 6) rfl)) rfl ?_
  refine z_iload B 25 rfl 0 rfl ?_
  refine z_iload B 26 rfl 6 rfl ?_
  by_cases hc : a5 = 0
  · replace hf := (if_pos hc).symm.trans hf
    refine z_if_eq_t B 27 rfl 62 (by decide) hc ?_
    refine z_iconst 0 B 30 rfl (by decide) ?_
    refine z_sub [(0, .ref a0), (6, .int a6), (7, .int v1)] [1, 7, 0] rfl ?_
    exact f2_add_j63_ok hj X B hQ hr _ _ _ _ _ _ _ o_a0 (obf_2_7 o_a0) hf
  · replace hf := (if_neg hc).symm.trans hf
    refine z_if_eq_f B 27 rfl 62 (by decide) hc ?_
    refine z_iconst 1 B 28 rfl (by decide) ?_
    refine z_goto B 29 rfl 63 (by decide) ?_
    refine z_sub [(0, .ref a0), (6, .int a6), (7, .int v1)] [1, 7, 0] rfl ?_
    exact f2_add_j63_ok hj X B hQ hr _ _ _ _ _ _ _ o_a0 (obf_2_7 o_a0) hf
/-! ZoneCapacity$Offers.addStep(III)I -/
def tbX2_addStep : Tb := [(0, .aload_n 0, 1, 1), (1, .getfield 37, 3, 4), (4, .iload_n 1, 1, 5), (5, .invokestatic 57, 3, 8), (8, .istore 4, 2, 10), (10, .aload_n 0, 1, 11), (11, .getfield 40, 3, 14), (14, .iload_n 1, 1, 15), (15, .iconst 3, 1, 16), (16, .imul, 1, 17), (17, .iload 4, 2, 19), (19, .iadd, 1, 20), (20, .iload_n 2, 1, 21), (21, .invokestatic 53, 3, 24), (24, .aload_n 0, 1, 25), (25, .getfield 43, 3, 28), (28, .iload_n 1, 1, 29), (29, .iconst 3, 1, 30), (30, .imul, 1, 31), (31, .iload 4, 2, 33), (33, .iadd, 1, 34), (34, .iload_n 3, 1, 35), (35, .invokestatic 53, 3, 38), (38, .aload_n 0, 1, 39), (39, .getfield 37, 3, 42), (42, .iload_n 1, 1, 43), (43, .iload 4, 2, 45), (45, .iconst 1, 1, 46), (46, .iadd, 1, 47), (47, .invokestatic 53, 3, 50), (50, .iload 4, 2, 52), (52, .iconst 1, 1, 53), (53, .iadd, 1, 54), (54, .ireturn, 1, 55)]
theorem dtX2_addStep : ∀ q ∈ tbX2_addStep, decode cX2_addStep q.1 = .ok (q.2.1, q.2.2.1) ∧ q.1 + q.2.2.1 = q.2.2.2 := by decide +kernel
theorem miX2_addStep : MI yX2_addStep cX2_addStep 5 (some .int) 3 := ⟨tw_mem (List.mem_of_getElem? (i := 803) (by decide +kernel)) rfl, by decide, by decide +kernel, tw_mem (List.mem_of_getElem? (i := 18) (by decide +kernel)) rfl⟩
abbrev rmX2_addStep : Room := { frames := 1, cells := 0, slots := 0, locals := 22 }
def wX2_addStep : List Cond := [.fieldLink "ZoneCapacity$Offers" 37 "ZoneCapacity$Offers" "steps" "[I", .static yX6_at, .fieldLink "ZoneCapacity$Offers" 40 "ZoneCapacity$Offers" "stepUnits" "[I", .static yX6_put, .fieldLink "ZoneCapacity$Offers" 43 "ZoneCapacity$Offers" "stepPrices" "[I"]
theorem iX2_addStep : ∀ w ∈ wX2_addStep, w ∈ TW := tw_of (ids := [120, 272, 122, 291, 123]) (by decide +kernel)
def f2_addStep (mm : Mem) (a0 : Nat) (a1 : Int32) (a2 : Int32) (a3 : Int32) : Option (Int32 × Mem) := bd (f6_at mm (a0 + 8) a1) (fun r1 => bd (f6_put mm (a0 + 9) ((a1 * (3 : Int32)) + r1) a2) (fun r2 => bd (f6_put r2 (a0 + 10) ((a1 * (3 : Int32)) + r1) a3) (fun r3 => bd (f6_put r3 (a0 + 8) a1 (r1 + (1 : Int32))) (fun r4 => some (r1 + (1 : Int32), r4)))))
theorem ctX2_addStep {l : Launch} {C : Cfg} (hj : Dj C) {mm : Mem} {a0 : Nat} {a1 : Int32} {a2 : Int32} {a3 : Int32} {x : (Int32 × Mem)} (o_a0 : Ob a0 2) (hf : f2_addStep mm a0 a1 a2 a3 = some x) : Ct l C yX2_addStep cX2_addStep 5 (some .int) 1 22 [.ref a0, .int a1, .int a2, .int a3] mm (some (.int x.1)) x.2 := by
  refine Ct.of (tb := tbX2_addStep) hj miX2_addStep.2.1 miX2_addStep.1 dtX2_addStep (Nat.le_of_ble_eq_true rfl) ?_
  intro E B hQ hr X
  unfold f2_addStep at hf
  show G E 5 0 [(0, .ref a0), (1, .int a1), (2, .int a2), (3, .int a3)] [] mm
  refine z_aload_n B 0 rfl 0 0 rfl rfl ?_
  refine z_getr 2 9 a0 B 1 rfl o_a0 rfl (iX2_addStep _ (List.mem_of_getElem? (i := 0) rfl)) rfl ?_
  refine z_iload_n B 2 rfl 1 1 rfl rfl ?_
  obtain ⟨r1, ec, hf⟩ := bd_e hf
  refine z_callN [.ref (a0 + 8), .int a1] [] [.int r1] X B 3 rfl miX6_at ⟨List.mem_of_getElem? (i := 10) rfl, (iX2_addStep _ (List.mem_of_getElem? (i := 1) rfl))⟩ (ctX6_at hj (obf_2_9 o_a0) ec) ⟨Nat.le_of_ble_eq_true rfl, Nat.le_of_ble_eq_true rfl⟩ rfl rfl (Nat.le_of_ble_eq_true rfl) rfl ?_
  refine z_istore [(4, .int r1), (0, .ref a0), (1, .int a1), (2, .int a2), (3, .int a3)] B 4 rfl (by decide) rfl ?_
  refine z_aload_n B 5 rfl 0 1 rfl rfl ?_
  refine z_getr 2 10 a0 B 6 rfl o_a0 rfl (iX2_addStep _ (List.mem_of_getElem? (i := 2) rfl)) rfl ?_
  refine z_iload_n B 7 rfl 1 2 rfl rfl ?_
  refine z_iconst 3 B 8 rfl (by decide) ?_
  refine z_imul B 9 rfl ?_
  refine z_iload B 10 rfl 0 rfl ?_
  refine z_iadd B 11 rfl ?_
  refine z_iload_n B 12 rfl 2 3 rfl rfl ?_
  obtain ⟨r2, ec, hf⟩ := bd_e hf
  refine z_callN [.ref (a0 + 9), .int ((a1 * (3 : Int32)) + r1), .int a2] [] [] X B 13 rfl miX6_put ⟨List.mem_of_getElem? (i := 11) rfl, (iX2_addStep _ (List.mem_of_getElem? (i := 3) rfl))⟩ (ctX6_put hj (obf_2_10 o_a0) ec) ⟨Nat.le_of_ble_eq_true rfl, Nat.le_of_ble_eq_true rfl⟩ rfl rfl (Nat.le_of_ble_eq_true rfl) rfl ?_
  refine z_aload_n B 14 rfl 0 1 rfl rfl ?_
  refine z_getr 2 11 a0 B 15 rfl o_a0 rfl (iX2_addStep _ (List.mem_of_getElem? (i := 4) rfl)) rfl ?_
  refine z_iload_n B 16 rfl 1 2 rfl rfl ?_
  refine z_iconst 3 B 17 rfl (by decide) ?_
  refine z_imul B 18 rfl ?_
  refine z_iload B 19 rfl 0 rfl ?_
  refine z_iadd B 20 rfl ?_
  refine z_iload_n B 21 rfl 3 4 rfl rfl ?_
  obtain ⟨r3, ec, hf⟩ := bd_e hf
  refine z_callN [.ref (a0 + 10), .int ((a1 * (3 : Int32)) + r1), .int a3] [] [] X B 22 rfl miX6_put ⟨List.mem_of_getElem? (i := 11) rfl, (iX2_addStep _ (List.mem_of_getElem? (i := 3) rfl))⟩ (ctX6_put hj (obf_2_11 o_a0) ec) ⟨Nat.le_of_ble_eq_true rfl, Nat.le_of_ble_eq_true rfl⟩ rfl rfl (Nat.le_of_ble_eq_true rfl) rfl ?_
  refine z_aload_n B 23 rfl 0 1 rfl rfl ?_
  refine z_getr 2 9 a0 B 24 rfl o_a0 rfl (iX2_addStep _ (List.mem_of_getElem? (i := 0) rfl)) rfl ?_
  refine z_iload_n B 25 rfl 1 2 rfl rfl ?_
  refine z_iload B 26 rfl 0 rfl ?_
  refine z_iconst 1 B 27 rfl (by decide) ?_
  refine z_iadd B 28 rfl ?_
  obtain ⟨r4, ec, hf⟩ := bd_e hf
  refine z_callN [.ref (a0 + 8), .int a1, .int (r1 + (1 : Int32))] [] [] X B 29 rfl miX6_put ⟨List.mem_of_getElem? (i := 11) rfl, (iX2_addStep _ (List.mem_of_getElem? (i := 3) rfl))⟩ (ctX6_put hj (obf_2_9 o_a0) ec) ⟨Nat.le_of_ble_eq_true rfl, Nat.le_of_ble_eq_true rfl⟩ rfl rfl (Nat.le_of_ble_eq_true rfl) rfl ?_
  refine z_iload B 30 rfl 0 rfl ?_
  refine z_iconst 1 B 31 rfl (by decide) ?_
  refine z_iadd B 32 rfl ?_
  cases hf
  exact z_iret B 33 rfl rfl hQ hr
/-! ZoneCapacity$Offers.dropSteps(I)I -/
def tbX2_dropSteps : Tb := [(0, .aload_n 0, 1, 1), (1, .getfield 37, 3, 4), (4, .iload_n 1, 1, 5), (5, .invokestatic 57, 3, 8), (8, .istore_n 2, 1, 9), (9, .aload_n 0, 1, 10), (10, .getfield 37, 3, 13), (13, .iload_n 1, 1, 14), (14, .iconst 0, 1, 15), (15, .invokestatic 53, 3, 18), (18, .iload_n 2, 1, 19), (19, .ireturn, 1, 20)]
theorem dtX2_dropSteps : ∀ q ∈ tbX2_dropSteps, decode cX2_dropSteps q.1 = .ok (q.2.1, q.2.2.1) ∧ q.1 + q.2.2.1 = q.2.2.2 := by decide +kernel
theorem miX2_dropSteps : MI yX2_dropSteps cX2_dropSteps 3 (some .int) 1 := ⟨tw_mem (List.mem_of_getElem? (i := 304) (by decide +kernel)) rfl, by decide, by decide +kernel, tw_mem (List.mem_of_getElem? (i := 18) (by decide +kernel)) rfl⟩
abbrev rmX2_dropSteps : Room := { frames := 1, cells := 0, slots := 0, locals := 22 }
def wX2_dropSteps : List Cond := [.fieldLink "ZoneCapacity$Offers" 37 "ZoneCapacity$Offers" "steps" "[I", .static yX6_at, .static yX6_put]
theorem iX2_dropSteps : ∀ w ∈ wX2_dropSteps, w ∈ TW := tw_of (ids := [120, 272, 291]) (by decide +kernel)
def f2_dropSteps (mm : Mem) (a0 : Nat) (a1 : Int32) : Option (Int32 × Mem) := bd (f6_at mm (a0 + 8) a1) (fun r1 => bd (f6_put mm (a0 + 8) a1 (0 : Int32)) (fun r2 => some (r1, r2)))
theorem ctX2_dropSteps {l : Launch} {C : Cfg} (hj : Dj C) {mm : Mem} {a0 : Nat} {a1 : Int32} {x : (Int32 × Mem)} (o_a0 : Ob a0 2) (hf : f2_dropSteps mm a0 a1 = some x) : Ct l C yX2_dropSteps cX2_dropSteps 3 (some .int) 1 22 [.ref a0, .int a1] mm (some (.int x.1)) x.2 := by
  refine Ct.of (tb := tbX2_dropSteps) hj miX2_dropSteps.2.1 miX2_dropSteps.1 dtX2_dropSteps (Nat.le_of_ble_eq_true rfl) ?_
  intro E B hQ hr X
  unfold f2_dropSteps at hf
  show G E 3 0 [(0, .ref a0), (1, .int a1)] [] mm
  refine z_aload_n B 0 rfl 0 0 rfl rfl ?_
  refine z_getr 2 9 a0 B 1 rfl o_a0 rfl (iX2_dropSteps _ (List.mem_of_getElem? (i := 0) rfl)) rfl ?_
  refine z_iload_n B 2 rfl 1 1 rfl rfl ?_
  obtain ⟨r1, ec, hf⟩ := bd_e hf
  refine z_callN [.ref (a0 + 8), .int a1] [] [.int r1] X B 3 rfl miX6_at ⟨List.mem_of_getElem? (i := 10) rfl, (iX2_dropSteps _ (List.mem_of_getElem? (i := 1) rfl))⟩ (ctX6_at hj (obf_2_9 o_a0) ec) ⟨Nat.le_of_ble_eq_true rfl, Nat.le_of_ble_eq_true rfl⟩ rfl rfl (Nat.le_of_ble_eq_true rfl) rfl ?_
  refine z_istore_n [(2, .int r1), (0, .ref a0), (1, .int a1)] B 4 rfl 2 rfl (by decide) rfl ?_
  refine z_aload_n B 5 rfl 0 1 rfl rfl ?_
  refine z_getr 2 9 a0 B 6 rfl o_a0 rfl (iX2_dropSteps _ (List.mem_of_getElem? (i := 0) rfl)) rfl ?_
  refine z_iload_n B 7 rfl 1 2 rfl rfl ?_
  refine z_iconst 0 B 8 rfl (by decide) ?_
  obtain ⟨r2, ec, hf⟩ := bd_e hf
  refine z_callN [.ref (a0 + 8), .int a1, .int (0 : Int32)] [] [] X B 9 rfl miX6_put ⟨List.mem_of_getElem? (i := 11) rfl, (iX2_dropSteps _ (List.mem_of_getElem? (i := 2) rfl))⟩ (ctX6_put hj (obf_2_9 o_a0) ec) ⟨Nat.le_of_ble_eq_true rfl, Nat.le_of_ble_eq_true rfl⟩ rfl rfl (Nat.le_of_ble_eq_true rfl) rfl ?_
  refine z_iload_n B 10 rfl 2 0 rfl rfl ?_
  cases hf
  exact z_iret B 11 rfl rfl hQ hr
/-! ZoneCapacity$Offers.lastPrice(I)I -/
def tbX2_lastPrice : Tb := [(0, .aload_n 0, 1, 1), (1, .getfield 37, 3, 4), (4, .iload_n 1, 1, 5), (5, .invokestatic 57, 3, 8), (8, .istore_n 2, 1, 9), (9, .iload_n 2, 1, 10), (10, .ifCond .ne 7, 3, 13), (13, .iconst 0, 1, 14), (14, .goto 17, 3, 17), (17, .aload_n 0, 1, 18), (18, .getfield 43, 3, 21), (21, .iload_n 1, 1, 22), (22, .iconst 3, 1, 23), (23, .imul, 1, 24), (24, .iload_n 2, 1, 25), (25, .iadd, 1, 26), (26, .iconst 1, 1, 27), (27, .isub, 1, 28), (28, .invokestatic 57, 3, 31), (31, .ireturn, 1, 32)]
theorem dtX2_lastPrice : ∀ q ∈ tbX2_lastPrice, decode cX2_lastPrice q.1 = .ok (q.2.1, q.2.2.1) ∧ q.1 + q.2.2.1 = q.2.2.2 := by decide +kernel
theorem miX2_lastPrice : MI yX2_lastPrice cX2_lastPrice 3 (some .int) 1 := ⟨tw_mem (List.mem_of_getElem? (i := 799) (by decide +kernel)) rfl, by decide, by decide +kernel, tw_mem (List.mem_of_getElem? (i := 18) (by decide +kernel)) rfl⟩
abbrev rmX2_lastPrice : Room := { frames := 1, cells := 0, slots := 0, locals := 21 }
def wX2_lastPrice : List Cond := [.fieldLink "ZoneCapacity$Offers" 37 "ZoneCapacity$Offers" "steps" "[I", .static yX6_at, .fieldLink "ZoneCapacity$Offers" 43 "ZoneCapacity$Offers" "stepPrices" "[I"]
theorem iX2_lastPrice : ∀ w ∈ wX2_lastPrice, w ∈ TW := tw_of (ids := [120, 272, 123]) (by decide +kernel)
def f2_lastPrice (mm : Mem) (a0 : Nat) (a1 : Int32) : Option Int32 := bd (f6_at mm (a0 + 8) a1) (fun r1 => if r1 = 0 then some ((0 : Int32)) else bd (f6_at mm (a0 + 10) (((a1 * (3 : Int32)) + r1) - (1 : Int32))) (fun r2 => some (r2)))
theorem ctX2_lastPrice {l : Launch} {C : Cfg} (hj : Dj C) {mm : Mem} {a0 : Nat} {a1 : Int32} {x : Int32} (o_a0 : Ob a0 2) (hf : f2_lastPrice mm a0 a1 = some x) : Ct l C yX2_lastPrice cX2_lastPrice 3 (some .int) 1 21 [.ref a0, .int a1] mm (some (.int x)) mm := by
  refine Ct.of (tb := tbX2_lastPrice) hj miX2_lastPrice.2.1 miX2_lastPrice.1 dtX2_lastPrice (Nat.le_of_ble_eq_true rfl) ?_
  intro E B hQ hr X
  unfold f2_lastPrice at hf
  show G E 3 0 [(0, .ref a0), (1, .int a1)] [] mm
  refine z_aload_n B 0 rfl 0 0 rfl rfl ?_
  refine z_getr 2 9 a0 B 1 rfl o_a0 rfl (iX2_lastPrice _ (List.mem_of_getElem? (i := 0) rfl)) rfl ?_
  refine z_iload_n B 2 rfl 1 1 rfl rfl ?_
  obtain ⟨r1, ec, hf⟩ := bd_e hf
  refine z_callN [.ref (a0 + 8), .int a1] [] [.int r1] X B 3 rfl miX6_at ⟨List.mem_of_getElem? (i := 10) rfl, (iX2_lastPrice _ (List.mem_of_getElem? (i := 1) rfl))⟩ (ctX6_at hj (obf_2_9 o_a0) ec) ⟨Nat.le_of_ble_eq_true rfl, Nat.le_of_ble_eq_true rfl⟩ rfl rfl (Nat.le_of_ble_eq_true rfl) rfl ?_
  refine z_istore_n [(2, .int r1), (0, .ref a0), (1, .int a1)] B 4 rfl 2 rfl (by decide) rfl ?_
  refine z_iload_n B 5 rfl 2 0 rfl rfl ?_
  by_cases hc : r1 = 0
  · replace hf := (if_pos hc).symm.trans hf
    refine z_if_ne_f B 6 rfl 17 (by decide) hc ?_
    refine z_iconst 0 B 7 rfl (by decide) ?_
    refine z_goto B 8 rfl 31 (by decide) ?_
    cases hf
    exact z_iret B 19 rfl rfl hQ hr
  · replace hf := (if_neg hc).symm.trans hf
    refine z_if_ne_t B 6 rfl 17 (by decide) hc ?_
    refine z_aload_n B 9 rfl 0 1 rfl rfl ?_
    refine z_getr 2 11 a0 B 10 rfl o_a0 rfl (iX2_lastPrice _ (List.mem_of_getElem? (i := 2) rfl)) rfl ?_
    refine z_iload_n B 11 rfl 1 2 rfl rfl ?_
    refine z_iconst 3 B 12 rfl (by decide) ?_
    refine z_imul B 13 rfl ?_
    refine z_iload_n B 14 rfl 2 0 rfl rfl ?_
    refine z_iadd B 15 rfl ?_
    refine z_iconst 1 B 16 rfl (by decide) ?_
    refine z_isub B 17 rfl ?_
    obtain ⟨r2, ec, hf⟩ := bd_e hf
    refine z_callN [.ref (a0 + 10), .int (((a1 * (3 : Int32)) + r1) - (1 : Int32))] [] [.int r2] X B 18 rfl miX6_at ⟨List.mem_of_getElem? (i := 10) rfl, (iX2_lastPrice _ (List.mem_of_getElem? (i := 1) rfl))⟩ (ctX6_at hj (obf_2_11 o_a0) ec) ⟨Nat.le_of_ble_eq_true rfl, Nat.le_of_ble_eq_true rfl⟩ rfl rfl (Nat.le_of_ble_eq_true rfl) rfl ?_
    cases hf
    exact z_iret B 19 rfl rfl hQ hr
/-! ZoneCapacity$Offers.changeCeiling(I)Z -/
def tbX2_changeCeiling : Tb := [(0, .aload_n 0, 1, 1), (1, .getfield 9, 3, 4), (4, .iload_n 1, 1, 5), (5, .if_icmp .ne 5, 3, 8), (8, .iconst 0, 1, 9), (9, .ireturn, 1, 10), (10, .aload_n 0, 1, 11), (11, .iload_n 1, 1, 12), (12, .putfield 9, 3, 15), (15, .iconst 1, 1, 16), (16, .ireturn, 1, 17)]
theorem dtX2_changeCeiling : ∀ q ∈ tbX2_changeCeiling, decode cX2_changeCeiling q.1 = .ok (q.2.1, q.2.2.1) ∧ q.1 + q.2.2.1 = q.2.2.2 := by decide +kernel
theorem miX2_changeCeiling : MI yX2_changeCeiling cX2_changeCeiling 2 (some .boolean) 1 := ⟨tw_mem (List.mem_of_getElem? (i := 322) (by decide +kernel)) rfl, by decide, by decide +kernel, tw_mem (List.mem_of_getElem? (i := 18) (by decide +kernel)) rfl⟩
abbrev rmX2_changeCeiling : Room := { frames := 0, cells := 0, slots := 0, locals := 0 }
def wX2_changeCeiling : List Cond := [.fieldLink "ZoneCapacity$Offers" 9 "ZoneCapacity$Offers" "ceiling" "I"]
theorem iX2_changeCeiling : ∀ w ∈ wX2_changeCeiling, w ∈ TW := tw_of (ids := [108]) (by decide +kernel)
def f2_changeCeiling (mm : Mem) (a0 : Nat) (a1 : Int32) : Option (Int32 × Mem) := if (mm a0 1) = a1 then some ((0 : Int32), mm) else nm (up2 mm a0 1 a1) (fun m1 => some ((1 : Int32), m1))
theorem ctX2_changeCeiling {l : Launch} {C : Cfg} (hj : Dj C) {mm : Mem} {a0 : Nat} {a1 : Int32} {x : (Int32 × Mem)} (o_a0 : Ob a0 2) (hf : f2_changeCeiling mm a0 a1 = some x) : Ct l C yX2_changeCeiling cX2_changeCeiling 2 (some .boolean) 0 0 [.ref a0, .int a1] mm (some (.int x.1)) x.2 := by
  refine Ct.of (tb := tbX2_changeCeiling) hj miX2_changeCeiling.2.1 miX2_changeCeiling.1 dtX2_changeCeiling (Nat.le_of_ble_eq_true rfl) ?_
  intro E B hQ hr X
  unfold f2_changeCeiling at hf
  show G E 2 0 [(0, .ref a0), (1, .int a1)] [] mm
  refine z_aload_n B 0 rfl 0 0 rfl rfl ?_
  refine z_geti 2 1 a0 B 1 rfl o_a0 rfl (iX2_changeCeiling _ (List.mem_of_getElem? (i := 0) rfl)) rfl ?_
  refine z_iload_n B 2 rfl 1 1 rfl rfl ?_
  by_cases hc : (mm a0 1) = a1
  · replace hf := (if_pos hc).symm.trans hf
    refine z_icmp_ne_f B 3 rfl 10 (by decide) hc ?_
    refine z_iconst 0 B 4 rfl (by decide) ?_
    cases hf
    exact z_iret B 5 rfl (by decide) hQ hr
  · replace hf := (if_neg hc).symm.trans hf
    refine z_icmp_ne_t B 3 rfl 10 (by decide) hc ?_
    refine z_aload_n B 6 rfl 0 0 rfl rfl ?_
    refine z_iload_n B 7 rfl 1 1 rfl rfl ?_
    refine z_puti 2 1 a0 B 8 rfl o_a0 rfl (iX2_changeCeiling _ (List.mem_of_getElem? (i := 0) rfl)) rfl (ty := .int) (by decide) rfl rfl rfl ?_
    obtain ⟨m1, ex, hf⟩ := nm_x hf
    refine z_mem ex ?_
    refine z_iconst 1 B 9 rfl (by decide) ?_
    cases hf
    exact z_iret B 10 rfl (by decide) hQ hr
/-! ZoneCapacity.within(III)Z -/
def tbX6_within : Tb := [(0, .iload_n 0, 1, 1), (1, .iload_n 1, 1, 2), (2, .if_icmp .lt 12, 3, 5), (5, .iload_n 0, 1, 6), (6, .iload_n 2, 1, 7), (7, .if_icmp .gt 7, 3, 10), (10, .iconst 1, 1, 11), (11, .goto 4, 3, 14), (14, .iconst 0, 1, 15), (15, .ireturn, 1, 16)]
theorem dtX6_within : ∀ q ∈ tbX6_within, decode cX6_within q.1 = .ok (q.2.1, q.2.2.1) ∧ q.1 + q.2.2.1 = q.2.2.2 := by decide +kernel
theorem miX6_within : MI yX6_within cX6_within 3 (some .boolean) 3 := ⟨tw_mem (List.mem_of_getElem? (i := 281) (by decide +kernel)) rfl, by decide, by decide +kernel, tw_mem (List.mem_of_getElem? (i := 14) (by decide +kernel)) rfl⟩
abbrev rmX6_within : Room := { frames := 0, cells := 0, slots := 0, locals := 0 }
def f6_within (mm : Mem) (a0 : Int32) (a1 : Int32) (a2 : Int32) : Option Int32 := if a0 < a1 then some ((0 : Int32)) else if a2 < a0 then some ((0 : Int32)) else some ((1 : Int32))
theorem ctX6_within {l : Launch} {C : Cfg} (hj : Dj C) {mm : Mem} {a0 : Int32} {a1 : Int32} {a2 : Int32} {x : Int32} (hf : f6_within mm a0 a1 a2 = some x) : Ct l C yX6_within cX6_within 3 (some .boolean) 0 0 [.int a0, .int a1, .int a2] mm (some (.int x)) mm := by
  refine Ct.of (tb := tbX6_within) hj miX6_within.2.1 miX6_within.1 dtX6_within (Nat.le_of_ble_eq_true rfl) ?_
  intro E B hQ hr X
  unfold f6_within at hf
  show G E 3 0 [(0, .int a0), (1, .int a1), (2, .int a2)] [] mm
  refine z_iload_n B 0 rfl 0 0 rfl rfl ?_
  refine z_iload_n B 1 rfl 1 1 rfl rfl ?_
  by_cases hc : a0 < a1
  · replace hf := (if_pos hc).symm.trans hf
    refine z_icmp_lt_t B 2 rfl 14 (by decide) hc ?_
    refine z_iconst 0 B 8 rfl (by decide) ?_
    cases hf
    exact z_iret B 9 rfl (by decide) hQ hr
  · replace hf := (if_neg hc).symm.trans hf
    refine z_icmp_lt_f B 2 rfl 14 (by decide) hc ?_
    refine z_iload_n B 3 rfl 0 0 rfl rfl ?_
    refine z_iload_n B 4 rfl 2 2 rfl rfl ?_
    by_cases hc : a2 < a0
    · replace hf := (if_pos hc).symm.trans hf
      refine z_icmp_gt_t B 5 rfl 14 (by decide) hc ?_
      refine z_iconst 0 B 8 rfl (by decide) ?_
      cases hf
      exact z_iret B 9 rfl (by decide) hQ hr
    · replace hf := (if_neg hc).symm.trans hf
      refine z_icmp_gt_f B 5 rfl 14 (by decide) hc ?_
      refine z_iconst 1 B 6 rfl (by decide) ?_
      refine z_goto B 7 rfl 15 (by decide) ?_
      cases hf
      exact z_iret B 9 rfl (by decide) hQ hr
/-! ZoneCapacity$Offers.hasLine(II)Z -/
def tbX2_hasLine : Tb := [(0, .aload_n 0, 1, 1), (1, .iload_n 1, 1, 2), (2, .invokevirtual 65, 3, 5), (5, .ifCond .eq 25, 3, 8), (8, .iload_n 2, 1, 9), (9, .iconst 0, 1, 10), (10, .iconst 3, 1, 11), (11, .invokestatic 69, 3, 14), (14, .ifCond .eq 16, 3, 17), (17, .aload_n 0, 1, 18), (18, .iload_n 1, 1, 19), (19, .iload_n 2, 1, 20), (20, .invokevirtual 73, 3, 23), (23, .ifCond .le 7, 3, 26), (26, .iconst 1, 1, 27), (27, .goto 4, 3, 30), (30, .iconst 0, 1, 31), (31, .ireturn, 1, 32)]
theorem dtX2_hasLine : ∀ q ∈ tbX2_hasLine, decode cX2_hasLine q.1 = .ok (q.2.1, q.2.2.1) ∧ q.1 + q.2.2.1 = q.2.2.2 := by decide +kernel
theorem miX2_hasLine : MI yX2_hasLine cX2_hasLine 3 (some .boolean) 2 := ⟨tw_mem (List.mem_of_getElem? (i := 418) (by decide +kernel)) rfl, by decide, by decide +kernel, tw_mem (List.mem_of_getElem? (i := 18) (by decide +kernel)) rfl⟩
abbrev rmX2_hasLine : Room := { frames := 3, cells := 0, slots := 0, locals := 66 }
def wX2_hasLine : List Cond := [.methodLink "ZoneCapacity$Offers" 65 yX2_has, .instanceMethod yX2_has, .selects "ZoneCapacity$Offers" yX2_has yX2_has, .static yX6_within, .methodLink "ZoneCapacity$Offers" 73 yX2_unitsOf, .instanceMethod yX2_unitsOf, .selects "ZoneCapacity$Offers" yX2_unitsOf yX2_unitsOf]
theorem iX2_hasLine : ∀ w ∈ wX2_hasLine, w ∈ TW := tw_of (ids := [419, 298, 299, 280, 421, 341, 342]) (by decide +kernel)
def f2_hasLine (mm : Mem) (a0 : Nat) (a1 : Int32) (a2 : Int32) : Option Int32 := bd (f2_has mm a0 a1) (fun r1 => if r1 = 0 then some ((0 : Int32)) else bd (f6_within mm a2 (0 : Int32) (3 : Int32)) (fun r2 => if r2 = 0 then some ((0 : Int32)) else bd (f2_unitsOf mm a0 a1 a2) (fun r3 => if 0 < r3 then some ((1 : Int32)) else some ((0 : Int32)))))
theorem ctX2_hasLine {l : Launch} {C : Cfg} (hj : Dj C) {mm : Mem} {a0 : Nat} {a1 : Int32} {a2 : Int32} {x : Int32} (o_a0 : Ob a0 2) (hf : f2_hasLine mm a0 a1 a2 = some x) : Ct l C yX2_hasLine cX2_hasLine 3 (some .boolean) 3 66 [.ref a0, .int a1, .int a2] mm (some (.int x)) mm := by
  refine Ct.of (tb := tbX2_hasLine) hj miX2_hasLine.2.1 miX2_hasLine.1 dtX2_hasLine (Nat.le_of_ble_eq_true rfl) ?_
  intro E B hQ hr X
  unfold f2_hasLine at hf
  show G E 3 0 [(0, .ref a0), (1, .int a1), (2, .int a2)] [] mm
  refine z_aload_n B 0 rfl 0 0 rfl rfl ?_
  refine z_iload_n B 1 rfl 1 1 rfl rfl ?_
  obtain ⟨r1, ec, hf⟩ := bd_e hf
  refine z_callV a0 2 [.int a1] [] [.int r1] X B 2 rfl (by decide) o_a0 rfl rfl miX2_has ⟨(iX2_hasLine _ (List.mem_of_getElem? (i := 0) rfl)), (iX2_hasLine _ (List.mem_of_getElem? (i := 1) rfl)), (iX2_hasLine _ (List.mem_of_getElem? (i := 2) rfl))⟩ (ctX2_has hj o_a0 ec) ⟨Nat.le_of_ble_eq_true rfl, Nat.le_of_ble_eq_true rfl⟩ rfl rfl (Nat.le_of_ble_eq_true rfl) rfl ?_
  by_cases hc : r1 = 0
  · replace hf := (if_pos hc).symm.trans hf
    refine z_if_eq_t B 3 rfl 30 (by decide) hc ?_
    refine z_iconst 0 B 16 rfl (by decide) ?_
    cases hf
    exact z_iret B 17 rfl (by decide) hQ hr
  · replace hf := (if_neg hc).symm.trans hf
    refine z_if_eq_f B 3 rfl 30 (by decide) hc ?_
    refine z_iload_n B 4 rfl 2 2 rfl rfl ?_
    refine z_iconst 0 B 5 rfl (by decide) ?_
    refine z_iconst 3 B 6 rfl (by decide) ?_
    obtain ⟨r2, ec, hf⟩ := bd_e hf
    refine z_callN [.int a2, .int (0 : Int32), .int (3 : Int32)] [] [.int r2] X B 7 rfl miX6_within ⟨List.mem_of_getElem? (i := 14) rfl, (iX2_hasLine _ (List.mem_of_getElem? (i := 3) rfl))⟩ (ctX6_within hj ec) ⟨Nat.le_of_ble_eq_true rfl, Nat.le_of_ble_eq_true rfl⟩ rfl rfl (Nat.le_of_ble_eq_true rfl) rfl ?_
    by_cases hc : r2 = 0
    · replace hf := (if_pos hc).symm.trans hf
      refine z_if_eq_t B 8 rfl 30 (by decide) hc ?_
      refine z_iconst 0 B 16 rfl (by decide) ?_
      cases hf
      exact z_iret B 17 rfl (by decide) hQ hr
    · replace hf := (if_neg hc).symm.trans hf
      refine z_if_eq_f B 8 rfl 30 (by decide) hc ?_
      refine z_aload_n B 9 rfl 0 0 rfl rfl ?_
      refine z_iload_n B 10 rfl 1 1 rfl rfl ?_
      refine z_iload_n B 11 rfl 2 2 rfl rfl ?_
      obtain ⟨r3, ec, hf⟩ := bd_e hf
      refine z_callV a0 2 [.int a1, .int a2] [] [.int r3] X B 12 rfl (by decide) o_a0 rfl rfl miX2_unitsOf ⟨(iX2_hasLine _ (List.mem_of_getElem? (i := 4) rfl)), (iX2_hasLine _ (List.mem_of_getElem? (i := 5) rfl)), (iX2_hasLine _ (List.mem_of_getElem? (i := 6) rfl))⟩ (ctX2_unitsOf hj o_a0 ec) ⟨Nat.le_of_ble_eq_true rfl, Nat.le_of_ble_eq_true rfl⟩ rfl rfl (Nat.le_of_ble_eq_true rfl) rfl ?_
      by_cases hc : 0 < r3
      · replace hf := (if_pos hc).symm.trans hf
        refine z_if_le_f B 13 rfl 30 (by decide) hc ?_
        refine z_iconst 1 B 14 rfl (by decide) ?_
        refine z_goto B 15 rfl 31 (by decide) ?_
        cases hf
        exact z_iret B 17 rfl (by decide) hQ hr
      · replace hf := (if_neg hc).symm.trans hf
        refine z_if_le_t B 13 rfl 30 (by decide) hc ?_
        refine z_iconst 0 B 16 rfl (by decide) ?_
        cases hf
        exact z_iret B 17 rfl (by decide) hQ hr
/-! ZoneCapacity$Zones.has(I)Z -/
def tbX5_has : Tb := [(0, .iload_n 1, 1, 1), (1, .ifCond .lt 15, 3, 4), (4, .iload_n 1, 1, 5), (5, .aload_n 0, 1, 6), (6, .getfield 9, 3, 9), (9, .if_icmp .ge 7, 3, 12), (12, .iconst 1, 1, 13), (13, .goto 4, 3, 16), (16, .iconst 0, 1, 17), (17, .ireturn, 1, 18)]
theorem dtX5_has : ∀ q ∈ tbX5_has, decode cX5_has q.1 = .ok (q.2.1, q.2.2.1) ∧ q.1 + q.2.2.1 = q.2.2.2 := by decide +kernel
theorem miX5_has : MI yX5_has cX5_has 2 (some .boolean) 1 := ⟨tw_mem (List.mem_of_getElem? (i := 270) (by decide +kernel)) rfl, by decide, by decide +kernel, tw_mem (List.mem_of_getElem? (i := 17) (by decide +kernel)) rfl⟩
abbrev rmX5_has : Room := { frames := 0, cells := 0, slots := 0, locals := 0 }
def wX5_has : List Cond := [.fieldLink "ZoneCapacity$Zones" 9 "ZoneCapacity$Zones" "many" "I"]
theorem iX5_has : ∀ w ∈ wX5_has, w ∈ TW := tw_of (ids := [68]) (by decide +kernel)
def f5_has (mm : Mem) (a0 : Nat) (a1 : Int32) : Option Int32 := if a1 < 0 then some ((0 : Int32)) else if a1 < (mm a0 0) then some ((1 : Int32)) else some ((0 : Int32))
theorem ctX5_has {l : Launch} {C : Cfg} (hj : Dj C) {mm : Mem} {a0 : Nat} {a1 : Int32} {x : Int32} (o_a0 : Ob a0 5) (hf : f5_has mm a0 a1 = some x) : Ct l C yX5_has cX5_has 2 (some .boolean) 0 0 [.ref a0, .int a1] mm (some (.int x)) mm := by
  refine Ct.of (tb := tbX5_has) hj miX5_has.2.1 miX5_has.1 dtX5_has (Nat.le_of_ble_eq_true rfl) ?_
  intro E B hQ hr X
  unfold f5_has at hf
  show G E 2 0 [(0, .ref a0), (1, .int a1)] [] mm
  refine z_iload_n B 0 rfl 1 1 rfl rfl ?_
  by_cases hc : a1 < 0
  · replace hf := (if_pos hc).symm.trans hf
    refine z_if_lt_t B 1 rfl 16 (by decide) hc ?_
    refine z_iconst 0 B 8 rfl (by decide) ?_
    cases hf
    exact z_iret B 9 rfl (by decide) hQ hr
  · replace hf := (if_neg hc).symm.trans hf
    refine z_if_lt_f B 1 rfl 16 (by decide) hc ?_
    refine z_iload_n B 2 rfl 1 1 rfl rfl ?_
    refine z_aload_n B 3 rfl 0 0 rfl rfl ?_
    refine z_geti 5 0 a0 B 4 rfl o_a0 rfl (iX5_has _ (List.mem_of_getElem? (i := 0) rfl)) rfl ?_
    by_cases hc : a1 < (mm a0 0)
    · replace hf := (if_pos hc).symm.trans hf
      refine z_icmp_ge_f B 5 rfl 16 (by decide) hc ?_
      refine z_iconst 1 B 6 rfl (by decide) ?_
      refine z_goto B 7 rfl 17 (by decide) ?_
      cases hf
      exact z_iret B 9 rfl (by decide) hQ hr
    · replace hf := (if_neg hc).symm.trans hf
      refine z_icmp_ge_t B 5 rfl 16 (by decide) hc ?_
      refine z_iconst 0 B 8 rfl (by decide) ?_
      cases hf
      exact z_iret B 9 rfl (by decide) hQ hr
/-! ZoneCapacity$Zones.hasInner(I)Z -/
def tbX5_hasInner : Tb := [(0, .iload_n 1, 1, 1), (1, .ifCond .eq 15, 3, 4), (4, .aload_n 0, 1, 5), (5, .iload_n 1, 1, 6), (6, .invokevirtual 38, 3, 9), (9, .ifCond .eq 7, 3, 12), (12, .iconst 1, 1, 13), (13, .goto 4, 3, 16), (16, .iconst 0, 1, 17), (17, .ireturn, 1, 18)]
theorem dtX5_hasInner : ∀ q ∈ tbX5_hasInner, decode cX5_hasInner q.1 = .ok (q.2.1, q.2.2.1) ∧ q.1 + q.2.2.1 = q.2.2.2 := by decide +kernel
theorem miX5_hasInner : MI yX5_hasInner cX5_hasInner 2 (some .boolean) 1 := ⟨tw_mem (List.mem_of_getElem? (i := 326) (by decide +kernel)) rfl, by decide, by decide +kernel, tw_mem (List.mem_of_getElem? (i := 17) (by decide +kernel)) rfl⟩
abbrev rmX5_hasInner : Room := { frames := 1, cells := 0, slots := 0, locals := 21 }
def wX5_hasInner : List Cond := [.methodLink "ZoneCapacity$Zones" 38 yX5_has, .instanceMethod yX5_has, .selects "ZoneCapacity$Zones" yX5_has yX5_has]
theorem iX5_hasInner : ∀ w ∈ wX5_hasInner, w ∈ TW := tw_of (ids := [327, 268, 269]) (by decide +kernel)
def f5_hasInner (mm : Mem) (a0 : Nat) (a1 : Int32) : Option Int32 := if a1 = 0 then some ((0 : Int32)) else bd (f5_has mm a0 a1) (fun r1 => if r1 = 0 then some ((0 : Int32)) else some ((1 : Int32)))
theorem ctX5_hasInner {l : Launch} {C : Cfg} (hj : Dj C) {mm : Mem} {a0 : Nat} {a1 : Int32} {x : Int32} (o_a0 : Ob a0 5) (hf : f5_hasInner mm a0 a1 = some x) : Ct l C yX5_hasInner cX5_hasInner 2 (some .boolean) 1 21 [.ref a0, .int a1] mm (some (.int x)) mm := by
  refine Ct.of (tb := tbX5_hasInner) hj miX5_hasInner.2.1 miX5_hasInner.1 dtX5_hasInner (Nat.le_of_ble_eq_true rfl) ?_
  intro E B hQ hr X
  unfold f5_hasInner at hf
  show G E 2 0 [(0, .ref a0), (1, .int a1)] [] mm
  refine z_iload_n B 0 rfl 1 1 rfl rfl ?_
  by_cases hc : a1 = 0
  · replace hf := (if_pos hc).symm.trans hf
    refine z_if_eq_t B 1 rfl 16 (by decide) hc ?_
    refine z_iconst 0 B 8 rfl (by decide) ?_
    cases hf
    exact z_iret B 9 rfl (by decide) hQ hr
  · replace hf := (if_neg hc).symm.trans hf
    refine z_if_eq_f B 1 rfl 16 (by decide) hc ?_
    refine z_aload_n B 2 rfl 0 0 rfl rfl ?_
    refine z_iload_n B 3 rfl 1 1 rfl rfl ?_
    obtain ⟨r1, ec, hf⟩ := bd_e hf
    refine z_callV a0 5 [.int a1] [] [.int r1] X B 4 rfl (by decide) o_a0 rfl rfl miX5_has ⟨(iX5_hasInner _ (List.mem_of_getElem? (i := 0) rfl)), (iX5_hasInner _ (List.mem_of_getElem? (i := 1) rfl)), (iX5_hasInner _ (List.mem_of_getElem? (i := 2) rfl))⟩ (ctX5_has hj o_a0 ec) ⟨Nat.le_of_ble_eq_true rfl, Nat.le_of_ble_eq_true rfl⟩ rfl rfl (Nat.le_of_ble_eq_true rfl) rfl ?_
    by_cases hc : r1 = 0
    · replace hf := (if_pos hc).symm.trans hf
      refine z_if_eq_t B 5 rfl 16 (by decide) hc ?_
      refine z_iconst 0 B 8 rfl (by decide) ?_
      cases hf
      exact z_iret B 9 rfl (by decide) hQ hr
    · replace hf := (if_neg hc).symm.trans hf
      refine z_if_eq_f B 5 rfl 16 (by decide) hc ?_
      refine z_iconst 1 B 6 rfl (by decide) ?_
      refine z_goto B 7 rfl 17 (by decide) ?_
      cases hf
      exact z_iret B 9 rfl (by decide) hQ hr
/-! ZoneCapacity$Zones.add(III)I -/
def tbX5_add : Tb := [(0, .aload_n 0, 1, 1), (1, .getfield 9, 3, 4), (4, .istore 4, 2, 6), (6, .aload_n 0, 1, 7), (7, .getfield 15, 3, 10), (10, .iload 4, 2, 12), (12, .iload_n 1, 1, 13), (13, .invokestatic 42, 3, 16), (16, .aload_n 0, 1, 17), (17, .getfield 19, 3, 20), (20, .iload 4, 2, 22), (22, .iload_n 2, 1, 23), (23, .invokestatic 42, 3, 26), (26, .aload_n 0, 1, 27), (27, .getfield 22, 3, 30), (30, .iload 4, 2, 32), (32, .iload_n 3, 1, 33), (33, .invokestatic 42, 3, 36), (36, .aload_n 0, 1, 37), (37, .getfield 25, 3, 40), (40, .iload 4, 2, 42), (42, .iconst 0, 1, 43), (43, .invokestatic 42, 3, 46), (46, .aload_n 0, 1, 47), (47, .iload 4, 2, 49), (49, .iconst 1, 1, 50), (50, .iadd, 1, 51), (51, .putfield 9, 3, 54), (54, .iload 4, 2, 56), (56, .ireturn, 1, 57)]
theorem dtX5_add : ∀ q ∈ tbX5_add, decode cX5_add q.1 = .ok (q.2.1, q.2.2.1) ∧ q.1 + q.2.2.1 = q.2.2.2 := by decide +kernel
theorem miX5_add : MI yX5_add cX5_add 5 (some .int) 3 := ⟨tw_mem (List.mem_of_getElem? (i := 596) (by decide +kernel)) rfl, by decide, by decide +kernel, tw_mem (List.mem_of_getElem? (i := 17) (by decide +kernel)) rfl⟩
abbrev rmX5_add : Room := { frames := 1, cells := 0, slots := 0, locals := 22 }
def wX5_add : List Cond := [.fieldLink "ZoneCapacity$Zones" 9 "ZoneCapacity$Zones" "many" "I", .fieldLink "ZoneCapacity$Zones" 15 "ZoneCapacity$Zones" "outer" "[I", .static yX6_put, .fieldLink "ZoneCapacity$Zones" 19 "ZoneCapacity$Zones" "in" "[I", .fieldLink "ZoneCapacity$Zones" 22 "ZoneCapacity$Zones" "out" "[I", .fieldLink "ZoneCapacity$Zones" 25 "ZoneCapacity$Zones" "points" "[I"]
theorem iX5_add : ∀ w ∈ wX5_add, w ∈ TW := tw_of (ids := [68, 71, 291, 73, 76, 79]) (by decide +kernel)
def f5_add (mm : Mem) (a0 : Nat) (a1 : Int32) (a2 : Int32) (a3 : Int32) : Option (Int32 × Mem) := nm (mm a0 0) (fun v1 => bd (f6_put mm (a0 + 1) v1 a1) (fun r2 => bd (f6_put r2 (a0 + 2) v1 a2) (fun r3 => bd (f6_put r3 (a0 + 3) v1 a3) (fun r4 => bd (f6_put r4 (a0 + 4) v1 (0 : Int32)) (fun r5 => nm (up2 r5 a0 0 (v1 + (1 : Int32))) (fun m6 => some (v1, m6)))))))
theorem ctX5_add {l : Launch} {C : Cfg} (hj : Dj C) {mm : Mem} {a0 : Nat} {a1 : Int32} {a2 : Int32} {a3 : Int32} {x : (Int32 × Mem)} (o_a0 : Ob a0 5) (hf : f5_add mm a0 a1 a2 a3 = some x) : Ct l C yX5_add cX5_add 5 (some .int) 1 22 [.ref a0, .int a1, .int a2, .int a3] mm (some (.int x.1)) x.2 := by
  refine Ct.of (tb := tbX5_add) hj miX5_add.2.1 miX5_add.1 dtX5_add (Nat.le_of_ble_eq_true rfl) ?_
  intro E B hQ hr X
  unfold f5_add at hf
  show G E 5 0 [(0, .ref a0), (1, .int a1), (2, .int a2), (3, .int a3)] [] mm
  refine z_aload_n B 0 rfl 0 0 rfl rfl ?_
  refine z_geti 5 0 a0 B 1 rfl o_a0 rfl (iX5_add _ (List.mem_of_getElem? (i := 0) rfl)) rfl ?_
  obtain ⟨v1, ex, hf⟩ := nm_x hf
  refine z_top ex ?_
  refine z_istore [(4, .int v1), (0, .ref a0), (1, .int a1), (2, .int a2), (3, .int a3)] B 2 rfl (by decide) rfl ?_
  refine z_aload_n B 3 rfl 0 1 rfl rfl ?_
  refine z_getr 5 1 a0 B 4 rfl o_a0 rfl (iX5_add _ (List.mem_of_getElem? (i := 1) rfl)) rfl ?_
  refine z_iload B 5 rfl 0 rfl ?_
  refine z_iload_n B 6 rfl 1 2 rfl rfl ?_
  obtain ⟨r2, ec, hf⟩ := bd_e hf
  refine z_callN [.ref (a0 + 1), .int v1, .int a1] [] [] X B 7 rfl miX6_put ⟨List.mem_of_getElem? (i := 9) rfl, (iX5_add _ (List.mem_of_getElem? (i := 2) rfl))⟩ (ctX6_put hj (obf_5_1 o_a0) ec) ⟨Nat.le_of_ble_eq_true rfl, Nat.le_of_ble_eq_true rfl⟩ rfl rfl (Nat.le_of_ble_eq_true rfl) rfl ?_
  refine z_aload_n B 8 rfl 0 1 rfl rfl ?_
  refine z_getr 5 2 a0 B 9 rfl o_a0 rfl (iX5_add _ (List.mem_of_getElem? (i := 3) rfl)) rfl ?_
  refine z_iload B 10 rfl 0 rfl ?_
  refine z_iload_n B 11 rfl 2 3 rfl rfl ?_
  obtain ⟨r3, ec, hf⟩ := bd_e hf
  refine z_callN [.ref (a0 + 2), .int v1, .int a2] [] [] X B 12 rfl miX6_put ⟨List.mem_of_getElem? (i := 9) rfl, (iX5_add _ (List.mem_of_getElem? (i := 2) rfl))⟩ (ctX6_put hj (obf_5_2 o_a0) ec) ⟨Nat.le_of_ble_eq_true rfl, Nat.le_of_ble_eq_true rfl⟩ rfl rfl (Nat.le_of_ble_eq_true rfl) rfl ?_
  refine z_aload_n B 13 rfl 0 1 rfl rfl ?_
  refine z_getr 5 3 a0 B 14 rfl o_a0 rfl (iX5_add _ (List.mem_of_getElem? (i := 4) rfl)) rfl ?_
  refine z_iload B 15 rfl 0 rfl ?_
  refine z_iload_n B 16 rfl 3 4 rfl rfl ?_
  obtain ⟨r4, ec, hf⟩ := bd_e hf
  refine z_callN [.ref (a0 + 3), .int v1, .int a3] [] [] X B 17 rfl miX6_put ⟨List.mem_of_getElem? (i := 9) rfl, (iX5_add _ (List.mem_of_getElem? (i := 2) rfl))⟩ (ctX6_put hj (obf_5_3 o_a0) ec) ⟨Nat.le_of_ble_eq_true rfl, Nat.le_of_ble_eq_true rfl⟩ rfl rfl (Nat.le_of_ble_eq_true rfl) rfl ?_
  refine z_aload_n B 18 rfl 0 1 rfl rfl ?_
  refine z_getr 5 4 a0 B 19 rfl o_a0 rfl (iX5_add _ (List.mem_of_getElem? (i := 5) rfl)) rfl ?_
  refine z_iload B 20 rfl 0 rfl ?_
  refine z_iconst 0 B 21 rfl (by decide) ?_
  obtain ⟨r5, ec, hf⟩ := bd_e hf
  refine z_callN [.ref (a0 + 4), .int v1, .int (0 : Int32)] [] [] X B 22 rfl miX6_put ⟨List.mem_of_getElem? (i := 9) rfl, (iX5_add _ (List.mem_of_getElem? (i := 2) rfl))⟩ (ctX6_put hj (obf_5_4 o_a0) ec) ⟨Nat.le_of_ble_eq_true rfl, Nat.le_of_ble_eq_true rfl⟩ rfl rfl (Nat.le_of_ble_eq_true rfl) rfl ?_
  refine z_aload_n B 23 rfl 0 1 rfl rfl ?_
  refine z_iload B 24 rfl 0 rfl ?_
  refine z_iconst 1 B 25 rfl (by decide) ?_
  refine z_iadd B 26 rfl ?_
  refine z_puti 5 0 a0 B 27 rfl o_a0 rfl (iX5_add _ (List.mem_of_getElem? (i := 0) rfl)) rfl (ty := .int) (by decide) rfl rfl rfl ?_
  obtain ⟨m6, ex, hf⟩ := nm_x hf
  refine z_mem ex ?_
  refine z_iload B 28 rfl 0 rfl ?_
  cases hf
  exact z_iret B 29 rfl rfl hQ hr
/-! ZoneCapacity$Zones.addPoint(III)I -/
def tbX5_addPoint : Tb := [(0, .aload_n 0, 1, 1), (1, .getfield 25, 3, 4), (4, .iload_n 1, 1, 5), (5, .invokestatic 46, 3, 8), (8, .istore 4, 2, 10), (10, .aload_n 0, 1, 11), (11, .getfield 28, 3, 14), (14, .iload_n 1, 1, 15), (15, .iconst 4, 1, 16), (16, .imul, 1, 17), (17, .iload 4, 2, 19), (19, .iadd, 1, 20), (20, .iload_n 2, 1, 21), (21, .invokestatic 42, 3, 24), (24, .aload_n 0, 1, 25), (25, .getfield 31, 3, 28), (28, .iload_n 1, 1, 29), (29, .iconst 4, 1, 30), (30, .imul, 1, 31), (31, .iload 4, 2, 33), (33, .iadd, 1, 34), (34, .iload_n 3, 1, 35), (35, .invokestatic 42, 3, 38), (38, .aload_n 0, 1, 39), (39, .getfield 25, 3, 42), (42, .iload_n 1, 1, 43), (43, .iload 4, 2, 45), (45, .iconst 1, 1, 46), (46, .iadd, 1, 47), (47, .invokestatic 42, 3, 50), (50, .iload 4, 2, 52), (52, .iconst 1, 1, 53), (53, .iadd, 1, 54), (54, .ireturn, 1, 55)]
theorem dtX5_addPoint : ∀ q ∈ tbX5_addPoint, decode cX5_addPoint q.1 = .ok (q.2.1, q.2.2.1) ∧ q.1 + q.2.2.1 = q.2.2.2 := by decide +kernel
theorem miX5_addPoint : MI yX5_addPoint cX5_addPoint 5 (some .int) 3 := ⟨tw_mem (List.mem_of_getElem? (i := 289) (by decide +kernel)) rfl, by decide, by decide +kernel, tw_mem (List.mem_of_getElem? (i := 17) (by decide +kernel)) rfl⟩
abbrev rmX5_addPoint : Room := { frames := 1, cells := 0, slots := 0, locals := 22 }
def wX5_addPoint : List Cond := [.fieldLink "ZoneCapacity$Zones" 25 "ZoneCapacity$Zones" "points" "[I", .static yX6_at, .fieldLink "ZoneCapacity$Zones" 28 "ZoneCapacity$Zones" "pointUnits" "[I", .static yX6_put, .fieldLink "ZoneCapacity$Zones" 31 "ZoneCapacity$Zones" "pointPrices" "[I"]
theorem iX5_addPoint : ∀ w ∈ wX5_addPoint, w ∈ TW := tw_of (ids := [79, 272, 81, 291, 82]) (by decide +kernel)
def f5_addPoint (mm : Mem) (a0 : Nat) (a1 : Int32) (a2 : Int32) (a3 : Int32) : Option (Int32 × Mem) := bd (f6_at mm (a0 + 4) a1) (fun r1 => bd (f6_put mm (a0 + 5) ((a1 * (4 : Int32)) + r1) a2) (fun r2 => bd (f6_put r2 (a0 + 6) ((a1 * (4 : Int32)) + r1) a3) (fun r3 => bd (f6_put r3 (a0 + 4) a1 (r1 + (1 : Int32))) (fun r4 => some (r1 + (1 : Int32), r4)))))
theorem ctX5_addPoint {l : Launch} {C : Cfg} (hj : Dj C) {mm : Mem} {a0 : Nat} {a1 : Int32} {a2 : Int32} {a3 : Int32} {x : (Int32 × Mem)} (o_a0 : Ob a0 5) (hf : f5_addPoint mm a0 a1 a2 a3 = some x) : Ct l C yX5_addPoint cX5_addPoint 5 (some .int) 1 22 [.ref a0, .int a1, .int a2, .int a3] mm (some (.int x.1)) x.2 := by
  refine Ct.of (tb := tbX5_addPoint) hj miX5_addPoint.2.1 miX5_addPoint.1 dtX5_addPoint (Nat.le_of_ble_eq_true rfl) ?_
  intro E B hQ hr X
  unfold f5_addPoint at hf
  show G E 5 0 [(0, .ref a0), (1, .int a1), (2, .int a2), (3, .int a3)] [] mm
  refine z_aload_n B 0 rfl 0 0 rfl rfl ?_
  refine z_getr 5 4 a0 B 1 rfl o_a0 rfl (iX5_addPoint _ (List.mem_of_getElem? (i := 0) rfl)) rfl ?_
  refine z_iload_n B 2 rfl 1 1 rfl rfl ?_
  obtain ⟨r1, ec, hf⟩ := bd_e hf
  refine z_callN [.ref (a0 + 4), .int a1] [] [.int r1] X B 3 rfl miX6_at ⟨List.mem_of_getElem? (i := 8) rfl, (iX5_addPoint _ (List.mem_of_getElem? (i := 1) rfl))⟩ (ctX6_at hj (obf_5_4 o_a0) ec) ⟨Nat.le_of_ble_eq_true rfl, Nat.le_of_ble_eq_true rfl⟩ rfl rfl (Nat.le_of_ble_eq_true rfl) rfl ?_
  refine z_istore [(4, .int r1), (0, .ref a0), (1, .int a1), (2, .int a2), (3, .int a3)] B 4 rfl (by decide) rfl ?_
  refine z_aload_n B 5 rfl 0 1 rfl rfl ?_
  refine z_getr 5 5 a0 B 6 rfl o_a0 rfl (iX5_addPoint _ (List.mem_of_getElem? (i := 2) rfl)) rfl ?_
  refine z_iload_n B 7 rfl 1 2 rfl rfl ?_
  refine z_iconst 4 B 8 rfl (by decide) ?_
  refine z_imul B 9 rfl ?_
  refine z_iload B 10 rfl 0 rfl ?_
  refine z_iadd B 11 rfl ?_
  refine z_iload_n B 12 rfl 2 3 rfl rfl ?_
  obtain ⟨r2, ec, hf⟩ := bd_e hf
  refine z_callN [.ref (a0 + 5), .int ((a1 * (4 : Int32)) + r1), .int a2] [] [] X B 13 rfl miX6_put ⟨List.mem_of_getElem? (i := 9) rfl, (iX5_addPoint _ (List.mem_of_getElem? (i := 3) rfl))⟩ (ctX6_put hj (obf_5_5 o_a0) ec) ⟨Nat.le_of_ble_eq_true rfl, Nat.le_of_ble_eq_true rfl⟩ rfl rfl (Nat.le_of_ble_eq_true rfl) rfl ?_
  refine z_aload_n B 14 rfl 0 1 rfl rfl ?_
  refine z_getr 5 6 a0 B 15 rfl o_a0 rfl (iX5_addPoint _ (List.mem_of_getElem? (i := 4) rfl)) rfl ?_
  refine z_iload_n B 16 rfl 1 2 rfl rfl ?_
  refine z_iconst 4 B 17 rfl (by decide) ?_
  refine z_imul B 18 rfl ?_
  refine z_iload B 19 rfl 0 rfl ?_
  refine z_iadd B 20 rfl ?_
  refine z_iload_n B 21 rfl 3 4 rfl rfl ?_
  obtain ⟨r3, ec, hf⟩ := bd_e hf
  refine z_callN [.ref (a0 + 6), .int ((a1 * (4 : Int32)) + r1), .int a3] [] [] X B 22 rfl miX6_put ⟨List.mem_of_getElem? (i := 9) rfl, (iX5_addPoint _ (List.mem_of_getElem? (i := 3) rfl))⟩ (ctX6_put hj (obf_5_6 o_a0) ec) ⟨Nat.le_of_ble_eq_true rfl, Nat.le_of_ble_eq_true rfl⟩ rfl rfl (Nat.le_of_ble_eq_true rfl) rfl ?_
  refine z_aload_n B 23 rfl 0 1 rfl rfl ?_
  refine z_getr 5 4 a0 B 24 rfl o_a0 rfl (iX5_addPoint _ (List.mem_of_getElem? (i := 0) rfl)) rfl ?_
  refine z_iload_n B 25 rfl 1 2 rfl rfl ?_
  refine z_iload B 26 rfl 0 rfl ?_
  refine z_iconst 1 B 27 rfl (by decide) ?_
  refine z_iadd B 28 rfl ?_
  obtain ⟨r4, ec, hf⟩ := bd_e hf
  refine z_callN [.ref (a0 + 4), .int a1, .int (r1 + (1 : Int32))] [] [] X B 29 rfl miX6_put ⟨List.mem_of_getElem? (i := 9) rfl, (iX5_addPoint _ (List.mem_of_getElem? (i := 3) rfl))⟩ (ctX6_put hj (obf_5_4 o_a0) ec) ⟨Nat.le_of_ble_eq_true rfl, Nat.le_of_ble_eq_true rfl⟩ rfl rfl (Nat.le_of_ble_eq_true rfl) rfl ?_
  refine z_iload B 30 rfl 0 rfl ?_
  refine z_iconst 1 B 31 rfl (by decide) ?_
  refine z_iadd B 32 rfl ?_
  cases hf
  exact z_iret B 33 rfl rfl hQ hr
/-! ZoneCapacity$Zones.dropPoints(I)I -/
def tbX5_dropPoints : Tb := [(0, .aload_n 0, 1, 1), (1, .getfield 25, 3, 4), (4, .iload_n 1, 1, 5), (5, .invokestatic 46, 3, 8), (8, .istore_n 2, 1, 9), (9, .aload_n 0, 1, 10), (10, .getfield 25, 3, 13), (13, .iload_n 1, 1, 14), (14, .iconst 0, 1, 15), (15, .invokestatic 42, 3, 18), (18, .iload_n 2, 1, 19), (19, .ireturn, 1, 20)]
theorem dtX5_dropPoints : ∀ q ∈ tbX5_dropPoints, decode cX5_dropPoints q.1 = .ok (q.2.1, q.2.2.1) ∧ q.1 + q.2.2.1 = q.2.2.2 := by decide +kernel
theorem miX5_dropPoints : MI yX5_dropPoints cX5_dropPoints 3 (some .int) 1 := ⟨tw_mem (List.mem_of_getElem? (i := 310) (by decide +kernel)) rfl, by decide, by decide +kernel, tw_mem (List.mem_of_getElem? (i := 17) (by decide +kernel)) rfl⟩
abbrev rmX5_dropPoints : Room := { frames := 1, cells := 0, slots := 0, locals := 22 }
def wX5_dropPoints : List Cond := [.fieldLink "ZoneCapacity$Zones" 25 "ZoneCapacity$Zones" "points" "[I", .static yX6_at, .static yX6_put]
theorem iX5_dropPoints : ∀ w ∈ wX5_dropPoints, w ∈ TW := tw_of (ids := [79, 272, 291]) (by decide +kernel)
def f5_dropPoints (mm : Mem) (a0 : Nat) (a1 : Int32) : Option (Int32 × Mem) := bd (f6_at mm (a0 + 4) a1) (fun r1 => bd (f6_put mm (a0 + 4) a1 (0 : Int32)) (fun r2 => some (r1, r2)))
theorem ctX5_dropPoints {l : Launch} {C : Cfg} (hj : Dj C) {mm : Mem} {a0 : Nat} {a1 : Int32} {x : (Int32 × Mem)} (o_a0 : Ob a0 5) (hf : f5_dropPoints mm a0 a1 = some x) : Ct l C yX5_dropPoints cX5_dropPoints 3 (some .int) 1 22 [.ref a0, .int a1] mm (some (.int x.1)) x.2 := by
  refine Ct.of (tb := tbX5_dropPoints) hj miX5_dropPoints.2.1 miX5_dropPoints.1 dtX5_dropPoints (Nat.le_of_ble_eq_true rfl) ?_
  intro E B hQ hr X
  unfold f5_dropPoints at hf
  show G E 3 0 [(0, .ref a0), (1, .int a1)] [] mm
  refine z_aload_n B 0 rfl 0 0 rfl rfl ?_
  refine z_getr 5 4 a0 B 1 rfl o_a0 rfl (iX5_dropPoints _ (List.mem_of_getElem? (i := 0) rfl)) rfl ?_
  refine z_iload_n B 2 rfl 1 1 rfl rfl ?_
  obtain ⟨r1, ec, hf⟩ := bd_e hf
  refine z_callN [.ref (a0 + 4), .int a1] [] [.int r1] X B 3 rfl miX6_at ⟨List.mem_of_getElem? (i := 8) rfl, (iX5_dropPoints _ (List.mem_of_getElem? (i := 1) rfl))⟩ (ctX6_at hj (obf_5_4 o_a0) ec) ⟨Nat.le_of_ble_eq_true rfl, Nat.le_of_ble_eq_true rfl⟩ rfl rfl (Nat.le_of_ble_eq_true rfl) rfl ?_
  refine z_istore_n [(2, .int r1), (0, .ref a0), (1, .int a1)] B 4 rfl 2 rfl (by decide) rfl ?_
  refine z_aload_n B 5 rfl 0 1 rfl rfl ?_
  refine z_getr 5 4 a0 B 6 rfl o_a0 rfl (iX5_dropPoints _ (List.mem_of_getElem? (i := 0) rfl)) rfl ?_
  refine z_iload_n B 7 rfl 1 2 rfl rfl ?_
  refine z_iconst 0 B 8 rfl (by decide) ?_
  obtain ⟨r2, ec, hf⟩ := bd_e hf
  refine z_callN [.ref (a0 + 4), .int a1, .int (0 : Int32)] [] [] X B 9 rfl miX6_put ⟨List.mem_of_getElem? (i := 9) rfl, (iX5_dropPoints _ (List.mem_of_getElem? (i := 2) rfl))⟩ (ctX6_put hj (obf_5_4 o_a0) ec) ⟨Nat.le_of_ble_eq_true rfl, Nat.le_of_ble_eq_true rfl⟩ rfl rfl (Nat.le_of_ble_eq_true rfl) rfl ?_
  refine z_iload_n B 10 rfl 2 0 rfl rfl ?_
  cases hf
  exact z_iret B 11 rfl rfl hQ hr
/-! ZoneCapacity$Zones.wanted(I)I -/
def tbX5_wanted : Tb := [(0, .aload_n 0, 1, 1), (1, .getfield 25, 3, 4), (4, .iload_n 1, 1, 5), (5, .invokestatic 46, 3, 8), (8, .istore_n 2, 1, 9), (9, .iload_n 2, 1, 10), (10, .ifCond .ne 7, 3, 13), (13, .iconst 0, 1, 14), (14, .goto 17, 3, 17), (17, .aload_n 0, 1, 18), (18, .getfield 28, 3, 21), (21, .iload_n 1, 1, 22), (22, .iconst 4, 1, 23), (23, .imul, 1, 24), (24, .iload_n 2, 1, 25), (25, .iadd, 1, 26), (26, .iconst 1, 1, 27), (27, .isub, 1, 28), (28, .invokestatic 46, 3, 31), (31, .ireturn, 1, 32)]
theorem dtX5_wanted : ∀ q ∈ tbX5_wanted, decode cX5_wanted q.1 = .ok (q.2.1, q.2.2.1) ∧ q.1 + q.2.2.1 = q.2.2.2 := by decide +kernel
theorem miX5_wanted : MI yX5_wanted cX5_wanted 3 (some .int) 1 := ⟨tw_mem (List.mem_of_getElem? (i := 277) (by decide +kernel)) rfl, by decide, by decide +kernel, tw_mem (List.mem_of_getElem? (i := 17) (by decide +kernel)) rfl⟩
abbrev rmX5_wanted : Room := { frames := 1, cells := 0, slots := 0, locals := 21 }
def wX5_wanted : List Cond := [.fieldLink "ZoneCapacity$Zones" 25 "ZoneCapacity$Zones" "points" "[I", .static yX6_at, .fieldLink "ZoneCapacity$Zones" 28 "ZoneCapacity$Zones" "pointUnits" "[I"]
theorem iX5_wanted : ∀ w ∈ wX5_wanted, w ∈ TW := tw_of (ids := [79, 272, 81]) (by decide +kernel)
def f5_wanted (mm : Mem) (a0 : Nat) (a1 : Int32) : Option Int32 := bd (f6_at mm (a0 + 4) a1) (fun r1 => if r1 = 0 then some ((0 : Int32)) else bd (f6_at mm (a0 + 5) (((a1 * (4 : Int32)) + r1) - (1 : Int32))) (fun r2 => some (r2)))
theorem ctX5_wanted {l : Launch} {C : Cfg} (hj : Dj C) {mm : Mem} {a0 : Nat} {a1 : Int32} {x : Int32} (o_a0 : Ob a0 5) (hf : f5_wanted mm a0 a1 = some x) : Ct l C yX5_wanted cX5_wanted 3 (some .int) 1 21 [.ref a0, .int a1] mm (some (.int x)) mm := by
  refine Ct.of (tb := tbX5_wanted) hj miX5_wanted.2.1 miX5_wanted.1 dtX5_wanted (Nat.le_of_ble_eq_true rfl) ?_
  intro E B hQ hr X
  unfold f5_wanted at hf
  show G E 3 0 [(0, .ref a0), (1, .int a1)] [] mm
  refine z_aload_n B 0 rfl 0 0 rfl rfl ?_
  refine z_getr 5 4 a0 B 1 rfl o_a0 rfl (iX5_wanted _ (List.mem_of_getElem? (i := 0) rfl)) rfl ?_
  refine z_iload_n B 2 rfl 1 1 rfl rfl ?_
  obtain ⟨r1, ec, hf⟩ := bd_e hf
  refine z_callN [.ref (a0 + 4), .int a1] [] [.int r1] X B 3 rfl miX6_at ⟨List.mem_of_getElem? (i := 8) rfl, (iX5_wanted _ (List.mem_of_getElem? (i := 1) rfl))⟩ (ctX6_at hj (obf_5_4 o_a0) ec) ⟨Nat.le_of_ble_eq_true rfl, Nat.le_of_ble_eq_true rfl⟩ rfl rfl (Nat.le_of_ble_eq_true rfl) rfl ?_
  refine z_istore_n [(2, .int r1), (0, .ref a0), (1, .int a1)] B 4 rfl 2 rfl (by decide) rfl ?_
  refine z_iload_n B 5 rfl 2 0 rfl rfl ?_
  by_cases hc : r1 = 0
  · replace hf := (if_pos hc).symm.trans hf
    refine z_if_ne_f B 6 rfl 17 (by decide) hc ?_
    refine z_iconst 0 B 7 rfl (by decide) ?_
    refine z_goto B 8 rfl 31 (by decide) ?_
    cases hf
    exact z_iret B 19 rfl rfl hQ hr
  · replace hf := (if_neg hc).symm.trans hf
    refine z_if_ne_t B 6 rfl 17 (by decide) hc ?_
    refine z_aload_n B 9 rfl 0 1 rfl rfl ?_
    refine z_getr 5 5 a0 B 10 rfl o_a0 rfl (iX5_wanted _ (List.mem_of_getElem? (i := 2) rfl)) rfl ?_
    refine z_iload_n B 11 rfl 1 2 rfl rfl ?_
    refine z_iconst 4 B 12 rfl (by decide) ?_
    refine z_imul B 13 rfl ?_
    refine z_iload_n B 14 rfl 2 0 rfl rfl ?_
    refine z_iadd B 15 rfl ?_
    refine z_iconst 1 B 16 rfl (by decide) ?_
    refine z_isub B 17 rfl ?_
    obtain ⟨r2, ec, hf⟩ := bd_e hf
    refine z_callN [.ref (a0 + 5), .int (((a1 * (4 : Int32)) + r1) - (1 : Int32))] [] [.int r2] X B 18 rfl miX6_at ⟨List.mem_of_getElem? (i := 8) rfl, (iX5_wanted _ (List.mem_of_getElem? (i := 1) rfl))⟩ (ctX6_at hj (obf_5_5 o_a0) ec) ⟨Nat.le_of_ble_eq_true rfl, Nat.le_of_ble_eq_true rfl⟩ rfl rfl (Nat.le_of_ble_eq_true rfl) rfl ?_
    cases hf
    exact z_iret B 19 rfl rfl hQ hr
/-! ZoneCapacity$Zones.lastPrice(I)I -/
def tbX5_lastPrice : Tb := [(0, .aload_n 0, 1, 1), (1, .getfield 25, 3, 4), (4, .iload_n 1, 1, 5), (5, .invokestatic 46, 3, 8), (8, .istore_n 2, 1, 9), (9, .iload_n 2, 1, 10), (10, .ifCond .ne 9, 3, 13), (13, .sipush 9999, 3, 16), (16, .goto 17, 3, 19), (19, .aload_n 0, 1, 20), (20, .getfield 31, 3, 23), (23, .iload_n 1, 1, 24), (24, .iconst 4, 1, 25), (25, .imul, 1, 26), (26, .iload_n 2, 1, 27), (27, .iadd, 1, 28), (28, .iconst 1, 1, 29), (29, .isub, 1, 30), (30, .invokestatic 46, 3, 33), (33, .ireturn, 1, 34)]
theorem dtX5_lastPrice : ∀ q ∈ tbX5_lastPrice, decode cX5_lastPrice q.1 = .ok (q.2.1, q.2.2.1) ∧ q.1 + q.2.2.1 = q.2.2.2 := by decide +kernel
theorem miX5_lastPrice : MI yX5_lastPrice cX5_lastPrice 3 (some .int) 1 := ⟨tw_mem (List.mem_of_getElem? (i := 285) (by decide +kernel)) rfl, by decide, by decide +kernel, tw_mem (List.mem_of_getElem? (i := 17) (by decide +kernel)) rfl⟩
abbrev rmX5_lastPrice : Room := { frames := 1, cells := 0, slots := 0, locals := 21 }
def wX5_lastPrice : List Cond := [.fieldLink "ZoneCapacity$Zones" 25 "ZoneCapacity$Zones" "points" "[I", .static yX6_at, .fieldLink "ZoneCapacity$Zones" 31 "ZoneCapacity$Zones" "pointPrices" "[I"]
theorem iX5_lastPrice : ∀ w ∈ wX5_lastPrice, w ∈ TW := tw_of (ids := [79, 272, 82]) (by decide +kernel)
def f5_lastPrice (mm : Mem) (a0 : Nat) (a1 : Int32) : Option Int32 := bd (f6_at mm (a0 + 4) a1) (fun r1 => if r1 = 0 then some ((9999 : Int32)) else bd (f6_at mm (a0 + 6) (((a1 * (4 : Int32)) + r1) - (1 : Int32))) (fun r2 => some (r2)))
theorem ctX5_lastPrice {l : Launch} {C : Cfg} (hj : Dj C) {mm : Mem} {a0 : Nat} {a1 : Int32} {x : Int32} (o_a0 : Ob a0 5) (hf : f5_lastPrice mm a0 a1 = some x) : Ct l C yX5_lastPrice cX5_lastPrice 3 (some .int) 1 21 [.ref a0, .int a1] mm (some (.int x)) mm := by
  refine Ct.of (tb := tbX5_lastPrice) hj miX5_lastPrice.2.1 miX5_lastPrice.1 dtX5_lastPrice (Nat.le_of_ble_eq_true rfl) ?_
  intro E B hQ hr X
  unfold f5_lastPrice at hf
  show G E 3 0 [(0, .ref a0), (1, .int a1)] [] mm
  refine z_aload_n B 0 rfl 0 0 rfl rfl ?_
  refine z_getr 5 4 a0 B 1 rfl o_a0 rfl (iX5_lastPrice _ (List.mem_of_getElem? (i := 0) rfl)) rfl ?_
  refine z_iload_n B 2 rfl 1 1 rfl rfl ?_
  obtain ⟨r1, ec, hf⟩ := bd_e hf
  refine z_callN [.ref (a0 + 4), .int a1] [] [.int r1] X B 3 rfl miX6_at ⟨List.mem_of_getElem? (i := 8) rfl, (iX5_lastPrice _ (List.mem_of_getElem? (i := 1) rfl))⟩ (ctX6_at hj (obf_5_4 o_a0) ec) ⟨Nat.le_of_ble_eq_true rfl, Nat.le_of_ble_eq_true rfl⟩ rfl rfl (Nat.le_of_ble_eq_true rfl) rfl ?_
  refine z_istore_n [(2, .int r1), (0, .ref a0), (1, .int a1)] B 4 rfl 2 rfl (by decide) rfl ?_
  refine z_iload_n B 5 rfl 2 0 rfl rfl ?_
  by_cases hc : r1 = 0
  · replace hf := (if_pos hc).symm.trans hf
    refine z_if_ne_f B 6 rfl 19 (by decide) hc ?_
    refine z_sipush 9999 B 7 rfl (by decide) ?_
    refine z_goto B 8 rfl 33 (by decide) ?_
    cases hf
    exact z_iret B 19 rfl rfl hQ hr
  · replace hf := (if_neg hc).symm.trans hf
    refine z_if_ne_t B 6 rfl 19 (by decide) hc ?_
    refine z_aload_n B 9 rfl 0 1 rfl rfl ?_
    refine z_getr 5 6 a0 B 10 rfl o_a0 rfl (iX5_lastPrice _ (List.mem_of_getElem? (i := 2) rfl)) rfl ?_
    refine z_iload_n B 11 rfl 1 2 rfl rfl ?_
    refine z_iconst 4 B 12 rfl (by decide) ?_
    refine z_imul B 13 rfl ?_
    refine z_iload_n B 14 rfl 2 0 rfl rfl ?_
    refine z_iadd B 15 rfl ?_
    refine z_iconst 1 B 16 rfl (by decide) ?_
    refine z_isub B 17 rfl ?_
    obtain ⟨r2, ec, hf⟩ := bd_e hf
    refine z_callN [.ref (a0 + 6), .int (((a1 * (4 : Int32)) + r1) - (1 : Int32))] [] [.int r2] X B 18 rfl miX6_at ⟨List.mem_of_getElem? (i := 8) rfl, (iX5_lastPrice _ (List.mem_of_getElem? (i := 1) rfl))⟩ (ctX6_at hj (obf_5_6 o_a0) ec) ⟨Nat.le_of_ble_eq_true rfl, Nat.le_of_ble_eq_true rfl⟩ rfl rfl (Nat.le_of_ble_eq_true rfl) rfl ?_
    cases hf
    exact z_iret B 19 rfl rfl hQ hr
/-! ZoneCapacity$Zones.worthOf(II)I -/
def tbX5_worthOf : Tb := [(0, .iload_n 2, 1, 1), (1, .iconst 1, 1, 2), (2, .if_icmp .ge 5, 3, 5), (5, .iconst (-1), 1, 6), (6, .ireturn, 1, 7), (7, .iconst 0, 1, 8), (8, .istore_n 3, 1, 9), (9, .aload_n 0, 1, 10), (10, .getfield 31, 3, 13), (13, .iload_n 1, 1, 14), (14, .iconst 4, 1, 15), (15, .imul, 1, 16), (16, .invokestatic 46, 3, 19), (19, .istore 4, 2, 21), (21, .iconst 0, 1, 22), (22, .istore 5, 2, 24), (24, .iload 5, 2, 26), (26, .aload_n 0, 1, 27), (27, .getfield 25, 3, 30), (30, .iload_n 1, 1, 31), (31, .invokestatic 46, 3, 34), (34, .if_icmp .ge 71, 3, 37), (37, .aload_n 0, 1, 38), (38, .getfield 28, 3, 41), (41, .iload_n 1, 1, 42), (42, .iconst 4, 1, 43), (43, .imul, 1, 44), (44, .iload 5, 2, 46), (46, .iadd, 1, 47), (47, .invokestatic 46, 3, 50), (50, .istore 6, 2, 52), (52, .aload_n 0, 1, 53), (53, .getfield 31, 3, 56), (56, .iload_n 1, 1, 57), (57, .iconst 4, 1, 58), (58, .imul, 1, 59), (59, .iload 5, 2, 61), (61, .iadd, 1, 62), (62, .invokestatic 46, 3, 65), (65, .istore 7, 2, 67), (67, .iload_n 2, 1, 68), (68, .iload 6, 2, 70), (70, .if_icmp .gt 22, 3, 73), (73, .iload 4, 2, 75), (75, .iload 4, 2, 77), (77, .iload 7, 2, 79), (79, .isub, 1, 80), (80, .iload_n 2, 1, 81), (81, .iload_n 3, 1, 82), (82, .isub, 1, 83), (83, .iload 6, 2, 85), (85, .iload_n 3, 1, 86), (86, .isub, 1, 87), (87, .invokestatic 50, 3, 90), (90, .isub, 1, 91), (91, .ireturn, 1, 92), (92, .iload 6, 2, 94), (94, .istore_n 3, 1, 95), (95, .iload 7, 2, 97), (97, .istore 4, 2, 99), (99, .iinc 5 1, 3, 102), (102, .goto (-78), 3, 105), (105, .iconst (-1), 1, 106), (106, .ireturn, 1, 107)]
theorem dtX5_worthOf : ∀ q ∈ tbX5_worthOf, decode cX5_worthOf q.1 = .ok (q.2.1, q.2.2.1) ∧ q.1 + q.2.2.1 = q.2.2.2 := by decide +kernel
theorem miX5_worthOf : MI yX5_worthOf cX5_worthOf 8 (some .int) 2 := ⟨tw_mem (List.mem_of_getElem? (i := 828) (by decide +kernel)) rfl, by decide, by decide +kernel, tw_mem (List.mem_of_getElem? (i := 17) (by decide +kernel)) rfl⟩
abbrev rmX5_worthOf : Room := { frames := 1, cells := 0, slots := 0, locals := 22 }
def wX5_worthOf : List Cond := [.fieldLink "ZoneCapacity$Zones" 31 "ZoneCapacity$Zones" "pointPrices" "[I", .static yX6_at, .fieldLink "ZoneCapacity$Zones" 25 "ZoneCapacity$Zones" "points" "[I", .fieldLink "ZoneCapacity$Zones" 28 "ZoneCapacity$Zones" "pointUnits" "[I", .methodLink "ZoneCapacity$Zones" 50 yX5_fallen, .static yX5_fallen]
theorem iX5_worthOf : ∀ w ∈ wX5_worthOf, w ∈ TW := tw_of (ids := [82, 272, 79, 81, 434, 435]) (by decide +kernel)
def f5_worthOf_l24 (mm : Mem) : Nat → Nat → Int32 → Int32 → Int32 → Int32 → Int32 → Option Int32
  | 0, _, _, _, _, _, _ => none
  | n + 1, x0, x1, x2, x3, x4, x5 => bd (f6_at mm (x0 + 4) x1) (fun r2 => if x5 < r2 then bd (f6_at mm (x0 + 5) ((x1 * (4 : Int32)) + x5)) (fun r3 => bd (f6_at mm (x0 + 6) ((x1 * (4 : Int32)) + x5)) (fun r4 => if r3 < x2 then nm (x5 + 1) (fun v5 => f5_worthOf_l24 mm n x0 x1 x2 r3 r4 v5) else bd (f5_fallen mm (x4 - r4) (x2 - x3) (r3 - x3)) (fun r6 => some (x4 - r6)))) else some ((-1 : Int32)))
theorem f5_worthOf_l24_ok {E : Ev} {l : Launch} {C : Cfg} {mm : Mem} {x : Int32} (hj : Dj C) (X : Ec E l C rmX5_worthOf) (B : Bx E RX5 tbX5_worthOf 8 (some .int)) (hQ : Rt E) (hr : Rs E (some (.int x)) mm) (n : Nat) : ∀ (x0 : Nat) (x1 : Int32) (x2 : Int32) (x3 : Int32) (x4 : Int32) (x5 : Int32), Ob x0 5 → f5_worthOf_l24 mm n x0 x1 x2 x3 x4 x5 = some x → G E 8 24 [(0, .ref x0), (1, .int x1), (2, .int x2), (3, .int x3), (4, .int x4), (5, .int x5)] [] mm := by
  induction n with
  | zero =>
    intro x0 x1 x2 x3 x4 x5 o_x0 hf
    rw [f5_worthOf_l24] at hf
    cases hf
  | succ n ih =>
    intro x0 x1 x2 x3 x4 x5 o_x0 hf
    rw [f5_worthOf_l24] at hf
    refine z_iload B 16 rfl 5 rfl ?_
    refine z_aload_n B 17 rfl 0 0 rfl rfl ?_
    refine z_getr 5 4 x0 B 18 rfl o_x0 rfl (iX5_worthOf _ (List.mem_of_getElem? (i := 2) rfl)) rfl ?_
    refine z_iload_n B 19 rfl 1 1 rfl rfl ?_
    obtain ⟨r2, ec, hf⟩ := bd_e hf
    refine z_callN [.ref (x0 + 4), .int x1] [.int x5] [.int r2, .int x5] X B 20 rfl miX6_at ⟨List.mem_of_getElem? (i := 8) rfl, (iX5_worthOf _ (List.mem_of_getElem? (i := 1) rfl))⟩ (ctX6_at hj (obf_5_4 o_x0) ec) ⟨Nat.le_of_ble_eq_true rfl, Nat.le_of_ble_eq_true rfl⟩ rfl rfl (Nat.le_of_ble_eq_true rfl) rfl ?_
    by_cases hc : x5 < r2
    · replace hf := (if_pos hc).symm.trans hf
      refine z_icmp_ge_f B 21 rfl 105 (by decide) hc ?_
      refine z_aload_n B 22 rfl 0 0 rfl rfl ?_
      refine z_getr 5 5 x0 B 23 rfl o_x0 rfl (iX5_worthOf _ (List.mem_of_getElem? (i := 3) rfl)) rfl ?_
      refine z_iload_n B 24 rfl 1 1 rfl rfl ?_
      refine z_iconst 4 B 25 rfl (by decide) ?_
      refine z_imul B 26 rfl ?_
      refine z_iload B 27 rfl 5 rfl ?_
      refine z_iadd B 28 rfl ?_
      obtain ⟨r3, ec, hf⟩ := bd_e hf
      refine z_callN [.ref (x0 + 5), .int ((x1 * (4 : Int32)) + x5)] [] [.int r3] X B 29 rfl miX6_at ⟨List.mem_of_getElem? (i := 8) rfl, (iX5_worthOf _ (List.mem_of_getElem? (i := 1) rfl))⟩ (ctX6_at hj (obf_5_5 o_x0) ec) ⟨Nat.le_of_ble_eq_true rfl, Nat.le_of_ble_eq_true rfl⟩ rfl rfl (Nat.le_of_ble_eq_true rfl) rfl ?_
      refine z_istore [(6, .int r3), (0, .ref x0), (1, .int x1), (2, .int x2), (3, .int x3), (4, .int x4), (5, .int x5)] B 30 rfl (by decide) rfl ?_
      refine z_aload_n B 31 rfl 0 1 rfl rfl ?_
      refine z_getr 5 6 x0 B 32 rfl o_x0 rfl (iX5_worthOf _ (List.mem_of_getElem? (i := 0) rfl)) rfl ?_
      refine z_iload_n B 33 rfl 1 2 rfl rfl ?_
      refine z_iconst 4 B 34 rfl (by decide) ?_
      refine z_imul B 35 rfl ?_
      refine z_iload B 36 rfl 6 rfl ?_
      refine z_iadd B 37 rfl ?_
      obtain ⟨r4, ec, hf⟩ := bd_e hf
      refine z_callN [.ref (x0 + 6), .int ((x1 * (4 : Int32)) + x5)] [] [.int r4] X B 38 rfl miX6_at ⟨List.mem_of_getElem? (i := 8) rfl, (iX5_worthOf _ (List.mem_of_getElem? (i := 1) rfl))⟩ (ctX6_at hj (obf_5_6 o_x0) ec) ⟨Nat.le_of_ble_eq_true rfl, Nat.le_of_ble_eq_true rfl⟩ rfl rfl (Nat.le_of_ble_eq_true rfl) rfl ?_
      refine z_istore [(7, .int r4), (6, .int r3), (0, .ref x0), (1, .int x1), (2, .int x2), (3, .int x3), (4, .int x4), (5, .int x5)] B 39 rfl (by decide) rfl ?_
      refine z_iload_n B 40 rfl 2 4 rfl rfl ?_
      refine z_iload B 41 rfl 1 rfl ?_
      by_cases hc : r3 < x2
      · replace hf := (if_pos hc).symm.trans hf
        refine z_icmp_gt_t B 42 rfl 92 (by decide) hc ?_
        refine z_iload B 56 rfl 1 rfl ?_
        refine z_istore_n [(3, .int r3), (7, .int r4), (6, .int r3), (0, .ref x0), (1, .int x1), (2, .int x2), (4, .int x4), (5, .int x5)] B 57 rfl 3 rfl (by decide) rfl ?_
        refine z_iload B 58 rfl 1 rfl ?_
        refine z_istore [(4, .int r4), (3, .int r3), (7, .int r4), (6, .int r3), (0, .ref x0), (1, .int x1), (2, .int x2), (5, .int x5)] B 59 rfl (by decide) rfl ?_
        obtain ⟨v5, ex, hf⟩ := nm_x hf
        refine z_iinc v5 [(5, .int v5), (4, .int r4), (3, .int r3), (7, .int r4), (6, .int r3), (0, .ref x0), (1, .int x1), (2, .int x2)] B 60 rfl 7 rfl (ex.symm) (by decide) rfl ?_
        refine z_goto B 61 rfl 24 (by decide) ?_
        refine z_sub [(0, .ref x0), (1, .int x1), (2, .int x2), (3, .int r3), (4, .int r4), (5, .int v5)] [5, 6, 7, 2, 1, 0] rfl ?_
        exact ih _ _ _ _ _ _ o_x0  hf
      · replace hf := (if_neg hc).symm.trans hf
        refine z_icmp_gt_f B 42 rfl 92 (by decide) hc ?_
        refine z_iload B 43 rfl 6 rfl ?_
        refine z_iload B 44 rfl 6 rfl ?_
        refine z_iload B 45 rfl 0 rfl ?_
        refine z_isub B 46 rfl ?_
        refine z_iload_n B 47 rfl 2 4 rfl rfl ?_
        refine z_iload_n B 48 rfl 3 5 rfl rfl ?_
        refine z_isub B 49 rfl ?_
        refine z_iload B 50 rfl 1 rfl ?_
        refine z_iload_n B 51 rfl 3 5 rfl rfl ?_
        refine z_isub B 52 rfl ?_
        obtain ⟨r6, ec, hf⟩ := bd_e hf
        refine z_callS [.int (x4 - r4), .int (x2 - x3), .int (r3 - x3)] [.int x4] [.int r6, .int x4] X B 53 rfl miX5_fallen ⟨(iX5_worthOf _ (List.mem_of_getElem? (i := 4) rfl)), (iX5_worthOf _ (List.mem_of_getElem? (i := 5) rfl))⟩ (ctX5_fallen hj ec) ⟨Nat.le_of_ble_eq_true rfl, Nat.le_of_ble_eq_true rfl⟩ rfl rfl (Nat.le_of_ble_eq_true rfl) rfl ?_
        refine z_isub B 54 rfl ?_
        cases hf
        exact z_iret B 55 rfl rfl hQ hr
    · replace hf := (if_neg hc).symm.trans hf
      refine z_icmp_ge_t B 21 rfl 105 (by decide) hc ?_
      refine z_iconst (-1) B 62 rfl (by decide) ?_
      cases hf
      exact z_iret B 63 rfl rfl hQ hr
def f5_worthOf (mm : Mem) (a0 : Nat) (a1 : Int32) (a2 : Int32) : Option Int32 := if a2 < (1 : Int32) then some ((-1 : Int32)) else bd (f6_at mm (a0 + 6) (a1 * (4 : Int32))) (fun r1 => f5_worthOf_l24 mm FU a0 a1 a2 (0 : Int32) r1 (0 : Int32))
theorem ctX5_worthOf {l : Launch} {C : Cfg} (hj : Dj C) {mm : Mem} {a0 : Nat} {a1 : Int32} {a2 : Int32} {x : Int32} (o_a0 : Ob a0 5) (hf : f5_worthOf mm a0 a1 a2 = some x) : Ct l C yX5_worthOf cX5_worthOf 8 (some .int) 1 22 [.ref a0, .int a1, .int a2] mm (some (.int x)) mm := by
  refine Ct.of (tb := tbX5_worthOf) hj miX5_worthOf.2.1 miX5_worthOf.1 dtX5_worthOf (Nat.le_of_ble_eq_true rfl) ?_
  intro E B hQ hr X
  unfold f5_worthOf at hf
  show G E 8 0 [(0, .ref a0), (1, .int a1), (2, .int a2)] [] mm
  refine z_iload_n B 0 rfl 2 2 rfl rfl ?_
  refine z_iconst 1 B 1 rfl (by decide) ?_
  by_cases hc : a2 < (1 : Int32)
  · replace hf := (if_pos hc).symm.trans hf
    refine z_icmp_ge_f B 2 rfl 7 (by decide) hc ?_
    refine z_iconst (-1) B 3 rfl (by decide) ?_
    cases hf
    exact z_iret B 4 rfl rfl hQ hr
  · replace hf := (if_neg hc).symm.trans hf
    refine z_icmp_ge_t B 2 rfl 7 (by decide) hc ?_
    refine z_iconst 0 B 5 rfl (by decide) ?_
    refine z_istore_n [(3, .int (0 : Int32)), (0, .ref a0), (1, .int a1), (2, .int a2)] B 6 rfl 3 rfl (by decide) rfl ?_
    refine z_aload_n B 7 rfl 0 1 rfl rfl ?_
    refine z_getr 5 6 a0 B 8 rfl o_a0 rfl (iX5_worthOf _ (List.mem_of_getElem? (i := 0) rfl)) rfl ?_
    refine z_iload_n B 9 rfl 1 2 rfl rfl ?_
    refine z_iconst 4 B 10 rfl (by decide) ?_
    refine z_imul B 11 rfl ?_
    obtain ⟨r1, ec, hf⟩ := bd_e hf
    refine z_callN [.ref (a0 + 6), .int (a1 * (4 : Int32))] [] [.int r1] X B 12 rfl miX6_at ⟨List.mem_of_getElem? (i := 8) rfl, (iX5_worthOf _ (List.mem_of_getElem? (i := 1) rfl))⟩ (ctX6_at hj (obf_5_6 o_a0) ec) ⟨Nat.le_of_ble_eq_true rfl, Nat.le_of_ble_eq_true rfl⟩ rfl rfl (Nat.le_of_ble_eq_true rfl) rfl ?_
    refine z_istore [(4, .int r1), (3, .int (0 : Int32)), (0, .ref a0), (1, .int a1), (2, .int a2)] B 13 rfl (by decide) rfl ?_
    refine z_iconst 0 B 14 rfl (by decide) ?_
    refine z_istore [(5, .int (0 : Int32)), (4, .int r1), (3, .int (0 : Int32)), (0, .ref a0), (1, .int a1), (2, .int a2)] B 15 rfl (by decide) rfl ?_
    refine z_sub [(0, .ref a0), (1, .int a1), (2, .int a2), (3, .int (0 : Int32)), (4, .int r1), (5, .int (0 : Int32))] [3, 4, 5, 2, 1, 0] rfl ?_
    exact f5_worthOf_l24_ok hj X B hQ hr FU _ _ _ _ _ _ o_a0  hf
end
section
/-! ZoneCapacity.zone(III)I -/
def tbX6_zone : Tb := [(0, .aload_n 0, 1, 1), (1, .getfield 10, 3, 4), (4, .getfield 57, 3, 7), (7, .getfield 71, 3, 10), (10, .astore 4, 2, 12), (12, .aload 4, 2, 14), (14, .getfield 75, 3, 17), (17, .bipush 6, 2, 19), (19, .if_icmp .ge 12, 3, 22), (22, .aload 4, 2, 24), (24, .iload_n 1, 1, 25), (25, .invokevirtual 80, 3, 28), (28, .ifCond .ne 5, 3, 31), (31, .iconst (-1), 1, 32), (32, .ireturn, 1, 33), (33, .iload_n 2, 1, 34), (34, .iconst 0, 1, 35), (35, .sipush 9999, 3, 38), (38, .invokestatic 50, 3, 41), (41, .ifCond .eq 14, 3, 44), (44, .iload_n 3, 1, 45), (45, .iconst 0, 1, 46), (46, .sipush 9999, 3, 49), (49, .invokestatic 50, 3, 52), (52, .ifCond .ne 5, 3, 55), (55, .iconst (-1), 1, 56), (56, .ireturn, 1, 57), (57, .aload 4, 2, 59), (59, .iload_n 1, 1, 60), (60, .iload_n 2, 1, 61), (61, .iload_n 3, 1, 62), (62, .invokevirtual 84, 3, 65), (65, .ireturn, 1, 66)]
theorem dtX6_zone : ∀ q ∈ tbX6_zone, decode cX6_zone q.1 = .ok (q.2.1, q.2.2.1) ∧ q.1 + q.2.2.1 = q.2.2.2 := by decide +kernel
theorem miX6_zone : MI yX6_zone cX6_zone 5 (some .int) 3 := ⟨tw_mem (List.mem_of_getElem? (i := 592) (by decide +kernel)) rfl, by decide, by decide +kernel, tw_mem (List.mem_of_getElem? (i := 14) (by decide +kernel)) rfl⟩
abbrev rmX6_zone : Room := { frames := 2, cells := 0, slots := 0, locals := 46 }
def wX6_zone : List Cond := [.fieldLink "ZoneCapacity" 10 "ZoneCapacity" "now" "LZoneCapacity$Auction;", .fieldLink "ZoneCapacity" 57 "ZoneCapacity$Auction" "market" "LZoneCapacity$Market;", .fieldLink "ZoneCapacity" 71 "ZoneCapacity$Market" "zones" "LZoneCapacity$Zones;", .fieldLink "ZoneCapacity" 75 "ZoneCapacity$Zones" "many" "I", .methodLink "ZoneCapacity" 80 yX5_has, .instanceMethod yX5_has, .selects "ZoneCapacity$Zones" yX5_has yX5_has, .methodLink "ZoneCapacity" 50 yX6_within, .static yX6_within, .methodLink "ZoneCapacity" 84 yX5_add, .instanceMethod yX5_add, .selects "ZoneCapacity$Zones" yX5_add yX5_add]
theorem iX6_zone : ∀ w ∈ wX6_zone, w ∈ TW := tw_of (ids := [243, 161, 151, 70, 267, 268, 269, 279, 280, 593, 594, 595]) (by decide +kernel)
def f6_zone (mm : Mem) (a1 : Int32) (a2 : Int32) (a3 : Int32) : Option (Int32 × Mem) := if (mm 17 0) < (6 : Int32) then bd (f5_has mm 17 a1) (fun r1 => if r1 = 0 then some ((-1 : Int32), mm) else bd (f6_within mm a2 (0 : Int32) (9999 : Int32)) (fun r2 => if r2 = 0 then some ((-1 : Int32), mm) else bd (f6_within mm a3 (0 : Int32) (9999 : Int32)) (fun r3 => if r3 = 0 then some ((-1 : Int32), mm) else bd (f5_add mm 17 a1 a2 a3) (fun r4 => some (r4.1, r4.2))))) else some ((-1 : Int32), mm)
theorem ctX6_zone {l : Launch} {C : Cfg} (hj : Dj C) {mm : Mem} {a1 : Int32} {a2 : Int32} {a3 : Int32} {x : (Int32 × Mem)} (hf : f6_zone mm a1 a2 a3 = some x) : Ct l C yX6_zone cX6_zone 5 (some .int) 2 46 [.ref 14, .int a1, .int a2, .int a3] mm (some (.int x.1)) x.2 := by
  refine Ct.of (tb := tbX6_zone) hj miX6_zone.2.1 miX6_zone.1 dtX6_zone (Nat.le_of_ble_eq_true rfl) ?_
  intro E B hQ hr X
  unfold f6_zone at hf
  show G E 5 0 [(0, .ref 14), (1, .int a1), (2, .int a2), (3, .int a3)] [] mm
  refine z_aload_n B 0 rfl 0 0 rfl rfl ?_
  refine z_getr 6 0 14 B 1 rfl ob_14 rfl (iX6_zone _ (List.mem_of_getElem? (i := 0) rfl)) rfl ?_
  refine z_getr 0 0 15 B 2 rfl ob_15 rfl (iX6_zone _ (List.mem_of_getElem? (i := 1) rfl)) rfl ?_
  refine z_getr 1 0 16 B 3 rfl ob_16 rfl (iX6_zone _ (List.mem_of_getElem? (i := 2) rfl)) rfl ?_
  refine z_astore [(4, .ref 17), (0, .ref 14), (1, .int a1), (2, .int a2), (3, .int a3)] B 4 rfl (by decide) rfl ?_
  refine z_aload B 5 rfl 0 rfl ?_
  refine z_geti 5 0 17 B 6 rfl ob_17 rfl (iX6_zone _ (List.mem_of_getElem? (i := 3) rfl)) rfl ?_
  refine z_bipush 6 B 7 rfl (by decide) ?_
  by_cases hc : (mm 17 0) < (6 : Int32)
  · replace hf := (if_pos hc).symm.trans hf
    refine z_icmp_ge_f B 8 rfl 31 (by decide) hc ?_
    refine z_aload B 9 rfl 0 rfl ?_
    refine z_iload_n B 10 rfl 1 2 rfl rfl ?_
    obtain ⟨r1, ec, hf⟩ := bd_e hf
    refine z_callV 17 5 [.int a1] [] [.int r1] X B 11 rfl (by decide) ob_17 rfl rfl miX5_has ⟨(iX6_zone _ (List.mem_of_getElem? (i := 4) rfl)), (iX6_zone _ (List.mem_of_getElem? (i := 5) rfl)), (iX6_zone _ (List.mem_of_getElem? (i := 6) rfl))⟩ (ctX5_has hj ob_17 ec) ⟨Nat.le_of_ble_eq_true rfl, Nat.le_of_ble_eq_true rfl⟩ rfl rfl (Nat.le_of_ble_eq_true rfl) rfl ?_
    by_cases hc : r1 = 0
    · replace hf := (if_pos hc).symm.trans hf
      refine z_if_ne_f B 12 rfl 33 (by decide) hc ?_
      refine z_iconst (-1) B 13 rfl (by decide) ?_
      cases hf
      exact z_iret B 14 rfl rfl hQ hr
    · replace hf := (if_neg hc).symm.trans hf
      refine z_if_ne_t B 12 rfl 33 (by decide) hc ?_
      refine z_iload_n B 15 rfl 2 3 rfl rfl ?_
      refine z_iconst 0 B 16 rfl (by decide) ?_
      refine z_sipush 9999 B 17 rfl (by decide) ?_
      obtain ⟨r2, ec, hf⟩ := bd_e hf
      refine z_callS [.int a2, .int (0 : Int32), .int (9999 : Int32)] [] [.int r2] X B 18 rfl miX6_within ⟨(iX6_zone _ (List.mem_of_getElem? (i := 7) rfl)), (iX6_zone _ (List.mem_of_getElem? (i := 8) rfl))⟩ (ctX6_within hj ec) ⟨Nat.le_of_ble_eq_true rfl, Nat.le_of_ble_eq_true rfl⟩ rfl rfl (Nat.le_of_ble_eq_true rfl) rfl ?_
      by_cases hc : r2 = 0
      · replace hf := (if_pos hc).symm.trans hf
        refine z_if_eq_t B 19 rfl 55 (by decide) hc ?_
        refine z_iconst (-1) B 25 rfl (by decide) ?_
        cases hf
        exact z_iret B 26 rfl rfl hQ hr
      · replace hf := (if_neg hc).symm.trans hf
        refine z_if_eq_f B 19 rfl 55 (by decide) hc ?_
        refine z_iload_n B 20 rfl 3 4 rfl rfl ?_
        refine z_iconst 0 B 21 rfl (by decide) ?_
        refine z_sipush 9999 B 22 rfl (by decide) ?_
        obtain ⟨r3, ec, hf⟩ := bd_e hf
        refine z_callS [.int a3, .int (0 : Int32), .int (9999 : Int32)] [] [.int r3] X B 23 rfl miX6_within ⟨(iX6_zone _ (List.mem_of_getElem? (i := 7) rfl)), (iX6_zone _ (List.mem_of_getElem? (i := 8) rfl))⟩ (ctX6_within hj ec) ⟨Nat.le_of_ble_eq_true rfl, Nat.le_of_ble_eq_true rfl⟩ rfl rfl (Nat.le_of_ble_eq_true rfl) rfl ?_
        by_cases hc : r3 = 0
        · replace hf := (if_pos hc).symm.trans hf
          refine z_if_ne_f B 24 rfl 57 (by decide) hc ?_
          refine z_iconst (-1) B 25 rfl (by decide) ?_
          cases hf
          exact z_iret B 26 rfl rfl hQ hr
        · replace hf := (if_neg hc).symm.trans hf
          refine z_if_ne_t B 24 rfl 57 (by decide) hc ?_
          refine z_aload B 27 rfl 0 rfl ?_
          refine z_iload_n B 28 rfl 1 2 rfl rfl ?_
          refine z_iload_n B 29 rfl 2 3 rfl rfl ?_
          refine z_iload_n B 30 rfl 3 4 rfl rfl ?_
          obtain ⟨r4, ec, hf⟩ := bd_e hf
          refine z_callV 17 5 [.int a1, .int a2, .int a3] [] [.int r4.1] X B 31 rfl (by decide) ob_17 rfl rfl miX5_add ⟨(iX6_zone _ (List.mem_of_getElem? (i := 9) rfl)), (iX6_zone _ (List.mem_of_getElem? (i := 10) rfl)), (iX6_zone _ (List.mem_of_getElem? (i := 11) rfl))⟩ (ctX5_add hj ob_17 ec) ⟨Nat.le_of_ble_eq_true rfl, Nat.le_of_ble_eq_true rfl⟩ rfl rfl (Nat.le_of_ble_eq_true rfl) rfl ?_
          cases hf
          exact z_iret B 32 rfl rfl hQ hr
  · replace hf := (if_neg hc).symm.trans hf
    refine z_icmp_ge_t B 8 rfl 31 (by decide) hc ?_
    refine z_iconst (-1) B 13 rfl (by decide) ?_
    cases hf
    exact z_iret B 14 rfl rfl hQ hr
/-! ZoneCapacity.point(III)I -/
def tbX6_point : Tb := [(0, .aload_n 0, 1, 1), (1, .getfield 10, 3, 4), (4, .getfield 57, 3, 7), (7, .getfield 71, 3, 10), (10, .astore 4, 2, 12), (12, .aload 4, 2, 14), (14, .iload_n 1, 1, 15), (15, .invokevirtual 80, 3, 18), (18, .ifCond .eq 16, 3, 21), (21, .aload 4, 2, 23), (23, .getfield 88, 3, 26), (26, .iload_n 1, 1, 27), (27, .invokestatic 92, 3, 30), (30, .iconst 4, 1, 31), (31, .if_icmp .lt 5, 3, 34), (34, .iconst (-1), 1, 35), (35, .ireturn, 1, 36), (36, .iload_n 2, 1, 37), (37, .aload 4, 2, 39), (39, .iload_n 1, 1, 40), (40, .invokevirtual 96, 3, 43), (43, .iconst 1, 1, 44), (44, .iadd, 1, 45), (45, .sipush 2000, 3, 48), (48, .invokestatic 50, 3, 51), (51, .ifCond .eq 17, 3, 54), (54, .iload_n 3, 1, 55), (55, .iconst 0, 1, 56), (56, .aload 4, 2, 58), (58, .iload_n 1, 1, 59), (59, .invokevirtual 100, 3, 62), (62, .invokestatic 50, 3, 65), (65, .ifCond .ne 5, 3, 68), (68, .iconst (-1), 1, 69), (69, .ireturn, 1, 70), (70, .aload 4, 2, 72), (72, .iload_n 1, 1, 73), (73, .iload_n 2, 1, 74), (74, .iload_n 3, 1, 75), (75, .invokevirtual 103, 3, 78), (78, .ireturn, 1, 79)]
theorem dtX6_point : ∀ q ∈ tbX6_point, decode cX6_point q.1 = .ok (q.2.1, q.2.2.1) ∧ q.1 + q.2.2.1 = q.2.2.2 := by decide +kernel
theorem miX6_point : MI yX6_point cX6_point 5 (some .int) 3 := ⟨tw_mem (List.mem_of_getElem? (i := 266) (by decide +kernel)) rfl, by decide, by decide +kernel, tw_mem (List.mem_of_getElem? (i := 14) (by decide +kernel)) rfl⟩
abbrev rmX6_point : Room := { frames := 2, cells := 0, slots := 0, locals := 46 }
def wX6_point : List Cond := [.fieldLink "ZoneCapacity" 10 "ZoneCapacity" "now" "LZoneCapacity$Auction;", .fieldLink "ZoneCapacity" 57 "ZoneCapacity$Auction" "market" "LZoneCapacity$Market;", .fieldLink "ZoneCapacity" 71 "ZoneCapacity$Market" "zones" "LZoneCapacity$Zones;", .methodLink "ZoneCapacity" 80 yX5_has, .instanceMethod yX5_has, .selects "ZoneCapacity$Zones" yX5_has yX5_has, .fieldLink "ZoneCapacity" 88 "ZoneCapacity$Zones" "points" "[I", .methodLink "ZoneCapacity" 92 yX6_at, .static yX6_at, .methodLink "ZoneCapacity" 96 yX5_wanted, .instanceMethod yX5_wanted, .selects "ZoneCapacity$Zones" yX5_wanted yX5_wanted, .methodLink "ZoneCapacity" 50 yX6_within, .static yX6_within, .methodLink "ZoneCapacity" 100 yX5_lastPrice, .instanceMethod yX5_lastPrice, .selects "ZoneCapacity$Zones" yX5_lastPrice yX5_lastPrice, .methodLink "ZoneCapacity" 103 yX5_addPoint, .instanceMethod yX5_addPoint, .selects "ZoneCapacity$Zones" yX5_addPoint yX5_addPoint]
theorem iX6_point : ∀ w ∈ wX6_point, w ∈ TW := tw_of (ids := [243, 161, 151, 267, 268, 269, 80, 271, 272, 274, 275, 276, 279, 280, 282, 283, 284, 286, 287, 288]) (by decide +kernel)
def f6_point (mm : Mem) (a1 : Int32) (a2 : Int32) (a3 : Int32) : Option (Int32 × Mem) := bd (f5_has mm 17 a1) (fun r1 => if r1 = 0 then some ((-1 : Int32), mm) else bd (f6_at mm 21 a1) (fun r2 => if r2 < (4 : Int32) then bd (f5_wanted mm 17 a1) (fun r3 => bd (f6_within mm a2 (r3 + (1 : Int32)) (2000 : Int32)) (fun r4 => if r4 = 0 then some ((-1 : Int32), mm) else bd (f5_lastPrice mm 17 a1) (fun r5 => bd (f6_within mm a3 (0 : Int32) r5) (fun r6 => if r6 = 0 then some ((-1 : Int32), mm) else bd (f5_addPoint mm 17 a1 a2 a3) (fun r7 => some (r7.1, r7.2)))))) else some ((-1 : Int32), mm)))
theorem ctX6_point {l : Launch} {C : Cfg} (hj : Dj C) {mm : Mem} {a1 : Int32} {a2 : Int32} {a3 : Int32} {x : (Int32 × Mem)} (hf : f6_point mm a1 a2 a3 = some x) : Ct l C yX6_point cX6_point 5 (some .int) 2 46 [.ref 14, .int a1, .int a2, .int a3] mm (some (.int x.1)) x.2 := by
  refine Ct.of (tb := tbX6_point) hj miX6_point.2.1 miX6_point.1 dtX6_point (Nat.le_of_ble_eq_true rfl) ?_
  intro E B hQ hr X
  unfold f6_point at hf
  show G E 5 0 [(0, .ref 14), (1, .int a1), (2, .int a2), (3, .int a3)] [] mm
  refine z_aload_n B 0 rfl 0 0 rfl rfl ?_
  refine z_getr 6 0 14 B 1 rfl ob_14 rfl (iX6_point _ (List.mem_of_getElem? (i := 0) rfl)) rfl ?_
  refine z_getr 0 0 15 B 2 rfl ob_15 rfl (iX6_point _ (List.mem_of_getElem? (i := 1) rfl)) rfl ?_
  refine z_getr 1 0 16 B 3 rfl ob_16 rfl (iX6_point _ (List.mem_of_getElem? (i := 2) rfl)) rfl ?_
  refine z_astore [(4, .ref 17), (0, .ref 14), (1, .int a1), (2, .int a2), (3, .int a3)] B 4 rfl (by decide) rfl ?_
  refine z_aload B 5 rfl 0 rfl ?_
  refine z_iload_n B 6 rfl 1 2 rfl rfl ?_
  obtain ⟨r1, ec, hf⟩ := bd_e hf
  refine z_callV 17 5 [.int a1] [] [.int r1] X B 7 rfl (by decide) ob_17 rfl rfl miX5_has ⟨(iX6_point _ (List.mem_of_getElem? (i := 3) rfl)), (iX6_point _ (List.mem_of_getElem? (i := 4) rfl)), (iX6_point _ (List.mem_of_getElem? (i := 5) rfl))⟩ (ctX5_has hj ob_17 ec) ⟨Nat.le_of_ble_eq_true rfl, Nat.le_of_ble_eq_true rfl⟩ rfl rfl (Nat.le_of_ble_eq_true rfl) rfl ?_
  by_cases hc : r1 = 0
  · replace hf := (if_pos hc).symm.trans hf
    refine z_if_eq_t B 8 rfl 34 (by decide) hc ?_
    refine z_iconst (-1) B 15 rfl (by decide) ?_
    cases hf
    exact z_iret B 16 rfl rfl hQ hr
  · replace hf := (if_neg hc).symm.trans hf
    refine z_if_eq_f B 8 rfl 34 (by decide) hc ?_
    refine z_aload B 9 rfl 0 rfl ?_
    refine z_getr 5 4 17 B 10 rfl ob_17 rfl (iX6_point _ (List.mem_of_getElem? (i := 6) rfl)) rfl ?_
    refine z_iload_n B 11 rfl 1 2 rfl rfl ?_
    obtain ⟨r2, ec, hf⟩ := bd_e hf
    refine z_callS [.ref 21, .int a1] [] [.int r2] X B 12 rfl miX6_at ⟨(iX6_point _ (List.mem_of_getElem? (i := 7) rfl)), (iX6_point _ (List.mem_of_getElem? (i := 8) rfl))⟩ (ctX6_at hj ob_21 ec) ⟨Nat.le_of_ble_eq_true rfl, Nat.le_of_ble_eq_true rfl⟩ rfl rfl (Nat.le_of_ble_eq_true rfl) rfl ?_
    refine z_iconst 4 B 13 rfl (by decide) ?_
    by_cases hc : r2 < (4 : Int32)
    · replace hf := (if_pos hc).symm.trans hf
      refine z_icmp_lt_t B 14 rfl 36 (by decide) hc ?_
      refine z_iload_n B 17 rfl 2 3 rfl rfl ?_
      refine z_aload B 18 rfl 0 rfl ?_
      refine z_iload_n B 19 rfl 1 2 rfl rfl ?_
      obtain ⟨r3, ec, hf⟩ := bd_e hf
      refine z_callV 17 5 [.int a1] [.int a2] [.int r3, .int a2] X B 20 rfl (by decide) ob_17 rfl rfl miX5_wanted ⟨(iX6_point _ (List.mem_of_getElem? (i := 9) rfl)), (iX6_point _ (List.mem_of_getElem? (i := 10) rfl)), (iX6_point _ (List.mem_of_getElem? (i := 11) rfl))⟩ (ctX5_wanted hj ob_17 ec) ⟨Nat.le_of_ble_eq_true rfl, Nat.le_of_ble_eq_true rfl⟩ rfl rfl (Nat.le_of_ble_eq_true rfl) rfl ?_
      refine z_iconst 1 B 21 rfl (by decide) ?_
      refine z_iadd B 22 rfl ?_
      refine z_sipush 2000 B 23 rfl (by decide) ?_
      obtain ⟨r4, ec, hf⟩ := bd_e hf
      refine z_callS [.int a2, .int (r3 + (1 : Int32)), .int (2000 : Int32)] [] [.int r4] X B 24 rfl miX6_within ⟨(iX6_point _ (List.mem_of_getElem? (i := 12) rfl)), (iX6_point _ (List.mem_of_getElem? (i := 13) rfl))⟩ (ctX6_within hj ec) ⟨Nat.le_of_ble_eq_true rfl, Nat.le_of_ble_eq_true rfl⟩ rfl rfl (Nat.le_of_ble_eq_true rfl) rfl ?_
      by_cases hc : r4 = 0
      · replace hf := (if_pos hc).symm.trans hf
        refine z_if_eq_t B 25 rfl 68 (by decide) hc ?_
        refine z_iconst (-1) B 33 rfl (by decide) ?_
        cases hf
        exact z_iret B 34 rfl rfl hQ hr
      · replace hf := (if_neg hc).symm.trans hf
        refine z_if_eq_f B 25 rfl 68 (by decide) hc ?_
        refine z_iload_n B 26 rfl 3 4 rfl rfl ?_
        refine z_iconst 0 B 27 rfl (by decide) ?_
        refine z_aload B 28 rfl 0 rfl ?_
        refine z_iload_n B 29 rfl 1 2 rfl rfl ?_
        obtain ⟨r5, ec, hf⟩ := bd_e hf
        refine z_callV 17 5 [.int a1] [.int (0 : Int32), .int a3] [.int r5, .int (0 : Int32), .int a3] X B 30 rfl (by decide) ob_17 rfl rfl miX5_lastPrice ⟨(iX6_point _ (List.mem_of_getElem? (i := 14) rfl)), (iX6_point _ (List.mem_of_getElem? (i := 15) rfl)), (iX6_point _ (List.mem_of_getElem? (i := 16) rfl))⟩ (ctX5_lastPrice hj ob_17 ec) ⟨Nat.le_of_ble_eq_true rfl, Nat.le_of_ble_eq_true rfl⟩ rfl rfl (Nat.le_of_ble_eq_true rfl) rfl ?_
        obtain ⟨r6, ec, hf⟩ := bd_e hf
        refine z_callS [.int a3, .int (0 : Int32), .int r5] [] [.int r6] X B 31 rfl miX6_within ⟨(iX6_point _ (List.mem_of_getElem? (i := 12) rfl)), (iX6_point _ (List.mem_of_getElem? (i := 13) rfl))⟩ (ctX6_within hj ec) ⟨Nat.le_of_ble_eq_true rfl, Nat.le_of_ble_eq_true rfl⟩ rfl rfl (Nat.le_of_ble_eq_true rfl) rfl ?_
        by_cases hc : r6 = 0
        · replace hf := (if_pos hc).symm.trans hf
          refine z_if_ne_f B 32 rfl 70 (by decide) hc ?_
          refine z_iconst (-1) B 33 rfl (by decide) ?_
          cases hf
          exact z_iret B 34 rfl rfl hQ hr
        · replace hf := (if_neg hc).symm.trans hf
          refine z_if_ne_t B 32 rfl 70 (by decide) hc ?_
          refine z_aload B 35 rfl 0 rfl ?_
          refine z_iload_n B 36 rfl 1 2 rfl rfl ?_
          refine z_iload_n B 37 rfl 2 3 rfl rfl ?_
          refine z_iload_n B 38 rfl 3 4 rfl rfl ?_
          obtain ⟨r7, ec, hf⟩ := bd_e hf
          refine z_callV 17 5 [.int a1, .int a2, .int a3] [] [.int r7.1] X B 39 rfl (by decide) ob_17 rfl rfl miX5_addPoint ⟨(iX6_point _ (List.mem_of_getElem? (i := 17) rfl)), (iX6_point _ (List.mem_of_getElem? (i := 18) rfl)), (iX6_point _ (List.mem_of_getElem? (i := 19) rfl))⟩ (ctX5_addPoint hj ob_17 ec) ⟨Nat.le_of_ble_eq_true rfl, Nat.le_of_ble_eq_true rfl⟩ rfl rfl (Nat.le_of_ble_eq_true rfl) rfl ?_
          cases hf
          exact z_iret B 40 rfl rfl hQ hr
    · replace hf := (if_neg hc).symm.trans hf
      refine z_icmp_lt_f B 14 rfl 36 (by decide) hc ?_
      refine z_iconst (-1) B 15 rfl (by decide) ?_
      cases hf
      exact z_iret B 16 rfl rfl hQ hr
/-! ZoneCapacity.resource(IIIIZ)I -/
def tbX6_resource : Tb := [(0, .aload_n 0, 1, 1), (1, .getfield 10, 3, 4), (4, .getfield 57, 3, 7), (7, .getfield 106, 3, 10), (10, .astore 6, 2, 12), (12, .aload 6, 2, 14), (14, .getfield 110, 3, 17), (17, .bipush 12, 2, 19), (19, .if_icmp .ge 20, 3, 22), (22, .aload_n 0, 1, 23), (23, .getfield 10, 3, 26), (26, .getfield 57, 3, 29), (29, .getfield 71, 3, 32), (32, .iload_n 1, 1, 33), (33, .invokevirtual 80, 3, 36), (36, .ifCond .ne 5, 3, 39), (39, .iconst (-1), 1, 40), (40, .ireturn, 1, 41), (41, .iload_n 2, 1, 42), (42, .iconst 1, 1, 43), (43, .sipush 500, 3, 46), (46, .invokestatic 50, 3, 49), (49, .ifCond .eq 22, 3, 52), (52, .iload_n 3, 1, 53), (53, .iconst 0, 1, 54), (54, .iconst 3, 1, 55), (55, .invokestatic 50, 3, 58), (58, .ifCond .eq 13, 3, 61), (61, .iload 4, 2, 63), (63, .iconst 0, 1, 64), (64, .iconst 5, 1, 65), (65, .invokestatic 50, 3, 68), (68, .ifCond .ne 5, 3, 71), (71, .iconst (-1), 1, 72), (72, .ireturn, 1, 73), (73, .aload 6, 2, 75), (75, .iload_n 1, 1, 76), (76, .iload_n 2, 1, 77), (77, .iload_n 3, 1, 78), (78, .iload 4, 2, 80), (80, .iload 5, 2, 82), (82, .iconst 0, 1, 83), (83, .invokevirtual 113, 3, 86), (86, .ireturn, 1, 87)]
theorem dtX6_resource : ∀ q ∈ tbX6_resource, decode cX6_resource q.1 = .ok (q.2.1, q.2.2.1) ∧ q.1 + q.2.2.1 = q.2.2.2 := by decide +kernel
theorem miX6_resource : MI yX6_resource cX6_resource 7 (some .int) 5 := ⟨tw_mem (List.mem_of_getElem? (i := 781) (by decide +kernel)) rfl, by decide, by decide +kernel, tw_mem (List.mem_of_getElem? (i := 14) (by decide +kernel)) rfl⟩
abbrev rmX6_resource : Room := { frames := 2, cells := 0, slots := 0, locals := 49 }
def wX6_resource : List Cond := [.fieldLink "ZoneCapacity" 10 "ZoneCapacity" "now" "LZoneCapacity$Auction;", .fieldLink "ZoneCapacity" 57 "ZoneCapacity$Auction" "market" "LZoneCapacity$Market;", .fieldLink "ZoneCapacity" 106 "ZoneCapacity$Market" "offers" "LZoneCapacity$Offers;", .fieldLink "ZoneCapacity" 110 "ZoneCapacity$Offers" "many" "I", .fieldLink "ZoneCapacity" 71 "ZoneCapacity$Market" "zones" "LZoneCapacity$Zones;", .methodLink "ZoneCapacity" 80 yX5_has, .instanceMethod yX5_has, .selects "ZoneCapacity$Zones" yX5_has yX5_has, .methodLink "ZoneCapacity" 50 yX6_within, .static yX6_within, .methodLink "ZoneCapacity" 113 yX2_add, .instanceMethod yX2_add, .selects "ZoneCapacity$Offers" yX2_add yX2_add]
theorem iX6_resource : ∀ w ∈ wX6_resource, w ∈ TW := tw_of (ids := [243, 161, 154, 107, 151, 267, 268, 269, 279, 280, 782, 783, 784]) (by decide +kernel)
def f6_resource (mm : Mem) (a1 : Int32) (a2 : Int32) (a3 : Int32) (a4 : Int32) (a5 : Int32) : Option (Int32 × Mem) := if (mm 24 0) < (12 : Int32) then bd (f5_has mm 17 a1) (fun r1 => if r1 = 0 then some ((-1 : Int32), mm) else bd (f6_within mm a2 (1 : Int32) (500 : Int32)) (fun r2 => if r2 = 0 then some ((-1 : Int32), mm) else bd (f6_within mm a3 (0 : Int32) (3 : Int32)) (fun r3 => if r3 = 0 then some ((-1 : Int32), mm) else bd (f6_within mm a4 (0 : Int32) (5 : Int32)) (fun r4 => if r4 = 0 then some ((-1 : Int32), mm) else bd (f2_add mm 24 a1 a2 a3 a4 a5 (0 : Int32)) (fun r5 => some (r5.1, r5.2)))))) else some ((-1 : Int32), mm)
theorem ctX6_resource {l : Launch} {C : Cfg} (hj : Dj C) {mm : Mem} {a1 : Int32} {a2 : Int32} {a3 : Int32} {a4 : Int32} {a5 : Int32} {x : (Int32 × Mem)} (hf : f6_resource mm a1 a2 a3 a4 a5 = some x) : Ct l C yX6_resource cX6_resource 7 (some .int) 2 49 [.ref 14, .int a1, .int a2, .int a3, .int a4, .int a5] mm (some (.int x.1)) x.2 := by
  refine Ct.of (tb := tbX6_resource) hj miX6_resource.2.1 miX6_resource.1 dtX6_resource (Nat.le_of_ble_eq_true rfl) ?_
  intro E B hQ hr X
  unfold f6_resource at hf
  show G E 7 0 [(0, .ref 14), (1, .int a1), (2, .int a2), (3, .int a3), (4, .int a4), (5, .int a5)] [] mm
  refine z_aload_n B 0 rfl 0 0 rfl rfl ?_
  refine z_getr 6 0 14 B 1 rfl ob_14 rfl (iX6_resource _ (List.mem_of_getElem? (i := 0) rfl)) rfl ?_
  refine z_getr 0 0 15 B 2 rfl ob_15 rfl (iX6_resource _ (List.mem_of_getElem? (i := 1) rfl)) rfl ?_
  refine z_getr 1 1 16 B 3 rfl ob_16 rfl (iX6_resource _ (List.mem_of_getElem? (i := 2) rfl)) rfl ?_
  refine z_astore [(6, .ref 24), (0, .ref 14), (1, .int a1), (2, .int a2), (3, .int a3), (4, .int a4), (5, .int a5)] B 4 rfl (by decide) rfl ?_
  refine z_aload B 5 rfl 0 rfl ?_
  refine z_geti 2 0 24 B 6 rfl ob_24 rfl (iX6_resource _ (List.mem_of_getElem? (i := 3) rfl)) rfl ?_
  refine z_bipush 12 B 7 rfl (by decide) ?_
  by_cases hc : (mm 24 0) < (12 : Int32)
  · replace hf := (if_pos hc).symm.trans hf
    refine z_icmp_ge_f B 8 rfl 39 (by decide) hc ?_
    refine z_aload_n B 9 rfl 0 1 rfl rfl ?_
    refine z_getr 6 0 14 B 10 rfl ob_14 rfl (iX6_resource _ (List.mem_of_getElem? (i := 0) rfl)) rfl ?_
    refine z_getr 0 0 15 B 11 rfl ob_15 rfl (iX6_resource _ (List.mem_of_getElem? (i := 1) rfl)) rfl ?_
    refine z_getr 1 0 16 B 12 rfl ob_16 rfl (iX6_resource _ (List.mem_of_getElem? (i := 4) rfl)) rfl ?_
    refine z_iload_n B 13 rfl 1 2 rfl rfl ?_
    obtain ⟨r1, ec, hf⟩ := bd_e hf
    refine z_callV 17 5 [.int a1] [] [.int r1] X B 14 rfl (by decide) ob_17 rfl rfl miX5_has ⟨(iX6_resource _ (List.mem_of_getElem? (i := 5) rfl)), (iX6_resource _ (List.mem_of_getElem? (i := 6) rfl)), (iX6_resource _ (List.mem_of_getElem? (i := 7) rfl))⟩ (ctX5_has hj ob_17 ec) ⟨Nat.le_of_ble_eq_true rfl, Nat.le_of_ble_eq_true rfl⟩ rfl rfl (Nat.le_of_ble_eq_true rfl) rfl ?_
    by_cases hc : r1 = 0
    · replace hf := (if_pos hc).symm.trans hf
      refine z_if_ne_f B 15 rfl 41 (by decide) hc ?_
      refine z_iconst (-1) B 16 rfl (by decide) ?_
      cases hf
      exact z_iret B 17 rfl rfl hQ hr
    · replace hf := (if_neg hc).symm.trans hf
      refine z_if_ne_t B 15 rfl 41 (by decide) hc ?_
      refine z_iload_n B 18 rfl 2 3 rfl rfl ?_
      refine z_iconst 1 B 19 rfl (by decide) ?_
      refine z_sipush 500 B 20 rfl (by decide) ?_
      obtain ⟨r2, ec, hf⟩ := bd_e hf
      refine z_callS [.int a2, .int (1 : Int32), .int (500 : Int32)] [] [.int r2] X B 21 rfl miX6_within ⟨(iX6_resource _ (List.mem_of_getElem? (i := 8) rfl)), (iX6_resource _ (List.mem_of_getElem? (i := 9) rfl))⟩ (ctX6_within hj ec) ⟨Nat.le_of_ble_eq_true rfl, Nat.le_of_ble_eq_true rfl⟩ rfl rfl (Nat.le_of_ble_eq_true rfl) rfl ?_
      by_cases hc : r2 = 0
      · replace hf := (if_pos hc).symm.trans hf
        refine z_if_eq_t B 22 rfl 71 (by decide) hc ?_
        refine z_iconst (-1) B 33 rfl (by decide) ?_
        cases hf
        exact z_iret B 34 rfl rfl hQ hr
      · replace hf := (if_neg hc).symm.trans hf
        refine z_if_eq_f B 22 rfl 71 (by decide) hc ?_
        refine z_iload_n B 23 rfl 3 4 rfl rfl ?_
        refine z_iconst 0 B 24 rfl (by decide) ?_
        refine z_iconst 3 B 25 rfl (by decide) ?_
        obtain ⟨r3, ec, hf⟩ := bd_e hf
        refine z_callS [.int a3, .int (0 : Int32), .int (3 : Int32)] [] [.int r3] X B 26 rfl miX6_within ⟨(iX6_resource _ (List.mem_of_getElem? (i := 8) rfl)), (iX6_resource _ (List.mem_of_getElem? (i := 9) rfl))⟩ (ctX6_within hj ec) ⟨Nat.le_of_ble_eq_true rfl, Nat.le_of_ble_eq_true rfl⟩ rfl rfl (Nat.le_of_ble_eq_true rfl) rfl ?_
        by_cases hc : r3 = 0
        · replace hf := (if_pos hc).symm.trans hf
          refine z_if_eq_t B 27 rfl 71 (by decide) hc ?_
          refine z_iconst (-1) B 33 rfl (by decide) ?_
          cases hf
          exact z_iret B 34 rfl rfl hQ hr
        · replace hf := (if_neg hc).symm.trans hf
          refine z_if_eq_f B 27 rfl 71 (by decide) hc ?_
          refine z_iload B 28 rfl 5 rfl ?_
          refine z_iconst 0 B 29 rfl (by decide) ?_
          refine z_iconst 5 B 30 rfl (by decide) ?_
          obtain ⟨r4, ec, hf⟩ := bd_e hf
          refine z_callS [.int a4, .int (0 : Int32), .int (5 : Int32)] [] [.int r4] X B 31 rfl miX6_within ⟨(iX6_resource _ (List.mem_of_getElem? (i := 8) rfl)), (iX6_resource _ (List.mem_of_getElem? (i := 9) rfl))⟩ (ctX6_within hj ec) ⟨Nat.le_of_ble_eq_true rfl, Nat.le_of_ble_eq_true rfl⟩ rfl rfl (Nat.le_of_ble_eq_true rfl) rfl ?_
          by_cases hc : r4 = 0
          · replace hf := (if_pos hc).symm.trans hf
            refine z_if_ne_f B 32 rfl 73 (by decide) hc ?_
            refine z_iconst (-1) B 33 rfl (by decide) ?_
            cases hf
            exact z_iret B 34 rfl rfl hQ hr
          · replace hf := (if_neg hc).symm.trans hf
            refine z_if_ne_t B 32 rfl 73 (by decide) hc ?_
            refine z_aload B 35 rfl 0 rfl ?_
            refine z_iload_n B 36 rfl 1 2 rfl rfl ?_
            refine z_iload_n B 37 rfl 2 3 rfl rfl ?_
            refine z_iload_n B 38 rfl 3 4 rfl rfl ?_
            refine z_iload B 39 rfl 5 rfl ?_
            refine z_iload B 40 rfl 6 rfl ?_
            refine z_iconst 0 B 41 rfl (by decide) ?_
            obtain ⟨r5, ec, hf⟩ := bd_e hf
            refine z_callV 24 2 [.int a1, .int a2, .int a3, .int a4, .int a5, .int (0 : Int32)] [] [.int r5.1] X B 42 rfl (by decide) ob_24 rfl rfl miX2_add ⟨(iX6_resource _ (List.mem_of_getElem? (i := 10) rfl)), (iX6_resource _ (List.mem_of_getElem? (i := 11) rfl)), (iX6_resource _ (List.mem_of_getElem? (i := 12) rfl))⟩ (ctX2_add hj ob_24 ec) ⟨Nat.le_of_ble_eq_true rfl, Nat.le_of_ble_eq_true rfl⟩ rfl rfl (Nat.le_of_ble_eq_true rfl) rfl ?_
            cases hf
            exact z_iret B 43 rfl rfl hQ hr
  · replace hf := (if_neg hc).symm.trans hf
    refine z_icmp_ge_t B 8 rfl 39 (by decide) hc ?_
    refine z_iconst (-1) B 16 rfl (by decide) ?_
    cases hf
    exact z_iret B 17 rfl rfl hQ hr
/-! ZoneCapacity.step(III)I -/
def tbX6_step : Tb := [(0, .aload_n 0, 1, 1), (1, .getfield 10, 3, 4), (4, .getfield 57, 3, 7), (7, .getfield 106, 3, 10), (10, .astore 4, 2, 12), (12, .aload 4, 2, 14), (14, .iload_n 1, 1, 15), (15, .invokevirtual 116, 3, 18), (18, .ifCond .eq 16, 3, 21), (21, .aload 4, 2, 23), (23, .getfield 117, 3, 26), (26, .iload_n 1, 1, 27), (27, .invokestatic 92, 3, 30), (30, .iconst 3, 1, 31), (31, .if_icmp .lt 5, 3, 34), (34, .iconst (-1), 1, 35), (35, .ireturn, 1, 36), (36, .iload_n 2, 1, 37), (37, .iconst 1, 1, 38), (38, .aload 4, 2, 40), (40, .iload_n 1, 1, 41), (41, .invokevirtual 120, 3, 44), (44, .invokestatic 50, 3, 47), (47, .ifCond .eq 19, 3, 50), (50, .iload_n 3, 1, 51), (51, .aload 4, 2, 53), (53, .iload_n 1, 1, 54), (54, .invokevirtual 123, 3, 57), (57, .sipush 9999, 3, 60), (60, .invokestatic 50, 3, 63), (63, .ifCond .ne 5, 3, 66), (66, .iconst (-1), 1, 67), (67, .ireturn, 1, 68), (68, .aload 4, 2, 70), (70, .iload_n 1, 1, 71), (71, .iload_n 2, 1, 72), (72, .iload_n 3, 1, 73), (73, .invokevirtual 124, 3, 76), (76, .ireturn, 1, 77)]
theorem dtX6_step : ∀ q ∈ tbX6_step, decode cX6_step q.1 = .ok (q.2.1, q.2.2.1) ∧ q.1 + q.2.2.1 = q.2.2.2 := by decide +kernel
theorem miX6_step : MI yX6_step cX6_step 5 (some .int) 3 := ⟨tw_mem (List.mem_of_getElem? (i := 794) (by decide +kernel)) rfl, by decide, by decide +kernel, tw_mem (List.mem_of_getElem? (i := 14) (by decide +kernel)) rfl⟩
abbrev rmX6_step : Room := { frames := 2, cells := 0, slots := 0, locals := 46 }
def wX6_step : List Cond := [.fieldLink "ZoneCapacity" 10 "ZoneCapacity" "now" "LZoneCapacity$Auction;", .fieldLink "ZoneCapacity" 57 "ZoneCapacity$Auction" "market" "LZoneCapacity$Market;", .fieldLink "ZoneCapacity" 106 "ZoneCapacity$Market" "offers" "LZoneCapacity$Offers;", .methodLink "ZoneCapacity" 116 yX2_has, .instanceMethod yX2_has, .selects "ZoneCapacity$Offers" yX2_has yX2_has, .fieldLink "ZoneCapacity" 117 "ZoneCapacity$Offers" "steps" "[I", .methodLink "ZoneCapacity" 92 yX6_at, .static yX6_at, .methodLink "ZoneCapacity" 120 yX2_rest, .instanceMethod yX2_rest, .selects "ZoneCapacity$Offers" yX2_rest yX2_rest, .methodLink "ZoneCapacity" 50 yX6_within, .static yX6_within, .methodLink "ZoneCapacity" 123 yX2_lastPrice, .instanceMethod yX2_lastPrice, .selects "ZoneCapacity$Offers" yX2_lastPrice yX2_lastPrice, .methodLink "ZoneCapacity" 124 yX2_addStep, .instanceMethod yX2_addStep, .selects "ZoneCapacity$Offers" yX2_addStep yX2_addStep]
theorem iX6_step : ∀ w ∈ wX6_step, w ∈ TW := tw_of (ids := [243, 161, 154, 297, 298, 299, 121, 271, 272, 795, 345, 346, 279, 280, 796, 797, 798, 800, 801, 802]) (by decide +kernel)
def f6_step (mm : Mem) (a1 : Int32) (a2 : Int32) (a3 : Int32) : Option (Int32 × Mem) := bd (f2_has mm 24 a1) (fun r1 => if r1 = 0 then some ((-1 : Int32), mm) else bd (f6_at mm 32 a1) (fun r2 => if r2 < (3 : Int32) then bd (f2_rest mm 24 a1) (fun r3 => bd (f6_within mm a2 (1 : Int32) r3) (fun r4 => if r4 = 0 then some ((-1 : Int32), mm) else bd (f2_lastPrice mm 24 a1) (fun r5 => bd (f6_within mm a3 r5 (9999 : Int32)) (fun r6 => if r6 = 0 then some ((-1 : Int32), mm) else bd (f2_addStep mm 24 a1 a2 a3) (fun r7 => some (r7.1, r7.2)))))) else some ((-1 : Int32), mm)))
theorem ctX6_step {l : Launch} {C : Cfg} (hj : Dj C) {mm : Mem} {a1 : Int32} {a2 : Int32} {a3 : Int32} {x : (Int32 × Mem)} (hf : f6_step mm a1 a2 a3 = some x) : Ct l C yX6_step cX6_step 5 (some .int) 2 46 [.ref 14, .int a1, .int a2, .int a3] mm (some (.int x.1)) x.2 := by
  refine Ct.of (tb := tbX6_step) hj miX6_step.2.1 miX6_step.1 dtX6_step (Nat.le_of_ble_eq_true rfl) ?_
  intro E B hQ hr X
  unfold f6_step at hf
  show G E 5 0 [(0, .ref 14), (1, .int a1), (2, .int a2), (3, .int a3)] [] mm
  refine z_aload_n B 0 rfl 0 0 rfl rfl ?_
  refine z_getr 6 0 14 B 1 rfl ob_14 rfl (iX6_step _ (List.mem_of_getElem? (i := 0) rfl)) rfl ?_
  refine z_getr 0 0 15 B 2 rfl ob_15 rfl (iX6_step _ (List.mem_of_getElem? (i := 1) rfl)) rfl ?_
  refine z_getr 1 1 16 B 3 rfl ob_16 rfl (iX6_step _ (List.mem_of_getElem? (i := 2) rfl)) rfl ?_
  refine z_astore [(4, .ref 24), (0, .ref 14), (1, .int a1), (2, .int a2), (3, .int a3)] B 4 rfl (by decide) rfl ?_
  refine z_aload B 5 rfl 0 rfl ?_
  refine z_iload_n B 6 rfl 1 2 rfl rfl ?_
  obtain ⟨r1, ec, hf⟩ := bd_e hf
  refine z_callV 24 2 [.int a1] [] [.int r1] X B 7 rfl (by decide) ob_24 rfl rfl miX2_has ⟨(iX6_step _ (List.mem_of_getElem? (i := 3) rfl)), (iX6_step _ (List.mem_of_getElem? (i := 4) rfl)), (iX6_step _ (List.mem_of_getElem? (i := 5) rfl))⟩ (ctX2_has hj ob_24 ec) ⟨Nat.le_of_ble_eq_true rfl, Nat.le_of_ble_eq_true rfl⟩ rfl rfl (Nat.le_of_ble_eq_true rfl) rfl ?_
  by_cases hc : r1 = 0
  · replace hf := (if_pos hc).symm.trans hf
    refine z_if_eq_t B 8 rfl 34 (by decide) hc ?_
    refine z_iconst (-1) B 15 rfl (by decide) ?_
    cases hf
    exact z_iret B 16 rfl rfl hQ hr
  · replace hf := (if_neg hc).symm.trans hf
    refine z_if_eq_f B 8 rfl 34 (by decide) hc ?_
    refine z_aload B 9 rfl 0 rfl ?_
    refine z_getr 2 9 24 B 10 rfl ob_24 rfl (iX6_step _ (List.mem_of_getElem? (i := 6) rfl)) rfl ?_
    refine z_iload_n B 11 rfl 1 2 rfl rfl ?_
    obtain ⟨r2, ec, hf⟩ := bd_e hf
    refine z_callS [.ref 32, .int a1] [] [.int r2] X B 12 rfl miX6_at ⟨(iX6_step _ (List.mem_of_getElem? (i := 7) rfl)), (iX6_step _ (List.mem_of_getElem? (i := 8) rfl))⟩ (ctX6_at hj ob_32 ec) ⟨Nat.le_of_ble_eq_true rfl, Nat.le_of_ble_eq_true rfl⟩ rfl rfl (Nat.le_of_ble_eq_true rfl) rfl ?_
    refine z_iconst 3 B 13 rfl (by decide) ?_
    by_cases hc : r2 < (3 : Int32)
    · replace hf := (if_pos hc).symm.trans hf
      refine z_icmp_lt_t B 14 rfl 36 (by decide) hc ?_
      refine z_iload_n B 17 rfl 2 3 rfl rfl ?_
      refine z_iconst 1 B 18 rfl (by decide) ?_
      refine z_aload B 19 rfl 0 rfl ?_
      refine z_iload_n B 20 rfl 1 2 rfl rfl ?_
      obtain ⟨r3, ec, hf⟩ := bd_e hf
      refine z_callV 24 2 [.int a1] [.int (1 : Int32), .int a2] [.int r3, .int (1 : Int32), .int a2] X B 21 rfl (by decide) ob_24 rfl rfl miX2_rest ⟨(iX6_step _ (List.mem_of_getElem? (i := 9) rfl)), (iX6_step _ (List.mem_of_getElem? (i := 10) rfl)), (iX6_step _ (List.mem_of_getElem? (i := 11) rfl))⟩ (ctX2_rest hj ob_24 ec) ⟨Nat.le_of_ble_eq_true rfl, Nat.le_of_ble_eq_true rfl⟩ rfl rfl (Nat.le_of_ble_eq_true rfl) rfl ?_
      obtain ⟨r4, ec, hf⟩ := bd_e hf
      refine z_callS [.int a2, .int (1 : Int32), .int r3] [] [.int r4] X B 22 rfl miX6_within ⟨(iX6_step _ (List.mem_of_getElem? (i := 12) rfl)), (iX6_step _ (List.mem_of_getElem? (i := 13) rfl))⟩ (ctX6_within hj ec) ⟨Nat.le_of_ble_eq_true rfl, Nat.le_of_ble_eq_true rfl⟩ rfl rfl (Nat.le_of_ble_eq_true rfl) rfl ?_
      by_cases hc : r4 = 0
      · replace hf := (if_pos hc).symm.trans hf
        refine z_if_eq_t B 23 rfl 66 (by decide) hc ?_
        refine z_iconst (-1) B 31 rfl (by decide) ?_
        cases hf
        exact z_iret B 32 rfl rfl hQ hr
      · replace hf := (if_neg hc).symm.trans hf
        refine z_if_eq_f B 23 rfl 66 (by decide) hc ?_
        refine z_iload_n B 24 rfl 3 4 rfl rfl ?_
        refine z_aload B 25 rfl 0 rfl ?_
        refine z_iload_n B 26 rfl 1 2 rfl rfl ?_
        obtain ⟨r5, ec, hf⟩ := bd_e hf
        refine z_callV 24 2 [.int a1] [.int a3] [.int r5, .int a3] X B 27 rfl (by decide) ob_24 rfl rfl miX2_lastPrice ⟨(iX6_step _ (List.mem_of_getElem? (i := 14) rfl)), (iX6_step _ (List.mem_of_getElem? (i := 15) rfl)), (iX6_step _ (List.mem_of_getElem? (i := 16) rfl))⟩ (ctX2_lastPrice hj ob_24 ec) ⟨Nat.le_of_ble_eq_true rfl, Nat.le_of_ble_eq_true rfl⟩ rfl rfl (Nat.le_of_ble_eq_true rfl) rfl ?_
        refine z_sipush 9999 B 28 rfl (by decide) ?_
        obtain ⟨r6, ec, hf⟩ := bd_e hf
        refine z_callS [.int a3, .int r5, .int (9999 : Int32)] [] [.int r6] X B 29 rfl miX6_within ⟨(iX6_step _ (List.mem_of_getElem? (i := 12) rfl)), (iX6_step _ (List.mem_of_getElem? (i := 13) rfl))⟩ (ctX6_within hj ec) ⟨Nat.le_of_ble_eq_true rfl, Nat.le_of_ble_eq_true rfl⟩ rfl rfl (Nat.le_of_ble_eq_true rfl) rfl ?_
        by_cases hc : r6 = 0
        · replace hf := (if_pos hc).symm.trans hf
          refine z_if_ne_f B 30 rfl 68 (by decide) hc ?_
          refine z_iconst (-1) B 31 rfl (by decide) ?_
          cases hf
          exact z_iret B 32 rfl rfl hQ hr
        · replace hf := (if_neg hc).symm.trans hf
          refine z_if_ne_t B 30 rfl 68 (by decide) hc ?_
          refine z_aload B 33 rfl 0 rfl ?_
          refine z_iload_n B 34 rfl 1 2 rfl rfl ?_
          refine z_iload_n B 35 rfl 2 3 rfl rfl ?_
          refine z_iload_n B 36 rfl 3 4 rfl rfl ?_
          obtain ⟨r7, ec, hf⟩ := bd_e hf
          refine z_callV 24 2 [.int a1, .int a2, .int a3] [] [.int r7.1] X B 37 rfl (by decide) ob_24 rfl rfl miX2_addStep ⟨(iX6_step _ (List.mem_of_getElem? (i := 17) rfl)), (iX6_step _ (List.mem_of_getElem? (i := 18) rfl)), (iX6_step _ (List.mem_of_getElem? (i := 19) rfl))⟩ (ctX2_addStep hj ob_24 ec) ⟨Nat.le_of_ble_eq_true rfl, Nat.le_of_ble_eq_true rfl⟩ rfl rfl (Nat.le_of_ble_eq_true rfl) rfl ?_
          cases hf
          exact z_iret B 38 rfl rfl hQ hr
    · replace hf := (if_neg hc).symm.trans hf
      refine z_icmp_lt_f B 14 rfl 36 (by decide) hc ?_
      refine z_iconst (-1) B 15 rfl (by decide) ?_
      cases hf
      exact z_iret B 16 rfl rfl hQ hr
/-! ZoneCapacity.drop(IZ)I -/
def tbX6_drop : Tb := [(0, .aload_n 0, 1, 1), (1, .getfield 10, 3, 4), (4, .getfield 57, 3, 7), (7, .astore_n 3, 1, 8), (8, .iload_n 2, 1, 9), (9, .ifCond .eq 17, 3, 12), (12, .aload_n 3, 1, 13), (13, .getfield 106, 3, 16), (16, .iload_n 1, 1, 17), (17, .invokevirtual 116, 3, 20), (20, .ifCond .ne 19, 3, 23), (23, .goto 14, 3, 26), (26, .aload_n 3, 1, 27), (27, .getfield 71, 3, 30), (30, .iload_n 1, 1, 31), (31, .invokevirtual 80, 3, 34), (34, .ifCond .ne 5, 3, 37), (37, .iconst (-1), 1, 38), (38, .ireturn, 1, 39), (39, .iload_n 2, 1, 40), (40, .ifCond .eq 14, 3, 43), (43, .aload_n 3, 1, 44), (44, .getfield 106, 3, 47), (47, .iload_n 1, 1, 48), (48, .invokevirtual 127, 3, 51), (51, .goto 11, 3, 54), (54, .aload_n 3, 1, 55), (55, .getfield 71, 3, 58), (58, .iload_n 1, 1, 59), (59, .invokevirtual 130, 3, 62), (62, .ireturn, 1, 63)]
theorem dtX6_drop : ∀ q ∈ tbX6_drop, decode cX6_drop q.1 = .ok (q.2.1, q.2.2.1) ∧ q.1 + q.2.2.1 = q.2.2.2 := by decide +kernel
theorem miX6_drop : MI yX6_drop cX6_drop 4 (some .int) 2 := ⟨tw_mem (List.mem_of_getElem? (i := 296) (by decide +kernel)) rfl, by decide, by decide +kernel, tw_mem (List.mem_of_getElem? (i := 14) (by decide +kernel)) rfl⟩
abbrev rmX6_drop : Room := { frames := 2, cells := 0, slots := 0, locals := 44 }
def wX6_drop : List Cond := [.fieldLink "ZoneCapacity" 10 "ZoneCapacity" "now" "LZoneCapacity$Auction;", .fieldLink "ZoneCapacity" 57 "ZoneCapacity$Auction" "market" "LZoneCapacity$Market;", .fieldLink "ZoneCapacity" 71 "ZoneCapacity$Market" "zones" "LZoneCapacity$Zones;", .methodLink "ZoneCapacity" 80 yX5_has, .instanceMethod yX5_has, .selects "ZoneCapacity$Zones" yX5_has yX5_has, .methodLink "ZoneCapacity" 130 yX5_dropPoints, .instanceMethod yX5_dropPoints, .selects "ZoneCapacity$Zones" yX5_dropPoints yX5_dropPoints, .fieldLink "ZoneCapacity" 106 "ZoneCapacity$Market" "offers" "LZoneCapacity$Offers;", .methodLink "ZoneCapacity" 127 yX2_dropSteps, .instanceMethod yX2_dropSteps, .selects "ZoneCapacity$Offers" yX2_dropSteps yX2_dropSteps, .methodLink "ZoneCapacity" 116 yX2_has, .instanceMethod yX2_has, .selects "ZoneCapacity$Offers" yX2_has yX2_has]
theorem iX6_drop : ∀ w ∈ wX6_drop, w ∈ TW := tw_of (ids := [243, 161, 151, 267, 268, 269, 307, 308, 309, 154, 301, 302, 303, 297, 298, 299]) (by decide +kernel)
def f6_drop_j39 (x1 : Int32) (x2 : Int32) (mm : Mem) : Option (Int32 × Mem) := if x2 = 0 then bd (f5_dropPoints mm 17 x1) (fun r2 => some (r2.1, r2.2)) else bd (f2_dropSteps mm 24 x1) (fun r3 => some (r3.1, r3.2))
theorem f6_drop_j39_ok {E : Ev} {l : Launch} {C : Cfg} {x : (Int32 × Mem)} (hj : Dj C) (X : Ec E l C rmX6_drop) (B : Bx E RX6 tbX6_drop 4 (some .int)) (hQ : Rt E) (hr : Rs E (some (.int x.1)) x.2) (x1 : Int32) (x2 : Int32) (mm : Mem) (hf : f6_drop_j39 x1 x2 mm = some x) : G E 4 39 [(1, .int x1), (2, .int x2), (3, .ref 16)] [] mm := by
  unfold f6_drop_j39 at hf
  refine z_iload_n B 19 rfl 2 1 rfl rfl ?_
  by_cases hc : x2 = 0
  · replace hf := (if_pos hc).symm.trans hf
    refine z_if_eq_t B 20 rfl 54 (by decide) hc ?_
    refine z_aload_n B 26 rfl 3 2 rfl rfl ?_
    refine z_getr 1 0 16 B 27 rfl ob_16 rfl (iX6_drop _ (List.mem_of_getElem? (i := 2) rfl)) rfl ?_
    refine z_iload_n B 28 rfl 1 0 rfl rfl ?_
    obtain ⟨r2, ec, hf⟩ := bd_e hf
    refine z_callV 17 5 [.int x1] [] [.int r2.1] X B 29 rfl (by decide) ob_17 rfl rfl miX5_dropPoints ⟨(iX6_drop _ (List.mem_of_getElem? (i := 6) rfl)), (iX6_drop _ (List.mem_of_getElem? (i := 7) rfl)), (iX6_drop _ (List.mem_of_getElem? (i := 8) rfl))⟩ (ctX5_dropPoints hj ob_17 ec) ⟨Nat.le_of_ble_eq_true rfl, Nat.le_of_ble_eq_true rfl⟩ rfl rfl (Nat.le_of_ble_eq_true rfl) rfl ?_
    cases hf
    exact z_iret B 30 rfl rfl hQ hr
  · replace hf := (if_neg hc).symm.trans hf
    refine z_if_eq_f B 20 rfl 54 (by decide) hc ?_
    refine z_aload_n B 21 rfl 3 2 rfl rfl ?_
    refine z_getr 1 1 16 B 22 rfl ob_16 rfl (iX6_drop _ (List.mem_of_getElem? (i := 9) rfl)) rfl ?_
    refine z_iload_n B 23 rfl 1 0 rfl rfl ?_
    obtain ⟨r3, ec, hf⟩ := bd_e hf
    refine z_callV 24 2 [.int x1] [] [.int r3.1] X B 24 rfl (by decide) ob_24 rfl rfl miX2_dropSteps ⟨(iX6_drop _ (List.mem_of_getElem? (i := 10) rfl)), (iX6_drop _ (List.mem_of_getElem? (i := 11) rfl)), (iX6_drop _ (List.mem_of_getElem? (i := 12) rfl))⟩ (ctX2_dropSteps hj ob_24 ec) ⟨Nat.le_of_ble_eq_true rfl, Nat.le_of_ble_eq_true rfl⟩ rfl rfl (Nat.le_of_ble_eq_true rfl) rfl ?_
    refine z_goto B 25 rfl 62 (by decide) ?_
    cases hf
    exact z_iret B 30 rfl rfl hQ hr
def f6_drop (mm : Mem) (a1 : Int32) (a2 : Int32) : Option (Int32 × Mem) := if a2 = 0 then bd (f5_has mm 17 a1) (fun r1 => if r1 = 0 then some ((-1 : Int32), mm) else f6_drop_j39 a1 a2 mm) else bd (f2_has mm 24 a1) (fun r4 => if r4 = 0 then some ((-1 : Int32), mm) else f6_drop_j39 a1 a2 mm)
theorem ctX6_drop {l : Launch} {C : Cfg} (hj : Dj C) {mm : Mem} {a1 : Int32} {a2 : Int32} {x : (Int32 × Mem)} (hf : f6_drop mm a1 a2 = some x) : Ct l C yX6_drop cX6_drop 4 (some .int) 2 44 [.ref 14, .int a1, .int a2] mm (some (.int x.1)) x.2 := by
  refine Ct.of (tb := tbX6_drop) hj miX6_drop.2.1 miX6_drop.1 dtX6_drop (Nat.le_of_ble_eq_true rfl) ?_
  intro E B hQ hr X
  unfold f6_drop at hf
  show G E 4 0 [(0, .ref 14), (1, .int a1), (2, .int a2)] [] mm
  refine z_aload_n B 0 rfl 0 0 rfl rfl ?_
  refine z_getr 6 0 14 B 1 rfl ob_14 rfl (iX6_drop _ (List.mem_of_getElem? (i := 0) rfl)) rfl ?_
  refine z_getr 0 0 15 B 2 rfl ob_15 rfl (iX6_drop _ (List.mem_of_getElem? (i := 1) rfl)) rfl ?_
  refine z_astore_n [(3, .ref 16), (0, .ref 14), (1, .int a1), (2, .int a2)] B 3 rfl 3 rfl (by decide) rfl ?_
  refine z_iload_n B 4 rfl 2 3 rfl rfl ?_
  by_cases hc : a2 = 0
  · replace hf := (if_pos hc).symm.trans hf
    refine z_if_eq_t B 5 rfl 26 (by decide) hc ?_
    refine z_aload_n B 12 rfl 3 0 rfl rfl ?_
    refine z_getr 1 0 16 B 13 rfl ob_16 rfl (iX6_drop _ (List.mem_of_getElem? (i := 2) rfl)) rfl ?_
    refine z_iload_n B 14 rfl 1 2 rfl rfl ?_
    obtain ⟨r1, ec, hf⟩ := bd_e hf
    refine z_callV 17 5 [.int a1] [] [.int r1] X B 15 rfl (by decide) ob_17 rfl rfl miX5_has ⟨(iX6_drop _ (List.mem_of_getElem? (i := 3) rfl)), (iX6_drop _ (List.mem_of_getElem? (i := 4) rfl)), (iX6_drop _ (List.mem_of_getElem? (i := 5) rfl))⟩ (ctX5_has hj ob_17 ec) ⟨Nat.le_of_ble_eq_true rfl, Nat.le_of_ble_eq_true rfl⟩ rfl rfl (Nat.le_of_ble_eq_true rfl) rfl ?_
    by_cases hc : r1 = 0
    · replace hf := (if_pos hc).symm.trans hf
      refine z_if_ne_f B 16 rfl 39 (by decide) hc ?_
      refine z_iconst (-1) B 17 rfl (by decide) ?_
      cases hf
      exact z_iret B 18 rfl rfl hQ hr
    · replace hf := (if_neg hc).symm.trans hf
      refine z_if_ne_t B 16 rfl 39 (by decide) hc ?_
      refine z_sub [(1, .int a1), (2, .int a2), (3, .ref 16)] [2, 3, 0] rfl ?_
      exact f6_drop_j39_ok hj X B hQ hr _ _ _ hf
  · replace hf := (if_neg hc).symm.trans hf
    refine z_if_eq_f B 5 rfl 26 (by decide) hc ?_
    refine z_aload_n B 6 rfl 3 0 rfl rfl ?_
    refine z_getr 1 1 16 B 7 rfl ob_16 rfl (iX6_drop _ (List.mem_of_getElem? (i := 9) rfl)) rfl ?_
    refine z_iload_n B 8 rfl 1 2 rfl rfl ?_
    obtain ⟨r4, ec, hf⟩ := bd_e hf
    refine z_callV 24 2 [.int a1] [] [.int r4] X B 9 rfl (by decide) ob_24 rfl rfl miX2_has ⟨(iX6_drop _ (List.mem_of_getElem? (i := 13) rfl)), (iX6_drop _ (List.mem_of_getElem? (i := 14) rfl)), (iX6_drop _ (List.mem_of_getElem? (i := 15) rfl))⟩ (ctX2_has hj ob_24 ec) ⟨Nat.le_of_ble_eq_true rfl, Nat.le_of_ble_eq_true rfl⟩ rfl rfl (Nat.le_of_ble_eq_true rfl) rfl ?_
    by_cases hc : r4 = 0
    · replace hf := (if_pos hc).symm.trans hf
      refine z_if_ne_f B 10 rfl 39 (by decide) hc ?_
      refine z_goto B 11 rfl 37 (by decide) ?_
      refine z_iconst (-1) B 17 rfl (by decide) ?_
      cases hf
      exact z_iret B 18 rfl rfl hQ hr
    · replace hf := (if_neg hc).symm.trans hf
      refine z_if_ne_t B 10 rfl 39 (by decide) hc ?_
      refine z_sub [(1, .int a1), (2, .int a2), (3, .ref 16)] [2, 3, 0] rfl ?_
      exact f6_drop_j39_ok hj X B hQ hr _ _ _ hf
/-! ZoneCapacity.change([III)Z -/
def tbX6_change : Tb := [(0, .aload_n 0, 1, 1), (1, .iload_n 1, 1, 2), (2, .invokestatic 92, 3, 5), (5, .iload_n 2, 1, 6), (6, .if_icmp .ne 5, 3, 9), (9, .iconst 0, 1, 10), (10, .ireturn, 1, 11), (11, .aload_n 0, 1, 12), (12, .iload_n 1, 1, 13), (13, .iload_n 2, 1, 14), (14, .invokestatic 257, 3, 17), (17, .iconst 1, 1, 18), (18, .ireturn, 1, 19)]
theorem dtX6_change : ∀ q ∈ tbX6_change, decode cX6_change q.1 = .ok (q.2.1, q.2.2.1) ∧ q.1 + q.2.2.1 = q.2.2.2 := by decide +kernel
theorem miX6_change : MI yX6_change cX6_change 3 (some .boolean) 3 := ⟨tw_mem (List.mem_of_getElem? (i := 317) (by decide +kernel)) rfl, by decide, by decide +kernel, tw_mem (List.mem_of_getElem? (i := 14) (by decide +kernel)) rfl⟩
abbrev rmX6_change : Room := { frames := 1, cells := 0, slots := 0, locals := 22 }
def wX6_change : List Cond := [.methodLink "ZoneCapacity" 92 yX6_at, .static yX6_at, .methodLink "ZoneCapacity" 257 yX6_put, .static yX6_put]
theorem iX6_change : ∀ w ∈ wX6_change, w ∈ TW := tw_of (ids := [271, 272, 318, 291]) (by decide +kernel)
def f6_change (mm : Mem) (a0 : Nat) (a1 : Int32) (a2 : Int32) : Option (Int32 × Mem) := bd (f6_at mm a0 a1) (fun r1 => if r1 = a2 then some ((0 : Int32), mm) else bd (f6_put mm a0 a1 a2) (fun r2 => some ((1 : Int32), r2)))
theorem ctX6_change {l : Launch} {C : Cfg} (hj : Dj C) {mm : Mem} {a0 : Nat} {a1 : Int32} {a2 : Int32} {x : (Int32 × Mem)} (o_a0 : Ob a0 8) (hf : f6_change mm a0 a1 a2 = some x) : Ct l C yX6_change cX6_change 3 (some .boolean) 1 22 [.ref a0, .int a1, .int a2] mm (some (.int x.1)) x.2 := by
  refine Ct.of (tb := tbX6_change) hj miX6_change.2.1 miX6_change.1 dtX6_change (Nat.le_of_ble_eq_true rfl) ?_
  intro E B hQ hr X
  unfold f6_change at hf
  show G E 3 0 [(0, .ref a0), (1, .int a1), (2, .int a2)] [] mm
  refine z_aload_n B 0 rfl 0 0 rfl rfl ?_
  refine z_iload_n B 1 rfl 1 1 rfl rfl ?_
  obtain ⟨r1, ec, hf⟩ := bd_e hf
  refine z_callS [.ref a0, .int a1] [] [.int r1] X B 2 rfl miX6_at ⟨(iX6_change _ (List.mem_of_getElem? (i := 0) rfl)), (iX6_change _ (List.mem_of_getElem? (i := 1) rfl))⟩ (ctX6_at hj o_a0 ec) ⟨Nat.le_of_ble_eq_true rfl, Nat.le_of_ble_eq_true rfl⟩ rfl rfl (Nat.le_of_ble_eq_true rfl) rfl ?_
  refine z_iload_n B 3 rfl 2 2 rfl rfl ?_
  by_cases hc : r1 = a2
  · replace hf := (if_pos hc).symm.trans hf
    refine z_icmp_ne_f B 4 rfl 11 (by decide) hc ?_
    refine z_iconst 0 B 5 rfl (by decide) ?_
    cases hf
    exact z_iret B 6 rfl (by decide) hQ hr
  · replace hf := (if_neg hc).symm.trans hf
    refine z_icmp_ne_t B 4 rfl 11 (by decide) hc ?_
    refine z_aload_n B 7 rfl 0 0 rfl rfl ?_
    refine z_iload_n B 8 rfl 1 1 rfl rfl ?_
    refine z_iload_n B 9 rfl 2 2 rfl rfl ?_
    obtain ⟨r2, ec, hf⟩ := bd_e hf
    refine z_callS [.ref a0, .int a1, .int a2] [] [] X B 10 rfl miX6_put ⟨(iX6_change _ (List.mem_of_getElem? (i := 2) rfl)), (iX6_change _ (List.mem_of_getElem? (i := 3) rfl))⟩ (ctX6_put hj o_a0 ec) ⟨Nat.le_of_ble_eq_true rfl, Nat.le_of_ble_eq_true rfl⟩ rfl rfl (Nat.le_of_ble_eq_true rfl) rfl ?_
    refine z_iconst 1 B 11 rfl (by decide) ?_
    cases hf
    exact z_iret B 12 rfl (by decide) hQ hr
/-! ZoneCapacity.set(III)Z -/
def tbX6_set : Tb := [(0, .aload_n 0, 1, 1), (1, .getfield 10, 3, 4), (4, .getfield 57, 3, 7), (7, .getfield 71, 3, 10), (10, .astore 4, 2, 12), (12, .aload_n 0, 1, 13), (13, .getfield 10, 3, 16), (16, .getfield 57, 3, 19), (19, .getfield 106, 3, 22), (22, .astore 5, 2, 24), (24, .iload_n 3, 1, 25), (25, .iconst 0, 1, 26), (26, .sipush 9999, 3, 29), (29, .invokestatic 50, 3, 32), (32, .ifCond .ne 5, 3, 35), (35, .iconst 0, 1, 36), (36, .ireturn, 1, 37), (37, .iload_n 1, 1, 38), (38, .tableswitch 158 0 4 #[34, 62, 69, 97, 125], 34, 72), (72, .iload_n 2, 1, 73), (73, .iconst 0, 1, 74), (74, .iconst 3, 1, 75), (75, .invokestatic 50, 3, 78), (78, .ifCond .eq 20, 3, 81), (81, .aload 5, 2, 83), (83, .getfield 133, 3, 86), (86, .iload_n 2, 1, 87), (87, .iload_n 3, 1, 88), (88, .invokestatic 136, 3, 91), (91, .ifCond .eq 7, 3, 94), (94, .iconst 1, 1, 95), (95, .goto 4, 3, 98), (98, .iconst 0, 1, 99), (99, .ireturn, 1, 100), (100, .aload 5, 2, 102), (102, .iload_n 3, 1, 103), (103, .invokevirtual 140, 3, 106), (106, .ireturn, 1, 107), (107, .aload 4, 2, 109), (109, .iload_n 2, 1, 110), (110, .invokevirtual 143, 3, 113), (113, .ifCond .eq 20, 3, 116), (116, .aload 4, 2, 118), (118, .getfield 146, 3, 121), (121, .iload_n 2, 1, 122), (122, .iload_n 3, 1, 123), (123, .invokestatic 136, 3, 126), (126, .ifCond .eq 7, 3, 129), (129, .iconst 1, 1, 130), (130, .goto 4, 3, 133), (133, .iconst 0, 1, 134), (134, .ireturn, 1, 135), (135, .aload 4, 2, 137), (137, .iload_n 2, 1, 138), (138, .invokevirtual 143, 3, 141), (141, .ifCond .eq 20, 3, 144), (144, .aload 4, 2, 146), (146, .getfield 149, 3, 149), (149, .iload_n 2, 1, 150), (150, .iload_n 3, 1, 151), (151, .invokestatic 136, 3, 154), (154, .ifCond .eq 7, 3, 157), (157, .iconst 1, 1, 158), (158, .goto 4, 3, 161), (161, .iconst 0, 1, 162), (162, .ireturn, 1, 163), (163, .iload_n 3, 1, 164), (164, .iconst 1, 1, 165), (165, .if_icmp .gt 29, 3, 168), (168, .aload 5, 2, 170), (170, .iload_n 2, 1, 171), (171, .invokevirtual 116, 3, 174), (174, .ifCond .eq 20, 3, 177), (177, .aload 5, 2, 179), (179, .getfield 152, 3, 182), (182, .iload_n 2, 1, 183), (183, .iload_n 3, 1, 184), (184, .invokestatic 136, 3, 187), (187, .ifCond .eq 7, 3, 190), (190, .iconst 1, 1, 191), (191, .goto 4, 3, 194), (194, .iconst 0, 1, 195), (195, .ireturn, 1, 196), (196, .iconst 0, 1, 197), (197, .ireturn, 1, 198)]
theorem dtX6_set : ∀ q ∈ tbX6_set, decode cX6_set q.1 = .ok (q.2.1, q.2.2.1) ∧ q.1 + q.2.2.1 = q.2.2.2 := by decide +kernel
theorem miX6_set : MI yX6_set cX6_set 6 (some .boolean) 3 := ⟨tw_mem (List.mem_of_getElem? (i := 314) (by decide +kernel)) rfl, by decide, by decide +kernel, tw_mem (List.mem_of_getElem? (i := 14) (by decide +kernel)) rfl⟩
abbrev rmX6_set : Room := { frames := 2, cells := 0, slots := 0, locals := 44 }
def wX6_set : List Cond := [.fieldLink "ZoneCapacity" 10 "ZoneCapacity" "now" "LZoneCapacity$Auction;", .fieldLink "ZoneCapacity" 57 "ZoneCapacity$Auction" "market" "LZoneCapacity$Market;", .fieldLink "ZoneCapacity" 71 "ZoneCapacity$Market" "zones" "LZoneCapacity$Zones;", .fieldLink "ZoneCapacity" 106 "ZoneCapacity$Market" "offers" "LZoneCapacity$Offers;", .methodLink "ZoneCapacity" 50 yX6_within, .static yX6_within, .fieldLink "ZoneCapacity" 133 "ZoneCapacity$Offers" "floors" "[I", .methodLink "ZoneCapacity" 136 yX6_change, .static yX6_change, .methodLink "ZoneCapacity" 140 yX2_changeCeiling, .instanceMethod yX2_changeCeiling, .selects "ZoneCapacity$Offers" yX2_changeCeiling yX2_changeCeiling, .methodLink "ZoneCapacity" 143 yX5_hasInner, .instanceMethod yX5_hasInner, .selects "ZoneCapacity$Zones" yX5_hasInner yX5_hasInner, .fieldLink "ZoneCapacity" 146 "ZoneCapacity$Zones" "in" "[I", .fieldLink "ZoneCapacity" 149 "ZoneCapacity$Zones" "out" "[I", .methodLink "ZoneCapacity" 116 yX2_has, .instanceMethod yX2_has, .selects "ZoneCapacity$Offers" yX2_has yX2_has, .fieldLink "ZoneCapacity" 152 "ZoneCapacity$Offers" "free" "[I"]
theorem iX6_set : ∀ w ∈ wX6_set, w ∈ TW := tw_of (ids := [243, 161, 151, 154, 279, 280, 110, 315, 316, 319, 320, 321, 323, 324, 325, 74, 77, 297, 298, 299, 119]) (by decide +kernel)
def f6_set (mm : Mem) (a1 : Int32) (a2 : Int32) (a3 : Int32) : Option (Int32 × Mem) := bd (f6_within mm a3 (0 : Int32) (9999 : Int32)) (fun r1 => if r1 = 0 then some ((0 : Int32), mm) else if a1 = 0 then bd (f6_within mm a2 (0 : Int32) (3 : Int32)) (fun r2 => if r2 = 0 then some ((0 : Int32), mm) else bd (f6_change mm 25 a2 a3) (fun r3 => if r3.1 = 0 then some ((0 : Int32), r3.2) else some ((1 : Int32), r3.2))) else if a1 = 1 then bd (f2_changeCeiling mm 24 a3) (fun r4 => bok r4.1 (some (r4.1, r4.2))) else if a1 = 2 then bd (f5_hasInner mm 17 a2) (fun r5 => if r5 = 0 then some ((0 : Int32), mm) else bd (f6_change mm 19 a2 a3) (fun r6 => if r6.1 = 0 then some ((0 : Int32), r6.2) else some ((1 : Int32), r6.2))) else if a1 = 3 then bd (f5_hasInner mm 17 a2) (fun r7 => if r7 = 0 then some ((0 : Int32), mm) else bd (f6_change mm 20 a2 a3) (fun r8 => if r8.1 = 0 then some ((0 : Int32), r8.2) else some ((1 : Int32), r8.2))) else if a1 = 4 then if (1 : Int32) < a3 then some ((0 : Int32), mm) else bd (f2_has mm 24 a2) (fun r9 => if r9 = 0 then some ((0 : Int32), mm) else bd (f6_change mm 31 a2 a3) (fun r10 => if r10.1 = 0 then some ((0 : Int32), r10.2) else some ((1 : Int32), r10.2))) else some ((0 : Int32), mm))
theorem ctX6_set {l : Launch} {C : Cfg} (hj : Dj C) {mm : Mem} {a1 : Int32} {a2 : Int32} {a3 : Int32} {x : (Int32 × Mem)} (hf : f6_set mm a1 a2 a3 = some x) : Ct l C yX6_set cX6_set 6 (some .boolean) 2 44 [.ref 14, .int a1, .int a2, .int a3] mm (some (.int x.1)) x.2 := by
  refine Ct.of (tb := tbX6_set) hj miX6_set.2.1 miX6_set.1 dtX6_set (Nat.le_of_ble_eq_true rfl) ?_
  intro E B hQ hr X
  unfold f6_set at hf
  show G E 6 0 [(0, .ref 14), (1, .int a1), (2, .int a2), (3, .int a3)] [] mm
  refine z_aload_n B 0 rfl 0 0 rfl rfl ?_
  refine z_getr 6 0 14 B 1 rfl ob_14 rfl (iX6_set _ (List.mem_of_getElem? (i := 0) rfl)) rfl ?_
  refine z_getr 0 0 15 B 2 rfl ob_15 rfl (iX6_set _ (List.mem_of_getElem? (i := 1) rfl)) rfl ?_
  refine z_getr 1 0 16 B 3 rfl ob_16 rfl (iX6_set _ (List.mem_of_getElem? (i := 2) rfl)) rfl ?_
  refine z_astore [(4, .ref 17), (0, .ref 14), (1, .int a1), (2, .int a2), (3, .int a3)] B 4 rfl (by decide) rfl ?_
  refine z_aload_n B 5 rfl 0 1 rfl rfl ?_
  refine z_getr 6 0 14 B 6 rfl ob_14 rfl (iX6_set _ (List.mem_of_getElem? (i := 0) rfl)) rfl ?_
  refine z_getr 0 0 15 B 7 rfl ob_15 rfl (iX6_set _ (List.mem_of_getElem? (i := 1) rfl)) rfl ?_
  refine z_getr 1 1 16 B 8 rfl ob_16 rfl (iX6_set _ (List.mem_of_getElem? (i := 3) rfl)) rfl ?_
  refine z_astore [(5, .ref 24), (4, .ref 17), (0, .ref 14), (1, .int a1), (2, .int a2), (3, .int a3)] B 9 rfl (by decide) rfl ?_
  refine z_iload_n B 10 rfl 3 5 rfl rfl ?_
  refine z_iconst 0 B 11 rfl (by decide) ?_
  refine z_sipush 9999 B 12 rfl (by decide) ?_
  obtain ⟨r1, ec, hf⟩ := bd_e hf
  refine z_callS [.int a3, .int (0 : Int32), .int (9999 : Int32)] [] [.int r1] X B 13 rfl miX6_within ⟨(iX6_set _ (List.mem_of_getElem? (i := 4) rfl)), (iX6_set _ (List.mem_of_getElem? (i := 5) rfl))⟩ (ctX6_within hj ec) ⟨Nat.le_of_ble_eq_true rfl, Nat.le_of_ble_eq_true rfl⟩ rfl rfl (Nat.le_of_ble_eq_true rfl) rfl ?_
  by_cases hc : r1 = 0
  · replace hf := (if_pos hc).symm.trans hf
    refine z_if_ne_f B 14 rfl 37 (by decide) hc ?_
    refine z_iconst 0 B 15 rfl (by decide) ?_
    cases hf
    exact z_iret B 16 rfl (by decide) hQ hr
  · replace hf := (if_neg hc).symm.trans hf
    refine z_if_ne_t B 14 rfl 37 (by decide) hc ?_
    refine z_iload_n B 17 rfl 1 3 rfl rfl ?_
    by_cases hc : a1 = 0
    · replace hf := (if_pos hc).symm.trans hf
      refine z_tswi B 18 rfl 0 (34) 72 (by rw [hc]; decide) (by decide) rfl (by decide) ?_
      refine z_iload_n B 19 rfl 2 4 rfl rfl ?_
      refine z_iconst 0 B 20 rfl (by decide) ?_
      refine z_iconst 3 B 21 rfl (by decide) ?_
      obtain ⟨r2, ec, hf⟩ := bd_e hf
      refine z_callS [.int a2, .int (0 : Int32), .int (3 : Int32)] [] [.int r2] X B 22 rfl miX6_within ⟨(iX6_set _ (List.mem_of_getElem? (i := 4) rfl)), (iX6_set _ (List.mem_of_getElem? (i := 5) rfl))⟩ (ctX6_within hj ec) ⟨Nat.le_of_ble_eq_true rfl, Nat.le_of_ble_eq_true rfl⟩ rfl rfl (Nat.le_of_ble_eq_true rfl) rfl ?_
      by_cases hc : r2 = 0
      · replace hf := (if_pos hc).symm.trans hf
        refine z_if_eq_t B 23 rfl 98 (by decide) hc ?_
        refine z_iconst 0 B 32 rfl (by decide) ?_
        cases hf
        exact z_iret B 33 rfl (by decide) hQ hr
      · replace hf := (if_neg hc).symm.trans hf
        refine z_if_eq_f B 23 rfl 98 (by decide) hc ?_
        refine z_aload B 24 rfl 0 rfl ?_
        refine z_getr 2 2 24 B 25 rfl ob_24 rfl (iX6_set _ (List.mem_of_getElem? (i := 6) rfl)) rfl ?_
        refine z_iload_n B 26 rfl 2 4 rfl rfl ?_
        refine z_iload_n B 27 rfl 3 5 rfl rfl ?_
        obtain ⟨r3, ec, hf⟩ := bd_e hf
        refine z_callS [.ref 25, .int a2, .int a3] [] [.int r3.1] X B 28 rfl miX6_change ⟨(iX6_set _ (List.mem_of_getElem? (i := 7) rfl)), (iX6_set _ (List.mem_of_getElem? (i := 8) rfl))⟩ (ctX6_change hj ob_25 ec) ⟨Nat.le_of_ble_eq_true rfl, Nat.le_of_ble_eq_true rfl⟩ rfl rfl (Nat.le_of_ble_eq_true rfl) rfl ?_
        by_cases hc : r3.1 = 0
        · replace hf := (if_pos hc).symm.trans hf
          refine z_if_eq_t B 29 rfl 98 (by decide) hc ?_
          refine z_iconst 0 B 32 rfl (by decide) ?_
          cases hf
          exact z_iret B 33 rfl (by decide) hQ hr
        · replace hf := (if_neg hc).symm.trans hf
          refine z_if_eq_f B 29 rfl 98 (by decide) hc ?_
          refine z_iconst 1 B 30 rfl (by decide) ?_
          refine z_goto B 31 rfl 99 (by decide) ?_
          cases hf
          exact z_iret B 33 rfl (by decide) hQ hr
    · replace hf := (if_neg hc).symm.trans hf
      have hc0 := hc
      by_cases hc : a1 = 1
      · replace hf := (if_pos hc).symm.trans hf
        refine z_tswi B 18 rfl 1 (62) 100 (by rw [hc]; decide) (by decide) rfl (by decide) ?_
        refine z_aload B 34 rfl 0 rfl ?_
        refine z_iload_n B 35 rfl 3 5 rfl rfl ?_
        obtain ⟨r4, ec, hf⟩ := bd_e hf
        refine z_callV 24 2 [.int a3] [] [.int r4.1] X B 36 rfl (by decide) ob_24 rfl rfl miX2_changeCeiling ⟨(iX6_set _ (List.mem_of_getElem? (i := 9) rfl)), (iX6_set _ (List.mem_of_getElem? (i := 10) rfl)), (iX6_set _ (List.mem_of_getElem? (i := 11) rfl))⟩ (ctX2_changeCeiling hj ob_24 ec) ⟨Nat.le_of_ble_eq_true rfl, Nat.le_of_ble_eq_true rfl⟩ rfl rfl (Nat.le_of_ble_eq_true rfl) rfl ?_
        obtain ⟨hb, hf⟩ := bok_e hf
        cases hf
        exact z_iret B 37 rfl (bok_n hb) hQ hr
      · replace hf := (if_neg hc).symm.trans hf
        have hc1 := hc
        by_cases hc : a1 = 2
        · replace hf := (if_pos hc).symm.trans hf
          refine z_tswi B 18 rfl 2 (69) 107 (by rw [hc]; decide) (by decide) rfl (by decide) ?_
          refine z_aload B 38 rfl 1 rfl ?_
          refine z_iload_n B 39 rfl 2 4 rfl rfl ?_
          obtain ⟨r5, ec, hf⟩ := bd_e hf
          refine z_callV 17 5 [.int a2] [] [.int r5] X B 40 rfl (by decide) ob_17 rfl rfl miX5_hasInner ⟨(iX6_set _ (List.mem_of_getElem? (i := 12) rfl)), (iX6_set _ (List.mem_of_getElem? (i := 13) rfl)), (iX6_set _ (List.mem_of_getElem? (i := 14) rfl))⟩ (ctX5_hasInner hj ob_17 ec) ⟨Nat.le_of_ble_eq_true rfl, Nat.le_of_ble_eq_true rfl⟩ rfl rfl (Nat.le_of_ble_eq_true rfl) rfl ?_
          by_cases hc : r5 = 0
          · replace hf := (if_pos hc).symm.trans hf
            refine z_if_eq_t B 41 rfl 133 (by decide) hc ?_
            refine z_iconst 0 B 50 rfl (by decide) ?_
            cases hf
            exact z_iret B 51 rfl (by decide) hQ hr
          · replace hf := (if_neg hc).symm.trans hf
            refine z_if_eq_f B 41 rfl 133 (by decide) hc ?_
            refine z_aload B 42 rfl 1 rfl ?_
            refine z_getr 5 2 17 B 43 rfl ob_17 rfl (iX6_set _ (List.mem_of_getElem? (i := 15) rfl)) rfl ?_
            refine z_iload_n B 44 rfl 2 4 rfl rfl ?_
            refine z_iload_n B 45 rfl 3 5 rfl rfl ?_
            obtain ⟨r6, ec, hf⟩ := bd_e hf
            refine z_callS [.ref 19, .int a2, .int a3] [] [.int r6.1] X B 46 rfl miX6_change ⟨(iX6_set _ (List.mem_of_getElem? (i := 7) rfl)), (iX6_set _ (List.mem_of_getElem? (i := 8) rfl))⟩ (ctX6_change hj ob_19 ec) ⟨Nat.le_of_ble_eq_true rfl, Nat.le_of_ble_eq_true rfl⟩ rfl rfl (Nat.le_of_ble_eq_true rfl) rfl ?_
            by_cases hc : r6.1 = 0
            · replace hf := (if_pos hc).symm.trans hf
              refine z_if_eq_t B 47 rfl 133 (by decide) hc ?_
              refine z_iconst 0 B 50 rfl (by decide) ?_
              cases hf
              exact z_iret B 51 rfl (by decide) hQ hr
            · replace hf := (if_neg hc).symm.trans hf
              refine z_if_eq_f B 47 rfl 133 (by decide) hc ?_
              refine z_iconst 1 B 48 rfl (by decide) ?_
              refine z_goto B 49 rfl 134 (by decide) ?_
              cases hf
              exact z_iret B 51 rfl (by decide) hQ hr
        · replace hf := (if_neg hc).symm.trans hf
          have hc2 := hc
          by_cases hc : a1 = 3
          · replace hf := (if_pos hc).symm.trans hf
            refine z_tswi B 18 rfl 3 (97) 135 (by rw [hc]; decide) (by decide) rfl (by decide) ?_
            refine z_aload B 52 rfl 1 rfl ?_
            refine z_iload_n B 53 rfl 2 4 rfl rfl ?_
            obtain ⟨r7, ec, hf⟩ := bd_e hf
            refine z_callV 17 5 [.int a2] [] [.int r7] X B 54 rfl (by decide) ob_17 rfl rfl miX5_hasInner ⟨(iX6_set _ (List.mem_of_getElem? (i := 12) rfl)), (iX6_set _ (List.mem_of_getElem? (i := 13) rfl)), (iX6_set _ (List.mem_of_getElem? (i := 14) rfl))⟩ (ctX5_hasInner hj ob_17 ec) ⟨Nat.le_of_ble_eq_true rfl, Nat.le_of_ble_eq_true rfl⟩ rfl rfl (Nat.le_of_ble_eq_true rfl) rfl ?_
            by_cases hc : r7 = 0
            · replace hf := (if_pos hc).symm.trans hf
              refine z_if_eq_t B 55 rfl 161 (by decide) hc ?_
              refine z_iconst 0 B 64 rfl (by decide) ?_
              cases hf
              exact z_iret B 65 rfl (by decide) hQ hr
            · replace hf := (if_neg hc).symm.trans hf
              refine z_if_eq_f B 55 rfl 161 (by decide) hc ?_
              refine z_aload B 56 rfl 1 rfl ?_
              refine z_getr 5 3 17 B 57 rfl ob_17 rfl (iX6_set _ (List.mem_of_getElem? (i := 16) rfl)) rfl ?_
              refine z_iload_n B 58 rfl 2 4 rfl rfl ?_
              refine z_iload_n B 59 rfl 3 5 rfl rfl ?_
              obtain ⟨r8, ec, hf⟩ := bd_e hf
              refine z_callS [.ref 20, .int a2, .int a3] [] [.int r8.1] X B 60 rfl miX6_change ⟨(iX6_set _ (List.mem_of_getElem? (i := 7) rfl)), (iX6_set _ (List.mem_of_getElem? (i := 8) rfl))⟩ (ctX6_change hj ob_20 ec) ⟨Nat.le_of_ble_eq_true rfl, Nat.le_of_ble_eq_true rfl⟩ rfl rfl (Nat.le_of_ble_eq_true rfl) rfl ?_
              by_cases hc : r8.1 = 0
              · replace hf := (if_pos hc).symm.trans hf
                refine z_if_eq_t B 61 rfl 161 (by decide) hc ?_
                refine z_iconst 0 B 64 rfl (by decide) ?_
                cases hf
                exact z_iret B 65 rfl (by decide) hQ hr
              · replace hf := (if_neg hc).symm.trans hf
                refine z_if_eq_f B 61 rfl 161 (by decide) hc ?_
                refine z_iconst 1 B 62 rfl (by decide) ?_
                refine z_goto B 63 rfl 162 (by decide) ?_
                cases hf
                exact z_iret B 65 rfl (by decide) hQ hr
          · replace hf := (if_neg hc).symm.trans hf
            have hc3 := hc
            by_cases hc : a1 = 4
            · replace hf := (if_pos hc).symm.trans hf
              refine z_tswi B 18 rfl 4 (125) 163 (by rw [hc]; decide) (by decide) rfl (by decide) ?_
              refine z_iload_n B 66 rfl 3 5 rfl rfl ?_
              refine z_iconst 1 B 67 rfl (by decide) ?_
              by_cases hc : (1 : Int32) < a3
              · replace hf := (if_pos hc).symm.trans hf
                refine z_icmp_gt_t B 68 rfl 194 (by decide) hc ?_
                refine z_iconst 0 B 81 rfl (by decide) ?_
                cases hf
                exact z_iret B 82 rfl (by decide) hQ hr
              · replace hf := (if_neg hc).symm.trans hf
                refine z_icmp_gt_f B 68 rfl 194 (by decide) hc ?_
                refine z_aload B 69 rfl 0 rfl ?_
                refine z_iload_n B 70 rfl 2 4 rfl rfl ?_
                obtain ⟨r9, ec, hf⟩ := bd_e hf
                refine z_callV 24 2 [.int a2] [] [.int r9] X B 71 rfl (by decide) ob_24 rfl rfl miX2_has ⟨(iX6_set _ (List.mem_of_getElem? (i := 17) rfl)), (iX6_set _ (List.mem_of_getElem? (i := 18) rfl)), (iX6_set _ (List.mem_of_getElem? (i := 19) rfl))⟩ (ctX2_has hj ob_24 ec) ⟨Nat.le_of_ble_eq_true rfl, Nat.le_of_ble_eq_true rfl⟩ rfl rfl (Nat.le_of_ble_eq_true rfl) rfl ?_
                by_cases hc : r9 = 0
                · replace hf := (if_pos hc).symm.trans hf
                  refine z_if_eq_t B 72 rfl 194 (by decide) hc ?_
                  refine z_iconst 0 B 81 rfl (by decide) ?_
                  cases hf
                  exact z_iret B 82 rfl (by decide) hQ hr
                · replace hf := (if_neg hc).symm.trans hf
                  refine z_if_eq_f B 72 rfl 194 (by decide) hc ?_
                  refine z_aload B 73 rfl 0 rfl ?_
                  refine z_getr 2 8 24 B 74 rfl ob_24 rfl (iX6_set _ (List.mem_of_getElem? (i := 20) rfl)) rfl ?_
                  refine z_iload_n B 75 rfl 2 4 rfl rfl ?_
                  refine z_iload_n B 76 rfl 3 5 rfl rfl ?_
                  obtain ⟨r10, ec, hf⟩ := bd_e hf
                  refine z_callS [.ref 31, .int a2, .int a3] [] [.int r10.1] X B 77 rfl miX6_change ⟨(iX6_set _ (List.mem_of_getElem? (i := 7) rfl)), (iX6_set _ (List.mem_of_getElem? (i := 8) rfl))⟩ (ctX6_change hj ob_31 ec) ⟨Nat.le_of_ble_eq_true rfl, Nat.le_of_ble_eq_true rfl⟩ rfl rfl (Nat.le_of_ble_eq_true rfl) rfl ?_
                  by_cases hc : r10.1 = 0
                  · replace hf := (if_pos hc).symm.trans hf
                    refine z_if_eq_t B 78 rfl 194 (by decide) hc ?_
                    refine z_iconst 0 B 81 rfl (by decide) ?_
                    cases hf
                    exact z_iret B 82 rfl (by decide) hQ hr
                  · replace hf := (if_neg hc).symm.trans hf
                    refine z_if_eq_f B 78 rfl 194 (by decide) hc ?_
                    refine z_iconst 1 B 79 rfl (by decide) ?_
                    refine z_goto B 80 rfl 195 (by decide) ?_
                    cases hf
                    exact z_iret B 82 rfl (by decide) hQ hr
            · replace hf := (if_neg hc).symm.trans hf
              have hc4 := hc
              refine z_tswo B 18 rfl 196 (tsw_out5 hc0 hc1 hc2 hc3 hc4) (by decide) ?_
              refine z_iconst 0 B 83 rfl (by decide) ?_
              cases hf
              exact z_iret B 84 rfl (by decide) hQ hr
/-! ZoneCapacity.line(IIZ)I -/
def tbX6_line : Tb := [(0, .aload_n 0, 1, 1), (1, .getfield 10, 3, 4), (4, .getfield 57, 3, 7), (7, .getfield 106, 3, 10), (10, .astore 4, 2, 12), (12, .aload 4, 2, 14), (14, .iload_n 1, 1, 15), (15, .iload_n 2, 1, 16), (16, .invokevirtual 188, 3, 19), (19, .ifCond .ne 5, 3, 22), (22, .iconst (-1), 1, 23), (23, .ireturn, 1, 24), (24, .iload_n 3, 1, 25), (25, .ifCond .eq 13, 3, 28), (28, .aload 4, 2, 30), (30, .iload_n 1, 1, 31), (31, .iload_n 2, 1, 32), (32, .invokevirtual 192, 3, 35), (35, .goto 10, 3, 38), (38, .aload 4, 2, 40), (40, .iload_n 1, 1, 41), (41, .iload_n 2, 1, 42), (42, .invokevirtual 196, 3, 45), (45, .ireturn, 1, 46)]
theorem dtX6_line : ∀ q ∈ tbX6_line, decode cX6_line q.1 = .ok (q.2.1, q.2.2.1) ∧ q.1 + q.2.2.1 = q.2.2.2 := by decide +kernel
theorem miX6_line : MI yX6_line cX6_line 5 (some .int) 3 := ⟨tw_mem (List.mem_of_getElem? (i := 975) (by decide +kernel)) rfl, by decide, by decide +kernel, tw_mem (List.mem_of_getElem? (i := 14) (by decide +kernel)) rfl⟩
abbrev rmX6_line : Room := { frames := 4, cells := 0, slots := 0, locals := 88 }
def wX6_line : List Cond := [.fieldLink "ZoneCapacity" 10 "ZoneCapacity" "now" "LZoneCapacity$Auction;", .fieldLink "ZoneCapacity" 57 "ZoneCapacity$Auction" "market" "LZoneCapacity$Market;", .fieldLink "ZoneCapacity" 106 "ZoneCapacity$Market" "offers" "LZoneCapacity$Offers;", .methodLink "ZoneCapacity" 188 yX2_hasLine, .instanceMethod yX2_hasLine, .selects "ZoneCapacity$Offers" yX2_hasLine yX2_hasLine, .methodLink "ZoneCapacity" 196 yX2_unitsOf, .instanceMethod yX2_unitsOf, .selects "ZoneCapacity$Offers" yX2_unitsOf yX2_unitsOf, .methodLink "ZoneCapacity" 192 yX2_itsOf, .instanceMethod yX2_itsOf, .selects "ZoneCapacity$Offers" yX2_itsOf yX2_itsOf]
theorem iX6_line : ∀ w ∈ wX6_line, w ∈ TW := tw_of (ids := [243, 161, 154, 415, 416, 417, 977, 341, 342, 976, 350, 351]) (by decide +kernel)
def f6_line (mm : Mem) (a1 : Int32) (a2 : Int32) (a3 : Int32) : Option Int32 := bd (f2_hasLine mm 24 a1 a2) (fun r1 => if r1 = 0 then some ((-1 : Int32)) else if a3 = 0 then bd (f2_unitsOf mm 24 a1 a2) (fun r2 => some (r2)) else bd (f2_itsOf mm 24 a1 a2) (fun r3 => some (r3)))
theorem ctX6_line {l : Launch} {C : Cfg} (hj : Dj C) {mm : Mem} {a1 : Int32} {a2 : Int32} {a3 : Int32} {x : Int32} (hf : f6_line mm a1 a2 a3 = some x) : Ct l C yX6_line cX6_line 5 (some .int) 4 88 [.ref 14, .int a1, .int a2, .int a3] mm (some (.int x)) mm := by
  refine Ct.of (tb := tbX6_line) hj miX6_line.2.1 miX6_line.1 dtX6_line (Nat.le_of_ble_eq_true rfl) ?_
  intro E B hQ hr X
  unfold f6_line at hf
  show G E 5 0 [(0, .ref 14), (1, .int a1), (2, .int a2), (3, .int a3)] [] mm
  refine z_aload_n B 0 rfl 0 0 rfl rfl ?_
  refine z_getr 6 0 14 B 1 rfl ob_14 rfl (iX6_line _ (List.mem_of_getElem? (i := 0) rfl)) rfl ?_
  refine z_getr 0 0 15 B 2 rfl ob_15 rfl (iX6_line _ (List.mem_of_getElem? (i := 1) rfl)) rfl ?_
  refine z_getr 1 1 16 B 3 rfl ob_16 rfl (iX6_line _ (List.mem_of_getElem? (i := 2) rfl)) rfl ?_
  refine z_astore [(4, .ref 24), (0, .ref 14), (1, .int a1), (2, .int a2), (3, .int a3)] B 4 rfl (by decide) rfl ?_
  refine z_aload B 5 rfl 0 rfl ?_
  refine z_iload_n B 6 rfl 1 2 rfl rfl ?_
  refine z_iload_n B 7 rfl 2 3 rfl rfl ?_
  obtain ⟨r1, ec, hf⟩ := bd_e hf
  refine z_callV 24 2 [.int a1, .int a2] [] [.int r1] X B 8 rfl (by decide) ob_24 rfl rfl miX2_hasLine ⟨(iX6_line _ (List.mem_of_getElem? (i := 3) rfl)), (iX6_line _ (List.mem_of_getElem? (i := 4) rfl)), (iX6_line _ (List.mem_of_getElem? (i := 5) rfl))⟩ (ctX2_hasLine hj ob_24 ec) ⟨Nat.le_of_ble_eq_true rfl, Nat.le_of_ble_eq_true rfl⟩ rfl rfl (Nat.le_of_ble_eq_true rfl) rfl ?_
  by_cases hc : r1 = 0
  · replace hf := (if_pos hc).symm.trans hf
    refine z_if_ne_f B 9 rfl 24 (by decide) hc ?_
    refine z_iconst (-1) B 10 rfl (by decide) ?_
    cases hf
    exact z_iret B 11 rfl rfl hQ hr
  · replace hf := (if_neg hc).symm.trans hf
    refine z_if_ne_t B 9 rfl 24 (by decide) hc ?_
    refine z_iload_n B 12 rfl 3 4 rfl rfl ?_
    by_cases hc : a3 = 0
    · replace hf := (if_pos hc).symm.trans hf
      refine z_if_eq_t B 13 rfl 38 (by decide) hc ?_
      refine z_aload B 19 rfl 0 rfl ?_
      refine z_iload_n B 20 rfl 1 2 rfl rfl ?_
      refine z_iload_n B 21 rfl 2 3 rfl rfl ?_
      obtain ⟨r2, ec, hf⟩ := bd_e hf
      refine z_callV 24 2 [.int a1, .int a2] [] [.int r2] X B 22 rfl (by decide) ob_24 rfl rfl miX2_unitsOf ⟨(iX6_line _ (List.mem_of_getElem? (i := 6) rfl)), (iX6_line _ (List.mem_of_getElem? (i := 7) rfl)), (iX6_line _ (List.mem_of_getElem? (i := 8) rfl))⟩ (ctX2_unitsOf hj ob_24 ec) ⟨Nat.le_of_ble_eq_true rfl, Nat.le_of_ble_eq_true rfl⟩ rfl rfl (Nat.le_of_ble_eq_true rfl) rfl ?_
      cases hf
      exact z_iret B 23 rfl rfl hQ hr
    · replace hf := (if_neg hc).symm.trans hf
      refine z_if_eq_f B 13 rfl 38 (by decide) hc ?_
      refine z_aload B 14 rfl 0 rfl ?_
      refine z_iload_n B 15 rfl 1 2 rfl rfl ?_
      refine z_iload_n B 16 rfl 2 3 rfl rfl ?_
      obtain ⟨r3, ec, hf⟩ := bd_e hf
      refine z_callV 24 2 [.int a1, .int a2] [] [.int r3] X B 17 rfl (by decide) ob_24 rfl rfl miX2_itsOf ⟨(iX6_line _ (List.mem_of_getElem? (i := 9) rfl)), (iX6_line _ (List.mem_of_getElem? (i := 10) rfl)), (iX6_line _ (List.mem_of_getElem? (i := 11) rfl))⟩ (ctX2_itsOf hj ob_24 ec) ⟨Nat.le_of_ble_eq_true rfl, Nat.le_of_ble_eq_true rfl⟩ rfl rfl (Nat.le_of_ble_eq_true rfl) rfl ?_
      refine z_goto B 18 rfl 45 (by decide) ?_
      cases hf
      exact z_iret B 23 rfl rfl hQ hr
/-! ZoneCapacity.worth(II)I -/
def tbX6_worth : Tb := [(0, .aload_n 0, 1, 1), (1, .getfield 10, 3, 4), (4, .getfield 57, 3, 7), (7, .getfield 71, 3, 10), (10, .astore_n 3, 1, 11), (11, .aload_n 3, 1, 12), (12, .iload_n 1, 1, 13), (13, .invokevirtual 80, 3, 16), (16, .ifCond .eq 12, 3, 19), (19, .aload_n 3, 1, 20), (20, .iload_n 1, 1, 21), (21, .iload_n 2, 1, 22), (22, .invokevirtual 199, 3, 25), (25, .goto 4, 3, 28), (28, .iconst (-1), 1, 29), (29, .ireturn, 1, 30)]
theorem dtX6_worth : ∀ q ∈ tbX6_worth, decode cX6_worth q.1 = .ok (q.2.1, q.2.2.1) ∧ q.1 + q.2.2.1 = q.2.2.2 := by decide +kernel
theorem miX6_worth : MI yX6_worth cX6_worth 4 (some .int) 2 := ⟨tw_mem (List.mem_of_getElem? (i := 824) (by decide +kernel)) rfl, by decide, by decide +kernel, tw_mem (List.mem_of_getElem? (i := 14) (by decide +kernel)) rfl⟩
abbrev rmX6_worth : Room := { frames := 2, cells := 0, slots := 0, locals := 49 }
def wX6_worth : List Cond := [.fieldLink "ZoneCapacity" 10 "ZoneCapacity" "now" "LZoneCapacity$Auction;", .fieldLink "ZoneCapacity" 57 "ZoneCapacity$Auction" "market" "LZoneCapacity$Market;", .fieldLink "ZoneCapacity" 71 "ZoneCapacity$Market" "zones" "LZoneCapacity$Zones;", .methodLink "ZoneCapacity" 80 yX5_has, .instanceMethod yX5_has, .selects "ZoneCapacity$Zones" yX5_has yX5_has, .methodLink "ZoneCapacity" 199 yX5_worthOf, .instanceMethod yX5_worthOf, .selects "ZoneCapacity$Zones" yX5_worthOf yX5_worthOf]
theorem iX6_worth : ∀ w ∈ wX6_worth, w ∈ TW := tw_of (ids := [243, 161, 151, 267, 268, 269, 825, 826, 827]) (by decide +kernel)
def f6_worth (mm : Mem) (a1 : Int32) (a2 : Int32) : Option Int32 := bd (f5_has mm 17 a1) (fun r1 => if r1 = 0 then some ((-1 : Int32)) else bd (f5_worthOf mm 17 a1 a2) (fun r2 => some (r2)))
theorem ctX6_worth {l : Launch} {C : Cfg} (hj : Dj C) {mm : Mem} {a1 : Int32} {a2 : Int32} {x : Int32} (hf : f6_worth mm a1 a2 = some x) : Ct l C yX6_worth cX6_worth 4 (some .int) 2 49 [.ref 14, .int a1, .int a2] mm (some (.int x)) mm := by
  refine Ct.of (tb := tbX6_worth) hj miX6_worth.2.1 miX6_worth.1 dtX6_worth (Nat.le_of_ble_eq_true rfl) ?_
  intro E B hQ hr X
  unfold f6_worth at hf
  show G E 4 0 [(0, .ref 14), (1, .int a1), (2, .int a2)] [] mm
  refine z_aload_n B 0 rfl 0 0 rfl rfl ?_
  refine z_getr 6 0 14 B 1 rfl ob_14 rfl (iX6_worth _ (List.mem_of_getElem? (i := 0) rfl)) rfl ?_
  refine z_getr 0 0 15 B 2 rfl ob_15 rfl (iX6_worth _ (List.mem_of_getElem? (i := 1) rfl)) rfl ?_
  refine z_getr 1 0 16 B 3 rfl ob_16 rfl (iX6_worth _ (List.mem_of_getElem? (i := 2) rfl)) rfl ?_
  refine z_astore_n [(3, .ref 17), (0, .ref 14), (1, .int a1), (2, .int a2)] B 4 rfl 3 rfl (by decide) rfl ?_
  refine z_aload_n B 5 rfl 3 0 rfl rfl ?_
  refine z_iload_n B 6 rfl 1 2 rfl rfl ?_
  obtain ⟨r1, ec, hf⟩ := bd_e hf
  refine z_callV 17 5 [.int a1] [] [.int r1] X B 7 rfl (by decide) ob_17 rfl rfl miX5_has ⟨(iX6_worth _ (List.mem_of_getElem? (i := 3) rfl)), (iX6_worth _ (List.mem_of_getElem? (i := 4) rfl)), (iX6_worth _ (List.mem_of_getElem? (i := 5) rfl))⟩ (ctX5_has hj ob_17 ec) ⟨Nat.le_of_ble_eq_true rfl, Nat.le_of_ble_eq_true rfl⟩ rfl rfl (Nat.le_of_ble_eq_true rfl) rfl ?_
  by_cases hc : r1 = 0
  · replace hf := (if_pos hc).symm.trans hf
    refine z_if_eq_t B 8 rfl 28 (by decide) hc ?_
    refine z_iconst (-1) B 14 rfl (by decide) ?_
    cases hf
    exact z_iret B 15 rfl rfl hQ hr
  · replace hf := (if_neg hc).symm.trans hf
    refine z_if_eq_f B 8 rfl 28 (by decide) hc ?_
    refine z_aload_n B 9 rfl 3 0 rfl rfl ?_
    refine z_iload_n B 10 rfl 1 2 rfl rfl ?_
    refine z_iload_n B 11 rfl 2 3 rfl rfl ?_
    obtain ⟨r2, ec, hf⟩ := bd_e hf
    refine z_callV 17 5 [.int a1, .int a2] [] [.int r2] X B 12 rfl (by decide) ob_17 rfl rfl miX5_worthOf ⟨(iX6_worth _ (List.mem_of_getElem? (i := 6) rfl)), (iX6_worth _ (List.mem_of_getElem? (i := 7) rfl)), (iX6_worth _ (List.mem_of_getElem? (i := 8) rfl))⟩ (ctX5_worthOf hj ob_17 ec) ⟨Nat.le_of_ble_eq_true rfl, Nat.le_of_ble_eq_true rfl⟩ rfl rfl (Nat.le_of_ble_eq_true rfl) rfl ?_
    refine z_goto B 13 rfl 29 (by decide) ?_
    cases hf
    exact z_iret B 15 rfl rfl hQ hr
/-! ZoneCapacity.wants(II)I -/
def tbX6_wants : Tb := [(0, .aload_n 0, 1, 1), (1, .getfield 10, 3, 4), (4, .getfield 57, 3, 7), (7, .getfield 71, 3, 10), (10, .astore_n 3, 1, 11), (11, .aload_n 3, 1, 12), (12, .iload_n 1, 1, 13), (13, .invokevirtual 80, 3, 16), (16, .ifCond .eq 14, 3, 19), (19, .iload_n 2, 1, 20), (20, .iconst 0, 1, 21), (21, .sipush 9999, 3, 24), (24, .invokestatic 50, 3, 27), (27, .ifCond .ne 5, 3, 30), (30, .iconst (-1), 1, 31), (31, .ireturn, 1, 32), (32, .aload_n 3, 1, 33), (33, .iload_n 1, 1, 34), (34, .iload_n 2, 1, 35), (35, .invokevirtual 202, 3, 38), (38, .ireturn, 1, 39)]
theorem dtX6_wants : ∀ q ∈ tbX6_wants, decode cX6_wants q.1 = .ok (q.2.1, q.2.2.1) ∧ q.1 + q.2.2.1 = q.2.2.2 := by decide +kernel
theorem miX6_wants : MI yX6_wants cX6_wants 4 (some .int) 2 := ⟨tw_mem (List.mem_of_getElem? (i := 832) (by decide +kernel)) rfl, by decide, by decide +kernel, tw_mem (List.mem_of_getElem? (i := 14) (by decide +kernel)) rfl⟩
abbrev rmX6_wants : Room := { frames := 2, cells := 0, slots := 0, locals := 51 }
def wX6_wants : List Cond := [.fieldLink "ZoneCapacity" 10 "ZoneCapacity" "now" "LZoneCapacity$Auction;", .fieldLink "ZoneCapacity" 57 "ZoneCapacity$Auction" "market" "LZoneCapacity$Market;", .fieldLink "ZoneCapacity" 71 "ZoneCapacity$Market" "zones" "LZoneCapacity$Zones;", .methodLink "ZoneCapacity" 80 yX5_has, .instanceMethod yX5_has, .selects "ZoneCapacity$Zones" yX5_has yX5_has, .methodLink "ZoneCapacity" 50 yX6_within, .static yX6_within, .methodLink "ZoneCapacity" 202 yX5_wantedFrom, .instanceMethod yX5_wantedFrom, .selects "ZoneCapacity$Zones" yX5_wantedFrom yX5_wantedFrom]
theorem iX6_wants : ∀ w ∈ wX6_wants, w ∈ TW := tw_of (ids := [243, 161, 151, 267, 268, 269, 279, 280, 833, 378, 379]) (by decide +kernel)
def f6_wants (mm : Mem) (a1 : Int32) (a2 : Int32) : Option Int32 := bd (f5_has mm 17 a1) (fun r1 => if r1 = 0 then some ((-1 : Int32)) else bd (f6_within mm a2 (0 : Int32) (9999 : Int32)) (fun r2 => if r2 = 0 then some ((-1 : Int32)) else bd (f5_wantedFrom mm 17 a1 a2) (fun r3 => some (r3))))
theorem ctX6_wants {l : Launch} {C : Cfg} (hj : Dj C) {mm : Mem} {a1 : Int32} {a2 : Int32} {x : Int32} (hf : f6_wants mm a1 a2 = some x) : Ct l C yX6_wants cX6_wants 4 (some .int) 2 51 [.ref 14, .int a1, .int a2] mm (some (.int x)) mm := by
  refine Ct.of (tb := tbX6_wants) hj miX6_wants.2.1 miX6_wants.1 dtX6_wants (Nat.le_of_ble_eq_true rfl) ?_
  intro E B hQ hr X
  unfold f6_wants at hf
  show G E 4 0 [(0, .ref 14), (1, .int a1), (2, .int a2)] [] mm
  refine z_aload_n B 0 rfl 0 0 rfl rfl ?_
  refine z_getr 6 0 14 B 1 rfl ob_14 rfl (iX6_wants _ (List.mem_of_getElem? (i := 0) rfl)) rfl ?_
  refine z_getr 0 0 15 B 2 rfl ob_15 rfl (iX6_wants _ (List.mem_of_getElem? (i := 1) rfl)) rfl ?_
  refine z_getr 1 0 16 B 3 rfl ob_16 rfl (iX6_wants _ (List.mem_of_getElem? (i := 2) rfl)) rfl ?_
  refine z_astore_n [(3, .ref 17), (0, .ref 14), (1, .int a1), (2, .int a2)] B 4 rfl 3 rfl (by decide) rfl ?_
  refine z_aload_n B 5 rfl 3 0 rfl rfl ?_
  refine z_iload_n B 6 rfl 1 2 rfl rfl ?_
  obtain ⟨r1, ec, hf⟩ := bd_e hf
  refine z_callV 17 5 [.int a1] [] [.int r1] X B 7 rfl (by decide) ob_17 rfl rfl miX5_has ⟨(iX6_wants _ (List.mem_of_getElem? (i := 3) rfl)), (iX6_wants _ (List.mem_of_getElem? (i := 4) rfl)), (iX6_wants _ (List.mem_of_getElem? (i := 5) rfl))⟩ (ctX5_has hj ob_17 ec) ⟨Nat.le_of_ble_eq_true rfl, Nat.le_of_ble_eq_true rfl⟩ rfl rfl (Nat.le_of_ble_eq_true rfl) rfl ?_
  by_cases hc : r1 = 0
  · replace hf := (if_pos hc).symm.trans hf
    refine z_if_eq_t B 8 rfl 30 (by decide) hc ?_
    refine z_iconst (-1) B 14 rfl (by decide) ?_
    cases hf
    exact z_iret B 15 rfl rfl hQ hr
  · replace hf := (if_neg hc).symm.trans hf
    refine z_if_eq_f B 8 rfl 30 (by decide) hc ?_
    refine z_iload_n B 9 rfl 2 3 rfl rfl ?_
    refine z_iconst 0 B 10 rfl (by decide) ?_
    refine z_sipush 9999 B 11 rfl (by decide) ?_
    obtain ⟨r2, ec, hf⟩ := bd_e hf
    refine z_callS [.int a2, .int (0 : Int32), .int (9999 : Int32)] [] [.int r2] X B 12 rfl miX6_within ⟨(iX6_wants _ (List.mem_of_getElem? (i := 6) rfl)), (iX6_wants _ (List.mem_of_getElem? (i := 7) rfl))⟩ (ctX6_within hj ec) ⟨Nat.le_of_ble_eq_true rfl, Nat.le_of_ble_eq_true rfl⟩ rfl rfl (Nat.le_of_ble_eq_true rfl) rfl ?_
    by_cases hc : r2 = 0
    · replace hf := (if_pos hc).symm.trans hf
      refine z_if_ne_f B 13 rfl 32 (by decide) hc ?_
      refine z_iconst (-1) B 14 rfl (by decide) ?_
      cases hf
      exact z_iret B 15 rfl rfl hQ hr
    · replace hf := (if_neg hc).symm.trans hf
      refine z_if_ne_t B 13 rfl 32 (by decide) hc ?_
      refine z_aload_n B 16 rfl 3 0 rfl rfl ?_
      refine z_iload_n B 17 rfl 1 2 rfl rfl ?_
      refine z_iload_n B 18 rfl 2 3 rfl rfl ?_
      obtain ⟨r3, ec, hf⟩ := bd_e hf
      refine z_callV 17 5 [.int a1, .int a2] [] [.int r3] X B 19 rfl (by decide) ob_17 rfl rfl miX5_wantedFrom ⟨(iX6_wants _ (List.mem_of_getElem? (i := 8) rfl)), (iX6_wants _ (List.mem_of_getElem? (i := 9) rfl)), (iX6_wants _ (List.mem_of_getElem? (i := 10) rfl))⟩ (ctX5_wantedFrom hj ob_17 ec) ⟨Nat.le_of_ble_eq_true rfl, Nat.le_of_ble_eq_true rfl⟩ rfl rfl (Nat.le_of_ble_eq_true rfl) rfl ?_
      cases hf
      exact z_iret B 20 rfl rfl hQ hr
/-! ZoneCapacity.level(IIZ)I -/
def tbX6_level : Tb := [(0, .aload_n 0, 1, 1), (1, .getfield 10, 3, 4), (4, .getfield 57, 3, 7), (7, .getfield 71, 3, 10), (10, .iload_n 1, 1, 11), (11, .invokevirtual 80, 3, 14), (14, .ifCond .eq 14, 3, 17), (17, .iload_n 2, 1, 18), (18, .iconst 0, 1, 19), (19, .sipush 9999, 3, 22), (22, .invokestatic 50, 3, 25), (25, .ifCond .ne 6, 3, 28), (28, .ldc 205, 2, 30), (30, .ireturn, 1, 31), (31, .aload_n 0, 1, 32), (32, .getfield 10, 3, 35), (35, .iload_n 1, 1, 36), (36, .iload_n 3, 1, 37), (37, .ifCond .eq 9, 3, 40), (40, .iload_n 2, 1, 41), (41, .iconst 1, 1, 42), (42, .iadd, 1, 43), (43, .goto 4, 3, 46), (46, .iload_n 2, 1, 47), (47, .invokevirtual 206, 3, 50), (50, .ireturn, 1, 51)]
theorem dtX6_level : ∀ q ∈ tbX6_level, decode cX6_level q.1 = .ok (q.2.1, q.2.2.1) ∧ q.1 + q.2.2.1 = q.2.2.2 := by decide +kernel
theorem miX6_level : MI yX6_level cX6_level 4 (some .int) 3 := ⟨tw_mem (List.mem_of_getElem? (i := 842) (by decide +kernel)) rfl, by decide, by decide +kernel, tw_mem (List.mem_of_getElem? (i := 14) (by decide +kernel)) rfl⟩
abbrev rmX6_level : Room := { frames := 5, cells := 0, slots := 0, locals := 111 }
def wX6_level : List Cond := [.fieldLink "ZoneCapacity" 10 "ZoneCapacity" "now" "LZoneCapacity$Auction;", .fieldLink "ZoneCapacity" 57 "ZoneCapacity$Auction" "market" "LZoneCapacity$Market;", .fieldLink "ZoneCapacity" 71 "ZoneCapacity$Market" "zones" "LZoneCapacity$Zones;", .methodLink "ZoneCapacity" 80 yX5_has, .instanceMethod yX5_has, .selects "ZoneCapacity$Zones" yX5_has yX5_has, .constant "ZoneCapacity" 205 (-1000000), .methodLink "ZoneCapacity" 50 yX6_within, .static yX6_within, .methodLink "ZoneCapacity" 206 yX0_levelOf, .instanceMethod yX0_levelOf, .selects "ZoneCapacity$Auction" yX0_levelOf yX0_levelOf]
theorem iX6_level : ∀ w ∈ wX6_level, w ∈ TW := tw_of (ids := [243, 161, 151, 267, 268, 269, 843, 279, 280, 844, 845, 846]) (by decide +kernel)
def f6_level_j47 (s0 : Int32) (s1 : Int32) (mm : Mem) : Option (Int32 × Mem) := bd (f0_levelOf mm 15 s1 s0) (fun r3 => some (r3.1, r3.2))
theorem f6_level_j47_ok {E : Ev} {l : Launch} {C : Cfg} {x : (Int32 × Mem)} (hj : Dj C) (X : Ec E l C rmX6_level) (B : Bx E RX6 tbX6_level 4 (some .int)) (hQ : Rt E) (hr : Rs E (some (.int x.1)) x.2) (s0 : Int32) (s1 : Int32) (mm : Mem) (hf : f6_level_j47 s0 s1 mm = some x) : G E 4 47 [] [.int s0, .int s1, .ref 15] mm := by
  unfold f6_level_j47 at hf
  obtain ⟨r3, ec, hf⟩ := bd_e hf
  refine z_callV 15 0 [.int s1, .int s0] [] [.int r3.1] X B 24 rfl (by decide) ob_15 rfl rfl miX0_levelOf ⟨(iX6_level _ (List.mem_of_getElem? (i := 9) rfl)), (iX6_level _ (List.mem_of_getElem? (i := 10) rfl)), (iX6_level _ (List.mem_of_getElem? (i := 11) rfl))⟩ (ctX0_levelOf hj ob_15 ec) ⟨Nat.le_of_ble_eq_true rfl, Nat.le_of_ble_eq_true rfl⟩ rfl rfl (Nat.le_of_ble_eq_true rfl) rfl ?_
  cases hf
  exact z_iret B 25 rfl rfl hQ hr
def f6_level (mm : Mem) (a1 : Int32) (a2 : Int32) (a3 : Int32) : Option (Int32 × Mem) := bd (f5_has mm 17 a1) (fun r1 => if r1 = 0 then some ((-1000000 : Int32), mm) else bd (f6_within mm a2 (0 : Int32) (9999 : Int32)) (fun r2 => if r2 = 0 then some ((-1000000 : Int32), mm) else if a3 = 0 then f6_level_j47 a2 a1 mm else f6_level_j47 (a2 + (1 : Int32)) a1 mm))
theorem ctX6_level {l : Launch} {C : Cfg} (hj : Dj C) {mm : Mem} {a1 : Int32} {a2 : Int32} {a3 : Int32} {x : (Int32 × Mem)} (hf : f6_level mm a1 a2 a3 = some x) : Ct l C yX6_level cX6_level 4 (some .int) 5 111 [.ref 14, .int a1, .int a2, .int a3] mm (some (.int x.1)) x.2 := by
  refine Ct.of (tb := tbX6_level) hj miX6_level.2.1 miX6_level.1 dtX6_level (Nat.le_of_ble_eq_true rfl) ?_
  intro E B hQ hr X
  unfold f6_level at hf
  show G E 4 0 [(0, .ref 14), (1, .int a1), (2, .int a2), (3, .int a3)] [] mm
  refine z_aload_n B 0 rfl 0 0 rfl rfl ?_
  refine z_getr 6 0 14 B 1 rfl ob_14 rfl (iX6_level _ (List.mem_of_getElem? (i := 0) rfl)) rfl ?_
  refine z_getr 0 0 15 B 2 rfl ob_15 rfl (iX6_level _ (List.mem_of_getElem? (i := 1) rfl)) rfl ?_
  refine z_getr 1 0 16 B 3 rfl ob_16 rfl (iX6_level _ (List.mem_of_getElem? (i := 2) rfl)) rfl ?_
  refine z_iload_n B 4 rfl 1 1 rfl rfl ?_
  obtain ⟨r1, ec, hf⟩ := bd_e hf
  refine z_callV 17 5 [.int a1] [] [.int r1] X B 5 rfl (by decide) ob_17 rfl rfl miX5_has ⟨(iX6_level _ (List.mem_of_getElem? (i := 3) rfl)), (iX6_level _ (List.mem_of_getElem? (i := 4) rfl)), (iX6_level _ (List.mem_of_getElem? (i := 5) rfl))⟩ (ctX5_has hj ob_17 ec) ⟨Nat.le_of_ble_eq_true rfl, Nat.le_of_ble_eq_true rfl⟩ rfl rfl (Nat.le_of_ble_eq_true rfl) rfl ?_
  by_cases hc : r1 = 0
  · replace hf := (if_pos hc).symm.trans hf
    refine z_if_eq_t B 6 rfl 28 (by decide) hc ?_
    refine z_ldc (-1000000) B 12 rfl (iX6_level _ (List.mem_of_getElem? (i := 6) rfl)) ?_
    cases hf
    exact z_iret B 13 rfl rfl hQ hr
  · replace hf := (if_neg hc).symm.trans hf
    refine z_if_eq_f B 6 rfl 28 (by decide) hc ?_
    refine z_iload_n B 7 rfl 2 2 rfl rfl ?_
    refine z_iconst 0 B 8 rfl (by decide) ?_
    refine z_sipush 9999 B 9 rfl (by decide) ?_
    obtain ⟨r2, ec, hf⟩ := bd_e hf
    refine z_callS [.int a2, .int (0 : Int32), .int (9999 : Int32)] [] [.int r2] X B 10 rfl miX6_within ⟨(iX6_level _ (List.mem_of_getElem? (i := 7) rfl)), (iX6_level _ (List.mem_of_getElem? (i := 8) rfl))⟩ (ctX6_within hj ec) ⟨Nat.le_of_ble_eq_true rfl, Nat.le_of_ble_eq_true rfl⟩ rfl rfl (Nat.le_of_ble_eq_true rfl) rfl ?_
    by_cases hc : r2 = 0
    · replace hf := (if_pos hc).symm.trans hf
      refine z_if_ne_f B 11 rfl 31 (by decide) hc ?_
      refine z_ldc (-1000000) B 12 rfl (iX6_level _ (List.mem_of_getElem? (i := 6) rfl)) ?_
      cases hf
      exact z_iret B 13 rfl rfl hQ hr
    · replace hf := (if_neg hc).symm.trans hf
      refine z_if_ne_t B 11 rfl 31 (by decide) hc ?_
      refine z_aload_n B 14 rfl 0 0 rfl rfl ?_
      refine z_getr 6 0 14 B 15 rfl ob_14 rfl (iX6_level _ (List.mem_of_getElem? (i := 0) rfl)) rfl ?_
      refine z_iload_n B 16 rfl 1 1 rfl rfl ?_
      refine z_iload_n B 17 rfl 3 3 rfl rfl ?_
      by_cases hc : a3 = 0
      · replace hf := (if_pos hc).symm.trans hf
        refine z_if_eq_t B 18 rfl 46 (by decide) hc ?_
        refine z_iload_n B 23 rfl 2 2 rfl rfl ?_
        refine z_sub [] [] rfl ?_
        exact f6_level_j47_ok hj X B hQ hr _ _ _ hf
      · replace hf := (if_neg hc).symm.trans hf
        refine z_if_eq_f B 18 rfl 46 (by decide) hc ?_
        refine z_iload_n B 19 rfl 2 2 rfl rfl ?_
        refine z_iconst 1 B 20 rfl (by decide) ?_
        refine z_iadd B 21 rfl ?_
        refine z_goto B 22 rfl 47 (by decide) ?_
        refine z_sub [] [] rfl ?_
        exact f6_level_j47_ok hj X B hQ hr _ _ _ hf
/-! ZoneCapacity.price(I)I -/
def tbX6_price : Tb := [(0, .aload_n 0, 1, 1), (1, .getfield 10, 3, 4), (4, .getfield 57, 3, 7), (7, .getfield 71, 3, 10), (10, .iload_n 1, 1, 11), (11, .invokevirtual 80, 3, 14), (14, .ifCond .ne 5, 3, 17), (17, .iconst (-1), 1, 18), (18, .ireturn, 1, 19), (19, .aload_n 0, 1, 20), (20, .getfield 10, 3, 23), (23, .invokevirtual 209, 3, 26), (26, .aload_n 0, 1, 27), (27, .getfield 10, 3, 30), (30, .getfield 212, 3, 33), (33, .iload_n 1, 1, 34), (34, .invokestatic 92, 3, 37), (37, .ireturn, 1, 38)]
theorem dtX6_price : ∀ q ∈ tbX6_price, decode cX6_price q.1 = .ok (q.2.1, q.2.2.1) ∧ q.1 + q.2.2.1 = q.2.2.2 := by decide +kernel
theorem miX6_price : MI yX6_price cX6_price 2 (some .int) 1 := ⟨tw_mem (List.mem_of_getElem? (i := 331) (by decide +kernel)) rfl, by decide, by decide +kernel, tw_mem (List.mem_of_getElem? (i := 14) (by decide +kernel)) rfl⟩
abbrev rmX6_price : Room := { frames := 5, cells := 0, slots := 0, locals := 123 }
def wX6_price : List Cond := [.fieldLink "ZoneCapacity" 10 "ZoneCapacity" "now" "LZoneCapacity$Auction;", .fieldLink "ZoneCapacity" 57 "ZoneCapacity$Auction" "market" "LZoneCapacity$Market;", .fieldLink "ZoneCapacity" 71 "ZoneCapacity$Market" "zones" "LZoneCapacity$Zones;", .methodLink "ZoneCapacity" 80 yX5_has, .instanceMethod yX5_has, .selects "ZoneCapacity$Zones" yX5_has yX5_has, .methodLink "ZoneCapacity" 209 yX0_clear, .instanceMethod yX0_clear, .selects "ZoneCapacity$Auction" yX0_clear yX0_clear, .fieldLink "ZoneCapacity" 212 "ZoneCapacity$Auction" "prices" "[I", .methodLink "ZoneCapacity" 92 yX6_at, .static yX6_at]
theorem iX6_price : ∀ w ∈ wX6_price, w ∈ TW := tw_of (ids := [243, 161, 151, 267, 268, 269, 332, 333, 334, 163, 271, 272]) (by decide +kernel)
def f6_price (mm : Mem) (a1 : Int32) : Option (Int32 × Mem) := bd (f5_has mm 17 a1) (fun r1 => if r1 = 0 then some ((-1 : Int32), mm) else bd (f0_clear mm 15) (fun r2 => bd (f6_at r2 35 a1) (fun r3 => some (r3, r2))))
theorem ctX6_price {l : Launch} {C : Cfg} (hj : Dj C) {mm : Mem} {a1 : Int32} {x : (Int32 × Mem)} (hf : f6_price mm a1 = some x) : Ct l C yX6_price cX6_price 2 (some .int) 5 123 [.ref 14, .int a1] mm (some (.int x.1)) x.2 := by
  refine Ct.of (tb := tbX6_price) hj miX6_price.2.1 miX6_price.1 dtX6_price (Nat.le_of_ble_eq_true rfl) ?_
  intro E B hQ hr X
  unfold f6_price at hf
  show G E 2 0 [(0, .ref 14), (1, .int a1)] [] mm
  refine z_aload_n B 0 rfl 0 0 rfl rfl ?_
  refine z_getr 6 0 14 B 1 rfl ob_14 rfl (iX6_price _ (List.mem_of_getElem? (i := 0) rfl)) rfl ?_
  refine z_getr 0 0 15 B 2 rfl ob_15 rfl (iX6_price _ (List.mem_of_getElem? (i := 1) rfl)) rfl ?_
  refine z_getr 1 0 16 B 3 rfl ob_16 rfl (iX6_price _ (List.mem_of_getElem? (i := 2) rfl)) rfl ?_
  refine z_iload_n B 4 rfl 1 1 rfl rfl ?_
  obtain ⟨r1, ec, hf⟩ := bd_e hf
  refine z_callV 17 5 [.int a1] [] [.int r1] X B 5 rfl (by decide) ob_17 rfl rfl miX5_has ⟨(iX6_price _ (List.mem_of_getElem? (i := 3) rfl)), (iX6_price _ (List.mem_of_getElem? (i := 4) rfl)), (iX6_price _ (List.mem_of_getElem? (i := 5) rfl))⟩ (ctX5_has hj ob_17 ec) ⟨Nat.le_of_ble_eq_true rfl, Nat.le_of_ble_eq_true rfl⟩ rfl rfl (Nat.le_of_ble_eq_true rfl) rfl ?_
  by_cases hc : r1 = 0
  · replace hf := (if_pos hc).symm.trans hf
    refine z_if_ne_f B 6 rfl 19 (by decide) hc ?_
    refine z_iconst (-1) B 7 rfl (by decide) ?_
    cases hf
    exact z_iret B 8 rfl rfl hQ hr
  · replace hf := (if_neg hc).symm.trans hf
    refine z_if_ne_t B 6 rfl 19 (by decide) hc ?_
    refine z_aload_n B 9 rfl 0 0 rfl rfl ?_
    refine z_getr 6 0 14 B 10 rfl ob_14 rfl (iX6_price _ (List.mem_of_getElem? (i := 0) rfl)) rfl ?_
    obtain ⟨r2, ec, hf⟩ := bd_e hf
    refine z_callV 15 0 [] [] [] X B 11 rfl (by decide) ob_15 rfl rfl miX0_clear ⟨(iX6_price _ (List.mem_of_getElem? (i := 6) rfl)), (iX6_price _ (List.mem_of_getElem? (i := 7) rfl)), (iX6_price _ (List.mem_of_getElem? (i := 8) rfl))⟩ (ctX0_clear hj ob_15 ec) ⟨Nat.le_of_ble_eq_true rfl, Nat.le_of_ble_eq_true rfl⟩ rfl rfl (Nat.le_of_ble_eq_true rfl) rfl ?_
    refine z_aload_n B 12 rfl 0 0 rfl rfl ?_
    refine z_getr 6 0 14 B 13 rfl ob_14 rfl (iX6_price _ (List.mem_of_getElem? (i := 0) rfl)) rfl ?_
    refine z_getr 0 1 15 B 14 rfl ob_15 rfl (iX6_price _ (List.mem_of_getElem? (i := 9) rfl)) rfl ?_
    refine z_iload_n B 15 rfl 1 1 rfl rfl ?_
    obtain ⟨r3, ec, hf⟩ := bd_e hf
    refine z_callS [.ref 35, .int a1] [] [.int r3] X B 16 rfl miX6_at ⟨(iX6_price _ (List.mem_of_getElem? (i := 10) rfl)), (iX6_price _ (List.mem_of_getElem? (i := 11) rfl))⟩ (ctX6_at hj ob_35 ec) ⟨Nat.le_of_ble_eq_true rfl, Nat.le_of_ble_eq_true rfl⟩ rfl rfl (Nat.le_of_ble_eq_true rfl) rfl ?_
    cases hf
    exact z_iret B 17 rfl rfl hQ hr
/-! ZoneCapacity.net(I)I -/
def tbX6_net : Tb := [(0, .aload_n 0, 1, 1), (1, .getfield 10, 3, 4), (4, .getfield 57, 3, 7), (7, .getfield 71, 3, 10), (10, .iload_n 1, 1, 11), (11, .invokevirtual 80, 3, 14), (14, .ifCond .ne 6, 3, 17), (17, .ldc 205, 2, 19), (19, .ireturn, 1, 20), (20, .aload_n 0, 1, 21), (21, .getfield 10, 3, 24), (24, .invokevirtual 209, 3, 27), (27, .aload_n 0, 1, 28), (28, .getfield 10, 3, 31), (31, .getfield 215, 3, 34), (34, .iload_n 1, 1, 35), (35, .invokestatic 92, 3, 38), (38, .ireturn, 1, 39)]
theorem dtX6_net : ∀ q ∈ tbX6_net, decode cX6_net q.1 = .ok (q.2.1, q.2.2.1) ∧ q.1 + q.2.2.1 = q.2.2.2 := by decide +kernel
theorem miX6_net : MI yX6_net cX6_net 2 (some .int) 1 := ⟨tw_mem (List.mem_of_getElem? (i := 996) (by decide +kernel)) rfl, by decide, by decide +kernel, tw_mem (List.mem_of_getElem? (i := 14) (by decide +kernel)) rfl⟩
abbrev rmX6_net : Room := { frames := 5, cells := 0, slots := 0, locals := 123 }
def wX6_net : List Cond := [.fieldLink "ZoneCapacity" 10 "ZoneCapacity" "now" "LZoneCapacity$Auction;", .fieldLink "ZoneCapacity" 57 "ZoneCapacity$Auction" "market" "LZoneCapacity$Market;", .fieldLink "ZoneCapacity" 71 "ZoneCapacity$Market" "zones" "LZoneCapacity$Zones;", .methodLink "ZoneCapacity" 80 yX5_has, .instanceMethod yX5_has, .selects "ZoneCapacity$Zones" yX5_has yX5_has, .methodLink "ZoneCapacity" 209 yX0_clear, .instanceMethod yX0_clear, .selects "ZoneCapacity$Auction" yX0_clear yX0_clear, .fieldLink "ZoneCapacity" 215 "ZoneCapacity$Auction" "nets" "[I", .methodLink "ZoneCapacity" 92 yX6_at, .static yX6_at, .constant "ZoneCapacity" 205 (-1000000)]
theorem iX6_net : ∀ w ∈ wX6_net, w ∈ TW := tw_of (ids := [243, 161, 151, 267, 268, 269, 332, 333, 334, 165, 271, 272, 843]) (by decide +kernel)
def f6_net (mm : Mem) (a1 : Int32) : Option (Int32 × Mem) := bd (f5_has mm 17 a1) (fun r1 => if r1 = 0 then some ((-1000000 : Int32), mm) else bd (f0_clear mm 15) (fun r2 => bd (f6_at r2 36 a1) (fun r3 => some (r3, r2))))
theorem ctX6_net {l : Launch} {C : Cfg} (hj : Dj C) {mm : Mem} {a1 : Int32} {x : (Int32 × Mem)} (hf : f6_net mm a1 = some x) : Ct l C yX6_net cX6_net 2 (some .int) 5 123 [.ref 14, .int a1] mm (some (.int x.1)) x.2 := by
  refine Ct.of (tb := tbX6_net) hj miX6_net.2.1 miX6_net.1 dtX6_net (Nat.le_of_ble_eq_true rfl) ?_
  intro E B hQ hr X
  unfold f6_net at hf
  show G E 2 0 [(0, .ref 14), (1, .int a1)] [] mm
  refine z_aload_n B 0 rfl 0 0 rfl rfl ?_
  refine z_getr 6 0 14 B 1 rfl ob_14 rfl (iX6_net _ (List.mem_of_getElem? (i := 0) rfl)) rfl ?_
  refine z_getr 0 0 15 B 2 rfl ob_15 rfl (iX6_net _ (List.mem_of_getElem? (i := 1) rfl)) rfl ?_
  refine z_getr 1 0 16 B 3 rfl ob_16 rfl (iX6_net _ (List.mem_of_getElem? (i := 2) rfl)) rfl ?_
  refine z_iload_n B 4 rfl 1 1 rfl rfl ?_
  obtain ⟨r1, ec, hf⟩ := bd_e hf
  refine z_callV 17 5 [.int a1] [] [.int r1] X B 5 rfl (by decide) ob_17 rfl rfl miX5_has ⟨(iX6_net _ (List.mem_of_getElem? (i := 3) rfl)), (iX6_net _ (List.mem_of_getElem? (i := 4) rfl)), (iX6_net _ (List.mem_of_getElem? (i := 5) rfl))⟩ (ctX5_has hj ob_17 ec) ⟨Nat.le_of_ble_eq_true rfl, Nat.le_of_ble_eq_true rfl⟩ rfl rfl (Nat.le_of_ble_eq_true rfl) rfl ?_
  by_cases hc : r1 = 0
  · replace hf := (if_pos hc).symm.trans hf
    refine z_if_ne_f B 6 rfl 20 (by decide) hc ?_
    refine z_ldc (-1000000) B 7 rfl (iX6_net _ (List.mem_of_getElem? (i := 12) rfl)) ?_
    cases hf
    exact z_iret B 8 rfl rfl hQ hr
  · replace hf := (if_neg hc).symm.trans hf
    refine z_if_ne_t B 6 rfl 20 (by decide) hc ?_
    refine z_aload_n B 9 rfl 0 0 rfl rfl ?_
    refine z_getr 6 0 14 B 10 rfl ob_14 rfl (iX6_net _ (List.mem_of_getElem? (i := 0) rfl)) rfl ?_
    obtain ⟨r2, ec, hf⟩ := bd_e hf
    refine z_callV 15 0 [] [] [] X B 11 rfl (by decide) ob_15 rfl rfl miX0_clear ⟨(iX6_net _ (List.mem_of_getElem? (i := 6) rfl)), (iX6_net _ (List.mem_of_getElem? (i := 7) rfl)), (iX6_net _ (List.mem_of_getElem? (i := 8) rfl))⟩ (ctX0_clear hj ob_15 ec) ⟨Nat.le_of_ble_eq_true rfl, Nat.le_of_ble_eq_true rfl⟩ rfl rfl (Nat.le_of_ble_eq_true rfl) rfl ?_
    refine z_aload_n B 12 rfl 0 0 rfl rfl ?_
    refine z_getr 6 0 14 B 13 rfl ob_14 rfl (iX6_net _ (List.mem_of_getElem? (i := 0) rfl)) rfl ?_
    refine z_getr 0 2 15 B 14 rfl ob_15 rfl (iX6_net _ (List.mem_of_getElem? (i := 9) rfl)) rfl ?_
    refine z_iload_n B 15 rfl 1 1 rfl rfl ?_
    obtain ⟨r3, ec, hf⟩ := bd_e hf
    refine z_callS [.ref 36, .int a1] [] [.int r3] X B 16 rfl miX6_at ⟨(iX6_net _ (List.mem_of_getElem? (i := 10) rfl)), (iX6_net _ (List.mem_of_getElem? (i := 11) rfl))⟩ (ctX6_at hj ob_36 ec) ⟨Nat.le_of_ble_eq_true rfl, Nat.le_of_ble_eq_true rfl⟩ rfl rfl (Nat.le_of_ble_eq_true rfl) rfl ?_
    cases hf
    exact z_iret B 17 rfl rfl hQ hr
/-! ZoneCapacity.served(I)I -/
def tbX6_served : Tb := [(0, .aload_n 0, 1, 1), (1, .getfield 10, 3, 4), (4, .getfield 57, 3, 7), (7, .getfield 71, 3, 10), (10, .iload_n 1, 1, 11), (11, .invokevirtual 80, 3, 14), (14, .ifCond .ne 5, 3, 17), (17, .iconst (-1), 1, 18), (18, .ireturn, 1, 19), (19, .aload_n 0, 1, 20), (20, .getfield 10, 3, 23), (23, .invokevirtual 209, 3, 26), (26, .aload_n 0, 1, 27), (27, .getfield 10, 3, 30), (30, .getfield 218, 3, 33), (33, .iload_n 1, 1, 34), (34, .invokestatic 92, 3, 37), (37, .ireturn, 1, 38)]
theorem dtX6_served : ∀ q ∈ tbX6_served, decode cX6_served q.1 = .ok (q.2.1, q.2.2.1) ∧ q.1 + q.2.2.1 = q.2.2.2 := by decide +kernel
theorem miX6_served : MI yX6_served cX6_served 2 (some .int) 1 := ⟨tw_mem (List.mem_of_getElem? (i := 1000) (by decide +kernel)) rfl, by decide, by decide +kernel, tw_mem (List.mem_of_getElem? (i := 14) (by decide +kernel)) rfl⟩
abbrev rmX6_served : Room := { frames := 5, cells := 0, slots := 0, locals := 123 }
def wX6_served : List Cond := [.fieldLink "ZoneCapacity" 10 "ZoneCapacity" "now" "LZoneCapacity$Auction;", .fieldLink "ZoneCapacity" 57 "ZoneCapacity$Auction" "market" "LZoneCapacity$Market;", .fieldLink "ZoneCapacity" 71 "ZoneCapacity$Market" "zones" "LZoneCapacity$Zones;", .methodLink "ZoneCapacity" 80 yX5_has, .instanceMethod yX5_has, .selects "ZoneCapacity$Zones" yX5_has yX5_has, .methodLink "ZoneCapacity" 209 yX0_clear, .instanceMethod yX0_clear, .selects "ZoneCapacity$Auction" yX0_clear yX0_clear, .fieldLink "ZoneCapacity" 218 "ZoneCapacity$Auction" "servedUnits" "[I", .methodLink "ZoneCapacity" 92 yX6_at, .static yX6_at]
theorem iX6_served : ∀ w ∈ wX6_served, w ∈ TW := tw_of (ids := [243, 161, 151, 267, 268, 269, 332, 333, 334, 167, 271, 272]) (by decide +kernel)
def f6_served (mm : Mem) (a1 : Int32) : Option (Int32 × Mem) := bd (f5_has mm 17 a1) (fun r1 => if r1 = 0 then some ((-1 : Int32), mm) else bd (f0_clear mm 15) (fun r2 => bd (f6_at r2 37 a1) (fun r3 => some (r3, r2))))
theorem ctX6_served {l : Launch} {C : Cfg} (hj : Dj C) {mm : Mem} {a1 : Int32} {x : (Int32 × Mem)} (hf : f6_served mm a1 = some x) : Ct l C yX6_served cX6_served 2 (some .int) 5 123 [.ref 14, .int a1] mm (some (.int x.1)) x.2 := by
  refine Ct.of (tb := tbX6_served) hj miX6_served.2.1 miX6_served.1 dtX6_served (Nat.le_of_ble_eq_true rfl) ?_
  intro E B hQ hr X
  unfold f6_served at hf
  show G E 2 0 [(0, .ref 14), (1, .int a1)] [] mm
  refine z_aload_n B 0 rfl 0 0 rfl rfl ?_
  refine z_getr 6 0 14 B 1 rfl ob_14 rfl (iX6_served _ (List.mem_of_getElem? (i := 0) rfl)) rfl ?_
  refine z_getr 0 0 15 B 2 rfl ob_15 rfl (iX6_served _ (List.mem_of_getElem? (i := 1) rfl)) rfl ?_
  refine z_getr 1 0 16 B 3 rfl ob_16 rfl (iX6_served _ (List.mem_of_getElem? (i := 2) rfl)) rfl ?_
  refine z_iload_n B 4 rfl 1 1 rfl rfl ?_
  obtain ⟨r1, ec, hf⟩ := bd_e hf
  refine z_callV 17 5 [.int a1] [] [.int r1] X B 5 rfl (by decide) ob_17 rfl rfl miX5_has ⟨(iX6_served _ (List.mem_of_getElem? (i := 3) rfl)), (iX6_served _ (List.mem_of_getElem? (i := 4) rfl)), (iX6_served _ (List.mem_of_getElem? (i := 5) rfl))⟩ (ctX5_has hj ob_17 ec) ⟨Nat.le_of_ble_eq_true rfl, Nat.le_of_ble_eq_true rfl⟩ rfl rfl (Nat.le_of_ble_eq_true rfl) rfl ?_
  by_cases hc : r1 = 0
  · replace hf := (if_pos hc).symm.trans hf
    refine z_if_ne_f B 6 rfl 19 (by decide) hc ?_
    refine z_iconst (-1) B 7 rfl (by decide) ?_
    cases hf
    exact z_iret B 8 rfl rfl hQ hr
  · replace hf := (if_neg hc).symm.trans hf
    refine z_if_ne_t B 6 rfl 19 (by decide) hc ?_
    refine z_aload_n B 9 rfl 0 0 rfl rfl ?_
    refine z_getr 6 0 14 B 10 rfl ob_14 rfl (iX6_served _ (List.mem_of_getElem? (i := 0) rfl)) rfl ?_
    obtain ⟨r2, ec, hf⟩ := bd_e hf
    refine z_callV 15 0 [] [] [] X B 11 rfl (by decide) ob_15 rfl rfl miX0_clear ⟨(iX6_served _ (List.mem_of_getElem? (i := 6) rfl)), (iX6_served _ (List.mem_of_getElem? (i := 7) rfl)), (iX6_served _ (List.mem_of_getElem? (i := 8) rfl))⟩ (ctX0_clear hj ob_15 ec) ⟨Nat.le_of_ble_eq_true rfl, Nat.le_of_ble_eq_true rfl⟩ rfl rfl (Nat.le_of_ble_eq_true rfl) rfl ?_
    refine z_aload_n B 12 rfl 0 0 rfl rfl ?_
    refine z_getr 6 0 14 B 13 rfl ob_14 rfl (iX6_served _ (List.mem_of_getElem? (i := 0) rfl)) rfl ?_
    refine z_getr 0 3 15 B 14 rfl ob_15 rfl (iX6_served _ (List.mem_of_getElem? (i := 9) rfl)) rfl ?_
    refine z_iload_n B 15 rfl 1 1 rfl rfl ?_
    obtain ⟨r3, ec, hf⟩ := bd_e hf
    refine z_callS [.ref 37, .int a1] [] [.int r3] X B 16 rfl miX6_at ⟨(iX6_served _ (List.mem_of_getElem? (i := 10) rfl)), (iX6_served _ (List.mem_of_getElem? (i := 11) rfl))⟩ (ctX6_at hj ob_37 ec) ⟨Nat.le_of_ble_eq_true rfl, Nat.le_of_ble_eq_true rfl⟩ rfl rfl (Nat.le_of_ble_eq_true rfl) rfl ?_
    cases hf
    exact z_iret B 17 rfl rfl hQ hr
/-! ZoneCapacity.taken(II)I -/
def tbX6_taken : Tb := [(0, .aload_n 0, 1, 1), (1, .getfield 10, 3, 4), (4, .getfield 57, 3, 7), (7, .getfield 106, 3, 10), (10, .astore_n 3, 1, 11), (11, .aload_n 3, 1, 12), (12, .iload_n 1, 1, 13), (13, .invokevirtual 116, 3, 16), (16, .ifCond .ne 5, 3, 19), (19, .iconst (-1), 1, 20), (20, .ireturn, 1, 21), (21, .iload_n 2, 1, 22), (22, .iconst (-1), 1, 23), (23, .if_icmp .ne 19, 3, 26), (26, .aload_n 0, 1, 27), (27, .getfield 10, 3, 30), (30, .invokevirtual 209, 3, 33), (33, .aload_n 0, 1, 34), (34, .getfield 10, 3, 37), (37, .iload_n 1, 1, 38), (38, .invokevirtual 221, 3, 41), (41, .ireturn, 1, 42), (42, .aload_n 3, 1, 43), (43, .iload_n 1, 1, 44), (44, .iload_n 2, 1, 45), (45, .invokevirtual 188, 3, 48), (48, .ifCond .ne 5, 3, 51), (51, .iconst (-1), 1, 52), (52, .ireturn, 1, 53), (53, .aload_n 0, 1, 54), (54, .getfield 10, 3, 57), (57, .invokevirtual 209, 3, 60), (60, .aload_n 0, 1, 61), (61, .getfield 10, 3, 64), (64, .getfield 224, 3, 67), (67, .iload_n 1, 1, 68), (68, .iconst 4, 1, 69), (69, .imul, 1, 70), (70, .iload_n 2, 1, 71), (71, .iadd, 1, 72), (72, .invokestatic 92, 3, 75), (75, .ireturn, 1, 76)]
theorem dtX6_taken : ∀ q ∈ tbX6_taken, decode cX6_taken q.1 = .ok (q.2.1, q.2.2.1) ∧ q.1 + q.2.2.1 = q.2.2.2 := by decide +kernel
theorem miX6_taken : MI yX6_taken cX6_taken 4 (some .int) 2 := ⟨tw_mem (List.mem_of_getElem? (i := 410) (by decide +kernel)) rfl, by decide, by decide +kernel, tw_mem (List.mem_of_getElem? (i := 14) (by decide +kernel)) rfl⟩
abbrev rmX6_taken : Room := { frames := 5, cells := 0, slots := 0, locals := 123 }
def wX6_taken : List Cond := [.fieldLink "ZoneCapacity" 10 "ZoneCapacity" "now" "LZoneCapacity$Auction;", .fieldLink "ZoneCapacity" 57 "ZoneCapacity$Auction" "market" "LZoneCapacity$Market;", .fieldLink "ZoneCapacity" 106 "ZoneCapacity$Market" "offers" "LZoneCapacity$Offers;", .methodLink "ZoneCapacity" 116 yX2_has, .instanceMethod yX2_has, .selects "ZoneCapacity$Offers" yX2_has yX2_has, .methodLink "ZoneCapacity" 188 yX2_hasLine, .instanceMethod yX2_hasLine, .selects "ZoneCapacity$Offers" yX2_hasLine yX2_hasLine, .methodLink "ZoneCapacity" 209 yX0_clear, .instanceMethod yX0_clear, .selects "ZoneCapacity$Auction" yX0_clear yX0_clear, .fieldLink "ZoneCapacity" 224 "ZoneCapacity$Auction" "takenUnits" "[I", .methodLink "ZoneCapacity" 92 yX6_at, .static yX6_at, .methodLink "ZoneCapacity" 221 yX0_takenOf, .instanceMethod yX0_takenOf, .selects "ZoneCapacity$Auction" yX0_takenOf yX0_takenOf]
theorem iX6_taken : ∀ w ∈ wX6_taken, w ∈ TW := tw_of (ids := [243, 161, 154, 297, 298, 299, 415, 416, 417, 332, 333, 334, 169, 271, 272, 411, 412, 413]) (by decide +kernel)
def f6_taken (mm : Mem) (a1 : Int32) (a2 : Int32) : Option (Int32 × Mem) := bd (f2_has mm 24 a1) (fun r1 => if r1 = 0 then some ((-1 : Int32), mm) else if a2 = (-1 : Int32) then bd (f0_clear mm 15) (fun r5 => bd (f0_takenOf r5 15 a1) (fun r6 => some (r6, r5))) else bd (f2_hasLine mm 24 a1 a2) (fun r2 => if r2 = 0 then some ((-1 : Int32), mm) else bd (f0_clear mm 15) (fun r3 => bd (f6_at r3 38 ((a1 * (4 : Int32)) + a2)) (fun r4 => some (r4, r3)))))
theorem ctX6_taken {l : Launch} {C : Cfg} (hj : Dj C) {mm : Mem} {a1 : Int32} {a2 : Int32} {x : (Int32 × Mem)} (hf : f6_taken mm a1 a2 = some x) : Ct l C yX6_taken cX6_taken 4 (some .int) 5 123 [.ref 14, .int a1, .int a2] mm (some (.int x.1)) x.2 := by
  refine Ct.of (tb := tbX6_taken) hj miX6_taken.2.1 miX6_taken.1 dtX6_taken (Nat.le_of_ble_eq_true rfl) ?_
  intro E B hQ hr X
  unfold f6_taken at hf
  show G E 4 0 [(0, .ref 14), (1, .int a1), (2, .int a2)] [] mm
  refine z_aload_n B 0 rfl 0 0 rfl rfl ?_
  refine z_getr 6 0 14 B 1 rfl ob_14 rfl (iX6_taken _ (List.mem_of_getElem? (i := 0) rfl)) rfl ?_
  refine z_getr 0 0 15 B 2 rfl ob_15 rfl (iX6_taken _ (List.mem_of_getElem? (i := 1) rfl)) rfl ?_
  refine z_getr 1 1 16 B 3 rfl ob_16 rfl (iX6_taken _ (List.mem_of_getElem? (i := 2) rfl)) rfl ?_
  refine z_astore_n [(3, .ref 24), (0, .ref 14), (1, .int a1), (2, .int a2)] B 4 rfl 3 rfl (by decide) rfl ?_
  refine z_aload_n B 5 rfl 3 0 rfl rfl ?_
  refine z_iload_n B 6 rfl 1 2 rfl rfl ?_
  obtain ⟨r1, ec, hf⟩ := bd_e hf
  refine z_callV 24 2 [.int a1] [] [.int r1] X B 7 rfl (by decide) ob_24 rfl rfl miX2_has ⟨(iX6_taken _ (List.mem_of_getElem? (i := 3) rfl)), (iX6_taken _ (List.mem_of_getElem? (i := 4) rfl)), (iX6_taken _ (List.mem_of_getElem? (i := 5) rfl))⟩ (ctX2_has hj ob_24 ec) ⟨Nat.le_of_ble_eq_true rfl, Nat.le_of_ble_eq_true rfl⟩ rfl rfl (Nat.le_of_ble_eq_true rfl) rfl ?_
  by_cases hc : r1 = 0
  · replace hf := (if_pos hc).symm.trans hf
    refine z_if_ne_f B 8 rfl 21 (by decide) hc ?_
    refine z_iconst (-1) B 9 rfl (by decide) ?_
    cases hf
    exact z_iret B 10 rfl rfl hQ hr
  · replace hf := (if_neg hc).symm.trans hf
    refine z_if_ne_t B 8 rfl 21 (by decide) hc ?_
    refine z_iload_n B 11 rfl 2 3 rfl rfl ?_
    refine z_iconst (-1) B 12 rfl (by decide) ?_
    by_cases hc : a2 = (-1 : Int32)
    · replace hf := (if_pos hc).symm.trans hf
      refine z_icmp_ne_f B 13 rfl 42 (by decide) hc ?_
      refine z_aload_n B 14 rfl 0 1 rfl rfl ?_
      refine z_getr 6 0 14 B 15 rfl ob_14 rfl (iX6_taken _ (List.mem_of_getElem? (i := 0) rfl)) rfl ?_
      obtain ⟨r5, ec, hf⟩ := bd_e hf
      refine z_callV 15 0 [] [] [] X B 16 rfl (by decide) ob_15 rfl rfl miX0_clear ⟨(iX6_taken _ (List.mem_of_getElem? (i := 9) rfl)), (iX6_taken _ (List.mem_of_getElem? (i := 10) rfl)), (iX6_taken _ (List.mem_of_getElem? (i := 11) rfl))⟩ (ctX0_clear hj ob_15 ec) ⟨Nat.le_of_ble_eq_true rfl, Nat.le_of_ble_eq_true rfl⟩ rfl rfl (Nat.le_of_ble_eq_true rfl) rfl ?_
      refine z_aload_n B 17 rfl 0 1 rfl rfl ?_
      refine z_getr 6 0 14 B 18 rfl ob_14 rfl (iX6_taken _ (List.mem_of_getElem? (i := 0) rfl)) rfl ?_
      refine z_iload_n B 19 rfl 1 2 rfl rfl ?_
      obtain ⟨r6, ec, hf⟩ := bd_e hf
      refine z_callV 15 0 [.int a1] [] [.int r6] X B 20 rfl (by decide) ob_15 rfl rfl miX0_takenOf ⟨(iX6_taken _ (List.mem_of_getElem? (i := 15) rfl)), (iX6_taken _ (List.mem_of_getElem? (i := 16) rfl)), (iX6_taken _ (List.mem_of_getElem? (i := 17) rfl))⟩ (ctX0_takenOf hj ob_15 ec) ⟨Nat.le_of_ble_eq_true rfl, Nat.le_of_ble_eq_true rfl⟩ rfl rfl (Nat.le_of_ble_eq_true rfl) rfl ?_
      cases hf
      exact z_iret B 21 rfl rfl hQ hr
    · replace hf := (if_neg hc).symm.trans hf
      refine z_icmp_ne_t B 13 rfl 42 (by decide) hc ?_
      refine z_aload_n B 22 rfl 3 0 rfl rfl ?_
      refine z_iload_n B 23 rfl 1 2 rfl rfl ?_
      refine z_iload_n B 24 rfl 2 3 rfl rfl ?_
      obtain ⟨r2, ec, hf⟩ := bd_e hf
      refine z_callV 24 2 [.int a1, .int a2] [] [.int r2] X B 25 rfl (by decide) ob_24 rfl rfl miX2_hasLine ⟨(iX6_taken _ (List.mem_of_getElem? (i := 6) rfl)), (iX6_taken _ (List.mem_of_getElem? (i := 7) rfl)), (iX6_taken _ (List.mem_of_getElem? (i := 8) rfl))⟩ (ctX2_hasLine hj ob_24 ec) ⟨Nat.le_of_ble_eq_true rfl, Nat.le_of_ble_eq_true rfl⟩ rfl rfl (Nat.le_of_ble_eq_true rfl) rfl ?_
      by_cases hc : r2 = 0
      · replace hf := (if_pos hc).symm.trans hf
        refine z_if_ne_f B 26 rfl 53 (by decide) hc ?_
        refine z_iconst (-1) B 27 rfl (by decide) ?_
        cases hf
        exact z_iret B 28 rfl rfl hQ hr
      · replace hf := (if_neg hc).symm.trans hf
        refine z_if_ne_t B 26 rfl 53 (by decide) hc ?_
        refine z_aload_n B 29 rfl 0 1 rfl rfl ?_
        refine z_getr 6 0 14 B 30 rfl ob_14 rfl (iX6_taken _ (List.mem_of_getElem? (i := 0) rfl)) rfl ?_
        obtain ⟨r3, ec, hf⟩ := bd_e hf
        refine z_callV 15 0 [] [] [] X B 31 rfl (by decide) ob_15 rfl rfl miX0_clear ⟨(iX6_taken _ (List.mem_of_getElem? (i := 9) rfl)), (iX6_taken _ (List.mem_of_getElem? (i := 10) rfl)), (iX6_taken _ (List.mem_of_getElem? (i := 11) rfl))⟩ (ctX0_clear hj ob_15 ec) ⟨Nat.le_of_ble_eq_true rfl, Nat.le_of_ble_eq_true rfl⟩ rfl rfl (Nat.le_of_ble_eq_true rfl) rfl ?_
        refine z_aload_n B 32 rfl 0 1 rfl rfl ?_
        refine z_getr 6 0 14 B 33 rfl ob_14 rfl (iX6_taken _ (List.mem_of_getElem? (i := 0) rfl)) rfl ?_
        refine z_getr 0 4 15 B 34 rfl ob_15 rfl (iX6_taken _ (List.mem_of_getElem? (i := 12) rfl)) rfl ?_
        refine z_iload_n B 35 rfl 1 2 rfl rfl ?_
        refine z_iconst 4 B 36 rfl (by decide) ?_
        refine z_imul B 37 rfl ?_
        refine z_iload_n B 38 rfl 2 3 rfl rfl ?_
        refine z_iadd B 39 rfl ?_
        obtain ⟨r4, ec, hf⟩ := bd_e hf
        refine z_callS [.ref 38, .int ((a1 * (4 : Int32)) + a2)] [] [.int r4] X B 40 rfl miX6_at ⟨(iX6_taken _ (List.mem_of_getElem? (i := 13) rfl)), (iX6_taken _ (List.mem_of_getElem? (i := 14) rfl))⟩ (ctX6_at hj ob_38 ec) ⟨Nat.le_of_ble_eq_true rfl, Nat.le_of_ble_eq_true rfl⟩ rfl rfl (Nat.le_of_ble_eq_true rfl) rfl ?_
        cases hf
        exact z_iret B 41 rfl rfl hQ hr
/-! ZoneCapacity.binds(I)I -/
def tbX6_binds : Tb := [(0, .aload_n 0, 1, 1), (1, .getfield 10, 3, 4), (4, .getfield 57, 3, 7), (7, .getfield 71, 3, 10), (10, .iload_n 1, 1, 11), (11, .invokevirtual 80, 3, 14), (14, .ifCond .ne 5, 3, 17), (17, .iconst (-1), 1, 18), (18, .ireturn, 1, 19), (19, .iload_n 1, 1, 20), (20, .ifCond .ne 5, 3, 23), (23, .iconst 0, 1, 24), (24, .ireturn, 1, 25), (25, .aload_n 0, 1, 26), (26, .getfield 10, 3, 29), (29, .invokevirtual 209, 3, 32), (32, .aload_n 0, 1, 33), (33, .getfield 10, 3, 36), (36, .iload_n 1, 1, 37), (37, .invokevirtual 227, 3, 40), (40, .ireturn, 1, 41)]
theorem dtX6_binds : ∀ q ∈ tbX6_binds, decode cX6_binds q.1 = .ok (q.2.1, q.2.2.1) ∧ q.1 + q.2.2.1 = q.2.2.2 := by decide +kernel
theorem miX6_binds : MI yX6_binds cX6_binds 2 (some .int) 1 := ⟨tw_mem (List.mem_of_getElem? (i := 1017) (by decide +kernel)) rfl, by decide, by decide +kernel, tw_mem (List.mem_of_getElem? (i := 14) (by decide +kernel)) rfl⟩
abbrev rmX6_binds : Room := { frames := 5, cells := 0, slots := 0, locals := 123 }
def wX6_binds : List Cond := [.fieldLink "ZoneCapacity" 10 "ZoneCapacity" "now" "LZoneCapacity$Auction;", .fieldLink "ZoneCapacity" 57 "ZoneCapacity$Auction" "market" "LZoneCapacity$Market;", .fieldLink "ZoneCapacity" 71 "ZoneCapacity$Market" "zones" "LZoneCapacity$Zones;", .methodLink "ZoneCapacity" 80 yX5_has, .instanceMethod yX5_has, .selects "ZoneCapacity$Zones" yX5_has yX5_has, .methodLink "ZoneCapacity" 209 yX0_clear, .instanceMethod yX0_clear, .selects "ZoneCapacity$Auction" yX0_clear yX0_clear, .methodLink "ZoneCapacity" 227 yX0_boundOf, .instanceMethod yX0_boundOf, .selects "ZoneCapacity$Auction" yX0_boundOf yX0_boundOf]
theorem iX6_binds : ∀ w ∈ wX6_binds, w ∈ TW := tw_of (ids := [243, 161, 151, 267, 268, 269, 332, 333, 334, 1018, 1019, 1020]) (by decide +kernel)
def f6_binds (mm : Mem) (a1 : Int32) : Option (Int32 × Mem) := bd (f5_has mm 17 a1) (fun r1 => if r1 = 0 then some ((-1 : Int32), mm) else if a1 = 0 then some ((0 : Int32), mm) else bd (f0_clear mm 15) (fun r2 => bd (f0_boundOf r2 15 a1) (fun r3 => some (r3, r2))))
theorem ctX6_binds {l : Launch} {C : Cfg} (hj : Dj C) {mm : Mem} {a1 : Int32} {x : (Int32 × Mem)} (hf : f6_binds mm a1 = some x) : Ct l C yX6_binds cX6_binds 2 (some .int) 5 123 [.ref 14, .int a1] mm (some (.int x.1)) x.2 := by
  refine Ct.of (tb := tbX6_binds) hj miX6_binds.2.1 miX6_binds.1 dtX6_binds (Nat.le_of_ble_eq_true rfl) ?_
  intro E B hQ hr X
  unfold f6_binds at hf
  show G E 2 0 [(0, .ref 14), (1, .int a1)] [] mm
  refine z_aload_n B 0 rfl 0 0 rfl rfl ?_
  refine z_getr 6 0 14 B 1 rfl ob_14 rfl (iX6_binds _ (List.mem_of_getElem? (i := 0) rfl)) rfl ?_
  refine z_getr 0 0 15 B 2 rfl ob_15 rfl (iX6_binds _ (List.mem_of_getElem? (i := 1) rfl)) rfl ?_
  refine z_getr 1 0 16 B 3 rfl ob_16 rfl (iX6_binds _ (List.mem_of_getElem? (i := 2) rfl)) rfl ?_
  refine z_iload_n B 4 rfl 1 1 rfl rfl ?_
  obtain ⟨r1, ec, hf⟩ := bd_e hf
  refine z_callV 17 5 [.int a1] [] [.int r1] X B 5 rfl (by decide) ob_17 rfl rfl miX5_has ⟨(iX6_binds _ (List.mem_of_getElem? (i := 3) rfl)), (iX6_binds _ (List.mem_of_getElem? (i := 4) rfl)), (iX6_binds _ (List.mem_of_getElem? (i := 5) rfl))⟩ (ctX5_has hj ob_17 ec) ⟨Nat.le_of_ble_eq_true rfl, Nat.le_of_ble_eq_true rfl⟩ rfl rfl (Nat.le_of_ble_eq_true rfl) rfl ?_
  by_cases hc : r1 = 0
  · replace hf := (if_pos hc).symm.trans hf
    refine z_if_ne_f B 6 rfl 19 (by decide) hc ?_
    refine z_iconst (-1) B 7 rfl (by decide) ?_
    cases hf
    exact z_iret B 8 rfl rfl hQ hr
  · replace hf := (if_neg hc).symm.trans hf
    refine z_if_ne_t B 6 rfl 19 (by decide) hc ?_
    refine z_iload_n B 9 rfl 1 1 rfl rfl ?_
    by_cases hc : a1 = 0
    · replace hf := (if_pos hc).symm.trans hf
      refine z_if_ne_f B 10 rfl 25 (by decide) hc ?_
      refine z_iconst 0 B 11 rfl (by decide) ?_
      cases hf
      exact z_iret B 12 rfl rfl hQ hr
    · replace hf := (if_neg hc).symm.trans hf
      refine z_if_ne_t B 10 rfl 25 (by decide) hc ?_
      refine z_aload_n B 13 rfl 0 0 rfl rfl ?_
      refine z_getr 6 0 14 B 14 rfl ob_14 rfl (iX6_binds _ (List.mem_of_getElem? (i := 0) rfl)) rfl ?_
      obtain ⟨r2, ec, hf⟩ := bd_e hf
      refine z_callV 15 0 [] [] [] X B 15 rfl (by decide) ob_15 rfl rfl miX0_clear ⟨(iX6_binds _ (List.mem_of_getElem? (i := 6) rfl)), (iX6_binds _ (List.mem_of_getElem? (i := 7) rfl)), (iX6_binds _ (List.mem_of_getElem? (i := 8) rfl))⟩ (ctX0_clear hj ob_15 ec) ⟨Nat.le_of_ble_eq_true rfl, Nat.le_of_ble_eq_true rfl⟩ rfl rfl (Nat.le_of_ble_eq_true rfl) rfl ?_
      refine z_aload_n B 16 rfl 0 0 rfl rfl ?_
      refine z_getr 6 0 14 B 17 rfl ob_14 rfl (iX6_binds _ (List.mem_of_getElem? (i := 0) rfl)) rfl ?_
      refine z_iload_n B 18 rfl 1 1 rfl rfl ?_
      obtain ⟨r3, ec, hf⟩ := bd_e hf
      refine z_callV 15 0 [.int a1] [] [.int r3] X B 19 rfl (by decide) ob_15 rfl rfl miX0_boundOf ⟨(iX6_binds _ (List.mem_of_getElem? (i := 9) rfl)), (iX6_binds _ (List.mem_of_getElem? (i := 10) rfl)), (iX6_binds _ (List.mem_of_getElem? (i := 11) rfl))⟩ (ctX0_boundOf hj ob_15 ec) ⟨Nat.le_of_ble_eq_true rfl, Nat.le_of_ble_eq_true rfl⟩ rfl rfl (Nat.le_of_ble_eq_true rfl) rfl ?_
      cases hf
      exact z_iret B 20 rfl rfl hQ hr
/-! ZoneCapacity.surplus()J -/
def tbX6_surplus : Tb := [(0, .aload_n 0, 1, 1), (1, .getfield 10, 3, 4), (4, .invokevirtual 209, 3, 7), (7, .aload_n 0, 1, 8), (8, .getfield 10, 3, 11), (11, .invokevirtual 230, 3, 14), (14, .lreturn, 1, 15)]
theorem dtX6_surplus : ∀ q ∈ tbX6_surplus, decode cX6_surplus q.1 = .ok (q.2.1, q.2.2.1) ∧ q.1 + q.2.2.1 = q.2.2.2 := by decide +kernel
theorem miX6_surplus : MI yX6_surplus cX6_surplus 1 (some .long) 0 := ⟨tw_mem (List.mem_of_getElem? (i := 425) (by decide +kernel)) rfl, by decide, by decide +kernel, tw_mem (List.mem_of_getElem? (i := 14) (by decide +kernel)) rfl⟩
abbrev rmX6_surplus : Room := { frames := 5, cells := 0, slots := 0, locals := 123 }
def wX6_surplus : List Cond := [.fieldLink "ZoneCapacity" 10 "ZoneCapacity" "now" "LZoneCapacity$Auction;", .methodLink "ZoneCapacity" 209 yX0_clear, .instanceMethod yX0_clear, .selects "ZoneCapacity$Auction" yX0_clear yX0_clear, .methodLink "ZoneCapacity" 230 yX0_surplusOfAll, .instanceMethod yX0_surplusOfAll, .selects "ZoneCapacity$Auction" yX0_surplusOfAll yX0_surplusOfAll]
theorem iX6_surplus : ∀ w ∈ wX6_surplus, w ∈ TW := tw_of (ids := [243, 332, 333, 334, 426, 427, 428]) (by decide +kernel)
def f6_surplus (mm : Mem) : Option (Int64 × Mem) := bd (f0_clear mm 15) (fun r1 => bd (f0_surplusOfAll r1 15) (fun r2 => some (r2, r1)))
theorem ctX6_surplus {l : Launch} {C : Cfg} (hj : Dj C) {mm : Mem} {x : (Int64 × Mem)} (hf : f6_surplus mm = some x) : Ct l C yX6_surplus cX6_surplus 1 (some .long) 5 123 [.ref 14] mm (some (.long x.1)) x.2 := by
  refine Ct.of (tb := tbX6_surplus) hj miX6_surplus.2.1 miX6_surplus.1 dtX6_surplus (Nat.le_of_ble_eq_true rfl) ?_
  intro E B hQ hr X
  unfold f6_surplus at hf
  show G E 1 0 [(0, .ref 14)] [] mm
  refine z_aload_n B 0 rfl 0 0 rfl rfl ?_
  refine z_getr 6 0 14 B 1 rfl ob_14 rfl (iX6_surplus _ (List.mem_of_getElem? (i := 0) rfl)) rfl ?_
  obtain ⟨r1, ec, hf⟩ := bd_e hf
  refine z_callV 15 0 [] [] [] X B 2 rfl (by decide) ob_15 rfl rfl miX0_clear ⟨(iX6_surplus _ (List.mem_of_getElem? (i := 1) rfl)), (iX6_surplus _ (List.mem_of_getElem? (i := 2) rfl)), (iX6_surplus _ (List.mem_of_getElem? (i := 3) rfl))⟩ (ctX0_clear hj ob_15 ec) ⟨Nat.le_of_ble_eq_true rfl, Nat.le_of_ble_eq_true rfl⟩ rfl rfl (Nat.le_of_ble_eq_true rfl) rfl ?_
  refine z_aload_n B 3 rfl 0 0 rfl rfl ?_
  refine z_getr 6 0 14 B 4 rfl ob_14 rfl (iX6_surplus _ (List.mem_of_getElem? (i := 0) rfl)) rfl ?_
  obtain ⟨r2, ec, hf⟩ := bd_e hf
  refine z_callV 15 0 [] [] [.long r2] X B 5 rfl (by decide) ob_15 rfl rfl miX0_surplusOfAll ⟨(iX6_surplus _ (List.mem_of_getElem? (i := 4) rfl)), (iX6_surplus _ (List.mem_of_getElem? (i := 5) rfl)), (iX6_surplus _ (List.mem_of_getElem? (i := 6) rfl))⟩ (ctX0_surplusOfAll hj ob_15 ec) ⟨Nat.le_of_ble_eq_true rfl, Nat.le_of_ble_eq_true rfl⟩ rfl rfl (Nat.le_of_ble_eq_true rfl) rfl ?_
  cases hf
  exact z_lret B 6 rfl hQ hr
/-! ZoneCapacity.rent(I)J -/
def tbX6_rent : Tb := [(0, .aload_n 0, 1, 1), (1, .getfield 10, 3, 4), (4, .getfield 57, 3, 7), (7, .getfield 71, 3, 10), (10, .iload_n 1, 1, 11), (11, .invokevirtual 80, 3, 14), (14, .ifCond .ne 7, 3, 17), (17, .ldc2_w 234, 3, 20), (20, .lreturn, 1, 21), (21, .iload_n 1, 1, 22), (22, .ifCond .ne 5, 3, 25), (25, .lconst 0, 1, 26), (26, .lreturn, 1, 27), (27, .aload_n 0, 1, 28), (28, .getfield 10, 3, 31), (31, .invokevirtual 209, 3, 34), (34, .aload_n 0, 1, 35), (35, .getfield 10, 3, 38), (38, .iload_n 1, 1, 39), (39, .invokevirtual 236, 3, 42), (42, .lreturn, 1, 43)]
theorem dtX6_rent : ∀ q ∈ tbX6_rent, decode cX6_rent q.1 = .ok (q.2.1, q.2.2.1) ∧ q.1 + q.2.2.1 = q.2.2.2 := by decide +kernel
theorem miX6_rent : MI yX6_rent cX6_rent 2 (some .long) 1 := ⟨tw_mem (List.mem_of_getElem? (i := 1009) (by decide +kernel)) rfl, by decide, by decide +kernel, tw_mem (List.mem_of_getElem? (i := 14) (by decide +kernel)) rfl⟩
abbrev rmX6_rent : Room := { frames := 5, cells := 0, slots := 0, locals := 123 }
def wX6_rent : List Cond := [.fieldLink "ZoneCapacity" 10 "ZoneCapacity" "now" "LZoneCapacity$Auction;", .fieldLink "ZoneCapacity" 57 "ZoneCapacity$Auction" "market" "LZoneCapacity$Market;", .fieldLink "ZoneCapacity" 71 "ZoneCapacity$Market" "zones" "LZoneCapacity$Zones;", .methodLink "ZoneCapacity" 80 yX5_has, .instanceMethod yX5_has, .selects "ZoneCapacity$Zones" yX5_has yX5_has, .methodLink "ZoneCapacity" 209 yX0_clear, .instanceMethod yX0_clear, .selects "ZoneCapacity$Auction" yX0_clear yX0_clear, .methodLink "ZoneCapacity" 236 yX0_rentOf, .instanceMethod yX0_rentOf, .selects "ZoneCapacity$Auction" yX0_rentOf yX0_rentOf, .constantLong "ZoneCapacity" 234 (-1000000000000000)]
theorem iX6_rent : ∀ w ∈ wX6_rent, w ∈ TW := tw_of (ids := [243, 161, 151, 267, 268, 269, 332, 333, 334, 1010, 1011, 1012, 1005]) (by decide +kernel)
def f6_rent (mm : Mem) (a1 : Int32) : Option (Int64 × Mem) := bd (f5_has mm 17 a1) (fun r1 => if r1 = 0 then some ((-1000000000000000 : Int64), mm) else if a1 = 0 then some ((0 : Int64), mm) else bd (f0_clear mm 15) (fun r2 => bd (f0_rentOf r2 15 a1) (fun r3 => some (r3, r2))))
theorem ctX6_rent {l : Launch} {C : Cfg} (hj : Dj C) {mm : Mem} {a1 : Int32} {x : (Int64 × Mem)} (hf : f6_rent mm a1 = some x) : Ct l C yX6_rent cX6_rent 2 (some .long) 5 123 [.ref 14, .int a1] mm (some (.long x.1)) x.2 := by
  refine Ct.of (tb := tbX6_rent) hj miX6_rent.2.1 miX6_rent.1 dtX6_rent (Nat.le_of_ble_eq_true rfl) ?_
  intro E B hQ hr X
  unfold f6_rent at hf
  show G E 2 0 [(0, .ref 14), (1, .int a1)] [] mm
  refine z_aload_n B 0 rfl 0 0 rfl rfl ?_
  refine z_getr 6 0 14 B 1 rfl ob_14 rfl (iX6_rent _ (List.mem_of_getElem? (i := 0) rfl)) rfl ?_
  refine z_getr 0 0 15 B 2 rfl ob_15 rfl (iX6_rent _ (List.mem_of_getElem? (i := 1) rfl)) rfl ?_
  refine z_getr 1 0 16 B 3 rfl ob_16 rfl (iX6_rent _ (List.mem_of_getElem? (i := 2) rfl)) rfl ?_
  refine z_iload_n B 4 rfl 1 1 rfl rfl ?_
  obtain ⟨r1, ec, hf⟩ := bd_e hf
  refine z_callV 17 5 [.int a1] [] [.int r1] X B 5 rfl (by decide) ob_17 rfl rfl miX5_has ⟨(iX6_rent _ (List.mem_of_getElem? (i := 3) rfl)), (iX6_rent _ (List.mem_of_getElem? (i := 4) rfl)), (iX6_rent _ (List.mem_of_getElem? (i := 5) rfl))⟩ (ctX5_has hj ob_17 ec) ⟨Nat.le_of_ble_eq_true rfl, Nat.le_of_ble_eq_true rfl⟩ rfl rfl (Nat.le_of_ble_eq_true rfl) rfl ?_
  by_cases hc : r1 = 0
  · replace hf := (if_pos hc).symm.trans hf
    refine z_if_ne_f B 6 rfl 21 (by decide) hc ?_
    refine z_ldc2 (-1000000000000000) B 7 rfl (iX6_rent _ (List.mem_of_getElem? (i := 12) rfl)) ?_
    cases hf
    exact z_lret B 8 rfl hQ hr
  · replace hf := (if_neg hc).symm.trans hf
    refine z_if_ne_t B 6 rfl 21 (by decide) hc ?_
    refine z_iload_n B 9 rfl 1 1 rfl rfl ?_
    by_cases hc : a1 = 0
    · replace hf := (if_pos hc).symm.trans hf
      refine z_if_ne_f B 10 rfl 27 (by decide) hc ?_
      refine z_lconst 0 B 11 rfl (by decide) ?_
      cases hf
      exact z_lret B 12 rfl hQ hr
    · replace hf := (if_neg hc).symm.trans hf
      refine z_if_ne_t B 10 rfl 27 (by decide) hc ?_
      refine z_aload_n B 13 rfl 0 0 rfl rfl ?_
      refine z_getr 6 0 14 B 14 rfl ob_14 rfl (iX6_rent _ (List.mem_of_getElem? (i := 0) rfl)) rfl ?_
      obtain ⟨r2, ec, hf⟩ := bd_e hf
      refine z_callV 15 0 [] [] [] X B 15 rfl (by decide) ob_15 rfl rfl miX0_clear ⟨(iX6_rent _ (List.mem_of_getElem? (i := 6) rfl)), (iX6_rent _ (List.mem_of_getElem? (i := 7) rfl)), (iX6_rent _ (List.mem_of_getElem? (i := 8) rfl))⟩ (ctX0_clear hj ob_15 ec) ⟨Nat.le_of_ble_eq_true rfl, Nat.le_of_ble_eq_true rfl⟩ rfl rfl (Nat.le_of_ble_eq_true rfl) rfl ?_
      refine z_aload_n B 16 rfl 0 0 rfl rfl ?_
      refine z_getr 6 0 14 B 17 rfl ob_14 rfl (iX6_rent _ (List.mem_of_getElem? (i := 0) rfl)) rfl ?_
      refine z_iload_n B 18 rfl 1 1 rfl rfl ?_
      obtain ⟨r3, ec, hf⟩ := bd_e hf
      refine z_callV 15 0 [.int a1] [] [.long r3] X B 19 rfl (by decide) ob_15 rfl rfl miX0_rentOf ⟨(iX6_rent _ (List.mem_of_getElem? (i := 9) rfl)), (iX6_rent _ (List.mem_of_getElem? (i := 10) rfl)), (iX6_rent _ (List.mem_of_getElem? (i := 11) rfl))⟩ (ctX0_rentOf hj ob_15 ec) ⟨Nat.le_of_ble_eq_true rfl, Nat.le_of_ble_eq_true rfl⟩ rfl rfl (Nat.le_of_ble_eq_true rfl) rfl ?_
      cases hf
      exact z_lret B 20 rfl hQ hr
/-! ZoneCapacity.paid(I)J -/
def tbX6_paid : Tb := [(0, .aload_n 0, 1, 1), (1, .getfield 10, 3, 4), (4, .getfield 57, 3, 7), (7, .getfield 106, 3, 10), (10, .iload_n 1, 1, 11), (11, .invokevirtual 116, 3, 14), (14, .ifCond .eq 19, 3, 17), (17, .aload_n 0, 1, 18), (18, .getfield 10, 3, 21), (21, .invokevirtual 209, 3, 24), (24, .aload_n 0, 1, 25), (25, .getfield 10, 3, 28), (28, .iload_n 1, 1, 29), (29, .invokevirtual 240, 3, 32), (32, .lreturn, 1, 33), (33, .iload_n 1, 1, 34), (34, .bipush 100, 2, 36), (36, .bipush 105, 2, 38), (38, .invokestatic 50, 3, 41), (41, .ifCond .eq 22, 3, 44), (44, .aload_n 0, 1, 45), (45, .getfield 10, 3, 48), (48, .invokevirtual 209, 3, 51), (51, .aload_n 0, 1, 52), (52, .getfield 10, 3, 55), (55, .iload_n 1, 1, 56), (56, .bipush 100, 2, 58), (58, .isub, 1, 59), (59, .invokevirtual 243, 3, 62), (62, .lreturn, 1, 63), (63, .ldc2_w 234, 3, 66), (66, .lreturn, 1, 67)]
theorem dtX6_paid : ∀ q ∈ tbX6_paid, decode cX6_paid q.1 = .ok (q.2.1, q.2.2.1) ∧ q.1 + q.2.2.1 = q.2.2.2 := by decide +kernel
theorem miX6_paid : MI yX6_paid cX6_paid 2 (some .long) 1 := ⟨tw_mem (List.mem_of_getElem? (i := 1025) (by decide +kernel)) rfl, by decide, by decide +kernel, tw_mem (List.mem_of_getElem? (i := 14) (by decide +kernel)) rfl⟩
abbrev rmX6_paid : Room := { frames := 5, cells := 0, slots := 0, locals := 123 }
def wX6_paid : List Cond := [.fieldLink "ZoneCapacity" 10 "ZoneCapacity" "now" "LZoneCapacity$Auction;", .fieldLink "ZoneCapacity" 57 "ZoneCapacity$Auction" "market" "LZoneCapacity$Market;", .fieldLink "ZoneCapacity" 106 "ZoneCapacity$Market" "offers" "LZoneCapacity$Offers;", .methodLink "ZoneCapacity" 116 yX2_has, .instanceMethod yX2_has, .selects "ZoneCapacity$Offers" yX2_has yX2_has, .methodLink "ZoneCapacity" 50 yX6_within, .static yX6_within, .constantLong "ZoneCapacity" 234 (-1000000000000000), .methodLink "ZoneCapacity" 209 yX0_clear, .instanceMethod yX0_clear, .selects "ZoneCapacity$Auction" yX0_clear yX0_clear, .methodLink "ZoneCapacity" 243 yX0_paidToOwner, .instanceMethod yX0_paidToOwner, .selects "ZoneCapacity$Auction" yX0_paidToOwner yX0_paidToOwner, .methodLink "ZoneCapacity" 240 yX0_paidTo, .instanceMethod yX0_paidTo, .selects "ZoneCapacity$Auction" yX0_paidTo yX0_paidTo]
theorem iX6_paid : ∀ w ∈ wX6_paid, w ∈ TW := tw_of (ids := [243, 161, 154, 297, 298, 299, 279, 280, 1005, 332, 333, 334, 1031, 1032, 1033, 1026, 1027, 1028]) (by decide +kernel)
def f6_paid (mm : Mem) (a1 : Int32) : Option (Int64 × Mem) := bd (f2_has mm 24 a1) (fun r1 => if r1 = 0 then bd (f6_within mm a1 (100 : Int32) (105 : Int32)) (fun r2 => if r2 = 0 then some ((-1000000000000000 : Int64), mm) else bd (f0_clear mm 15) (fun r3 => bd (f0_paidToOwner r3 15 (a1 - (100 : Int32))) (fun r4 => some (r4, r3)))) else bd (f0_clear mm 15) (fun r5 => bd (f0_paidTo r5 15 a1) (fun r6 => some (r6, r5))))
theorem ctX6_paid {l : Launch} {C : Cfg} (hj : Dj C) {mm : Mem} {a1 : Int32} {x : (Int64 × Mem)} (hf : f6_paid mm a1 = some x) : Ct l C yX6_paid cX6_paid 2 (some .long) 5 123 [.ref 14, .int a1] mm (some (.long x.1)) x.2 := by
  refine Ct.of (tb := tbX6_paid) hj miX6_paid.2.1 miX6_paid.1 dtX6_paid (Nat.le_of_ble_eq_true rfl) ?_
  intro E B hQ hr X
  unfold f6_paid at hf
  show G E 2 0 [(0, .ref 14), (1, .int a1)] [] mm
  refine z_aload_n B 0 rfl 0 0 rfl rfl ?_
  refine z_getr 6 0 14 B 1 rfl ob_14 rfl (iX6_paid _ (List.mem_of_getElem? (i := 0) rfl)) rfl ?_
  refine z_getr 0 0 15 B 2 rfl ob_15 rfl (iX6_paid _ (List.mem_of_getElem? (i := 1) rfl)) rfl ?_
  refine z_getr 1 1 16 B 3 rfl ob_16 rfl (iX6_paid _ (List.mem_of_getElem? (i := 2) rfl)) rfl ?_
  refine z_iload_n B 4 rfl 1 1 rfl rfl ?_
  obtain ⟨r1, ec, hf⟩ := bd_e hf
  refine z_callV 24 2 [.int a1] [] [.int r1] X B 5 rfl (by decide) ob_24 rfl rfl miX2_has ⟨(iX6_paid _ (List.mem_of_getElem? (i := 3) rfl)), (iX6_paid _ (List.mem_of_getElem? (i := 4) rfl)), (iX6_paid _ (List.mem_of_getElem? (i := 5) rfl))⟩ (ctX2_has hj ob_24 ec) ⟨Nat.le_of_ble_eq_true rfl, Nat.le_of_ble_eq_true rfl⟩ rfl rfl (Nat.le_of_ble_eq_true rfl) rfl ?_
  by_cases hc : r1 = 0
  · replace hf := (if_pos hc).symm.trans hf
    refine z_if_eq_t B 6 rfl 33 (by decide) hc ?_
    refine z_iload_n B 15 rfl 1 1 rfl rfl ?_
    refine z_bipush 100 B 16 rfl (by decide) ?_
    refine z_bipush 105 B 17 rfl (by decide) ?_
    obtain ⟨r2, ec, hf⟩ := bd_e hf
    refine z_callS [.int a1, .int (100 : Int32), .int (105 : Int32)] [] [.int r2] X B 18 rfl miX6_within ⟨(iX6_paid _ (List.mem_of_getElem? (i := 6) rfl)), (iX6_paid _ (List.mem_of_getElem? (i := 7) rfl))⟩ (ctX6_within hj ec) ⟨Nat.le_of_ble_eq_true rfl, Nat.le_of_ble_eq_true rfl⟩ rfl rfl (Nat.le_of_ble_eq_true rfl) rfl ?_
    by_cases hc : r2 = 0
    · replace hf := (if_pos hc).symm.trans hf
      refine z_if_eq_t B 19 rfl 63 (by decide) hc ?_
      refine z_ldc2 (-1000000000000000) B 30 rfl (iX6_paid _ (List.mem_of_getElem? (i := 8) rfl)) ?_
      cases hf
      exact z_lret B 31 rfl hQ hr
    · replace hf := (if_neg hc).symm.trans hf
      refine z_if_eq_f B 19 rfl 63 (by decide) hc ?_
      refine z_aload_n B 20 rfl 0 0 rfl rfl ?_
      refine z_getr 6 0 14 B 21 rfl ob_14 rfl (iX6_paid _ (List.mem_of_getElem? (i := 0) rfl)) rfl ?_
      obtain ⟨r3, ec, hf⟩ := bd_e hf
      refine z_callV 15 0 [] [] [] X B 22 rfl (by decide) ob_15 rfl rfl miX0_clear ⟨(iX6_paid _ (List.mem_of_getElem? (i := 9) rfl)), (iX6_paid _ (List.mem_of_getElem? (i := 10) rfl)), (iX6_paid _ (List.mem_of_getElem? (i := 11) rfl))⟩ (ctX0_clear hj ob_15 ec) ⟨Nat.le_of_ble_eq_true rfl, Nat.le_of_ble_eq_true rfl⟩ rfl rfl (Nat.le_of_ble_eq_true rfl) rfl ?_
      refine z_aload_n B 23 rfl 0 0 rfl rfl ?_
      refine z_getr 6 0 14 B 24 rfl ob_14 rfl (iX6_paid _ (List.mem_of_getElem? (i := 0) rfl)) rfl ?_
      refine z_iload_n B 25 rfl 1 1 rfl rfl ?_
      refine z_bipush 100 B 26 rfl (by decide) ?_
      refine z_isub B 27 rfl ?_
      obtain ⟨r4, ec, hf⟩ := bd_e hf
      refine z_callV 15 0 [.int (a1 - (100 : Int32))] [] [.long r4] X B 28 rfl (by decide) ob_15 rfl rfl miX0_paidToOwner ⟨(iX6_paid _ (List.mem_of_getElem? (i := 12) rfl)), (iX6_paid _ (List.mem_of_getElem? (i := 13) rfl)), (iX6_paid _ (List.mem_of_getElem? (i := 14) rfl))⟩ (ctX0_paidToOwner hj ob_15 ec) ⟨Nat.le_of_ble_eq_true rfl, Nat.le_of_ble_eq_true rfl⟩ rfl rfl (Nat.le_of_ble_eq_true rfl) rfl ?_
      cases hf
      exact z_lret B 29 rfl hQ hr
  · replace hf := (if_neg hc).symm.trans hf
    refine z_if_eq_f B 6 rfl 33 (by decide) hc ?_
    refine z_aload_n B 7 rfl 0 0 rfl rfl ?_
    refine z_getr 6 0 14 B 8 rfl ob_14 rfl (iX6_paid _ (List.mem_of_getElem? (i := 0) rfl)) rfl ?_
    obtain ⟨r5, ec, hf⟩ := bd_e hf
    refine z_callV 15 0 [] [] [] X B 9 rfl (by decide) ob_15 rfl rfl miX0_clear ⟨(iX6_paid _ (List.mem_of_getElem? (i := 9) rfl)), (iX6_paid _ (List.mem_of_getElem? (i := 10) rfl)), (iX6_paid _ (List.mem_of_getElem? (i := 11) rfl))⟩ (ctX0_clear hj ob_15 ec) ⟨Nat.le_of_ble_eq_true rfl, Nat.le_of_ble_eq_true rfl⟩ rfl rfl (Nat.le_of_ble_eq_true rfl) rfl ?_
    refine z_aload_n B 10 rfl 0 0 rfl rfl ?_
    refine z_getr 6 0 14 B 11 rfl ob_14 rfl (iX6_paid _ (List.mem_of_getElem? (i := 0) rfl)) rfl ?_
    refine z_iload_n B 12 rfl 1 1 rfl rfl ?_
    obtain ⟨r6, ec, hf⟩ := bd_e hf
    refine z_callV 15 0 [.int a1] [] [.long r6] X B 13 rfl (by decide) ob_15 rfl rfl miX0_paidTo ⟨(iX6_paid _ (List.mem_of_getElem? (i := 15) rfl)), (iX6_paid _ (List.mem_of_getElem? (i := 16) rfl)), (iX6_paid _ (List.mem_of_getElem? (i := 17) rfl))⟩ (ctX0_paidTo hj ob_15 ec) ⟨Nat.le_of_ble_eq_true rfl, Nat.le_of_ble_eq_true rfl⟩ rfl rfl (Nat.le_of_ble_eq_true rfl) rfl ?_
    cases hf
    exact z_lret B 14 rfl hQ hr
/-! ZoneCapacity.charged(I)J -/
def tbX6_charged : Tb := [(0, .aload_n 0, 1, 1), (1, .getfield 10, 3, 4), (4, .getfield 57, 3, 7), (7, .getfield 71, 3, 10), (10, .iload_n 1, 1, 11), (11, .invokevirtual 80, 3, 14), (14, .ifCond .ne 7, 3, 17), (17, .ldc2_w 234, 3, 20), (20, .lreturn, 1, 21), (21, .aload_n 0, 1, 22), (22, .getfield 10, 3, 25), (25, .invokevirtual 209, 3, 28), (28, .aload_n 0, 1, 29), (29, .getfield 10, 3, 32), (32, .getfield 212, 3, 35), (35, .iload_n 1, 1, 36), (36, .invokestatic 92, 3, 39), (39, .i2l, 1, 40), (40, .aload_n 0, 1, 41), (41, .getfield 10, 3, 44), (44, .getfield 218, 3, 47), (47, .iload_n 1, 1, 48), (48, .invokestatic 92, 3, 51), (51, .i2l, 1, 52), (52, .lmul, 1, 53), (53, .lreturn, 1, 54)]
theorem dtX6_charged : ∀ q ∈ tbX6_charged, decode cX6_charged q.1 = .ok (q.2.1, q.2.2.1) ∧ q.1 + q.2.2.1 = q.2.2.2 := by decide +kernel
theorem miX6_charged : MI yX6_charged cX6_charged 2 (some .long) 1 := ⟨tw_mem (List.mem_of_getElem? (i := 1004) (by decide +kernel)) rfl, by decide, by decide +kernel, tw_mem (List.mem_of_getElem? (i := 14) (by decide +kernel)) rfl⟩
abbrev rmX6_charged : Room := { frames := 5, cells := 0, slots := 0, locals := 123 }
def wX6_charged : List Cond := [.fieldLink "ZoneCapacity" 10 "ZoneCapacity" "now" "LZoneCapacity$Auction;", .fieldLink "ZoneCapacity" 57 "ZoneCapacity$Auction" "market" "LZoneCapacity$Market;", .fieldLink "ZoneCapacity" 71 "ZoneCapacity$Market" "zones" "LZoneCapacity$Zones;", .methodLink "ZoneCapacity" 80 yX5_has, .instanceMethod yX5_has, .selects "ZoneCapacity$Zones" yX5_has yX5_has, .methodLink "ZoneCapacity" 209 yX0_clear, .instanceMethod yX0_clear, .selects "ZoneCapacity$Auction" yX0_clear yX0_clear, .fieldLink "ZoneCapacity" 212 "ZoneCapacity$Auction" "prices" "[I", .methodLink "ZoneCapacity" 92 yX6_at, .static yX6_at, .fieldLink "ZoneCapacity" 218 "ZoneCapacity$Auction" "servedUnits" "[I", .constantLong "ZoneCapacity" 234 (-1000000000000000)]
theorem iX6_charged : ∀ w ∈ wX6_charged, w ∈ TW := tw_of (ids := [243, 161, 151, 267, 268, 269, 332, 333, 334, 163, 271, 272, 167, 1005]) (by decide +kernel)
def f6_charged (mm : Mem) (a1 : Int32) : Option (Int64 × Mem) := bd (f5_has mm 17 a1) (fun r1 => if r1 = 0 then some ((-1000000000000000 : Int64), mm) else bd (f0_clear mm 15) (fun r2 => bd (f6_at r2 35 a1) (fun r3 => bd (f6_at r2 37 a1) (fun r4 => some (r3.toInt64 * r4.toInt64, r2)))))
theorem ctX6_charged {l : Launch} {C : Cfg} (hj : Dj C) {mm : Mem} {a1 : Int32} {x : (Int64 × Mem)} (hf : f6_charged mm a1 = some x) : Ct l C yX6_charged cX6_charged 2 (some .long) 5 123 [.ref 14, .int a1] mm (some (.long x.1)) x.2 := by
  refine Ct.of (tb := tbX6_charged) hj miX6_charged.2.1 miX6_charged.1 dtX6_charged (Nat.le_of_ble_eq_true rfl) ?_
  intro E B hQ hr X
  unfold f6_charged at hf
  show G E 2 0 [(0, .ref 14), (1, .int a1)] [] mm
  refine z_aload_n B 0 rfl 0 0 rfl rfl ?_
  refine z_getr 6 0 14 B 1 rfl ob_14 rfl (iX6_charged _ (List.mem_of_getElem? (i := 0) rfl)) rfl ?_
  refine z_getr 0 0 15 B 2 rfl ob_15 rfl (iX6_charged _ (List.mem_of_getElem? (i := 1) rfl)) rfl ?_
  refine z_getr 1 0 16 B 3 rfl ob_16 rfl (iX6_charged _ (List.mem_of_getElem? (i := 2) rfl)) rfl ?_
  refine z_iload_n B 4 rfl 1 1 rfl rfl ?_
  obtain ⟨r1, ec, hf⟩ := bd_e hf
  refine z_callV 17 5 [.int a1] [] [.int r1] X B 5 rfl (by decide) ob_17 rfl rfl miX5_has ⟨(iX6_charged _ (List.mem_of_getElem? (i := 3) rfl)), (iX6_charged _ (List.mem_of_getElem? (i := 4) rfl)), (iX6_charged _ (List.mem_of_getElem? (i := 5) rfl))⟩ (ctX5_has hj ob_17 ec) ⟨Nat.le_of_ble_eq_true rfl, Nat.le_of_ble_eq_true rfl⟩ rfl rfl (Nat.le_of_ble_eq_true rfl) rfl ?_
  by_cases hc : r1 = 0
  · replace hf := (if_pos hc).symm.trans hf
    refine z_if_ne_f B 6 rfl 21 (by decide) hc ?_
    refine z_ldc2 (-1000000000000000) B 7 rfl (iX6_charged _ (List.mem_of_getElem? (i := 13) rfl)) ?_
    cases hf
    exact z_lret B 8 rfl hQ hr
  · replace hf := (if_neg hc).symm.trans hf
    refine z_if_ne_t B 6 rfl 21 (by decide) hc ?_
    refine z_aload_n B 9 rfl 0 0 rfl rfl ?_
    refine z_getr 6 0 14 B 10 rfl ob_14 rfl (iX6_charged _ (List.mem_of_getElem? (i := 0) rfl)) rfl ?_
    obtain ⟨r2, ec, hf⟩ := bd_e hf
    refine z_callV 15 0 [] [] [] X B 11 rfl (by decide) ob_15 rfl rfl miX0_clear ⟨(iX6_charged _ (List.mem_of_getElem? (i := 6) rfl)), (iX6_charged _ (List.mem_of_getElem? (i := 7) rfl)), (iX6_charged _ (List.mem_of_getElem? (i := 8) rfl))⟩ (ctX0_clear hj ob_15 ec) ⟨Nat.le_of_ble_eq_true rfl, Nat.le_of_ble_eq_true rfl⟩ rfl rfl (Nat.le_of_ble_eq_true rfl) rfl ?_
    refine z_aload_n B 12 rfl 0 0 rfl rfl ?_
    refine z_getr 6 0 14 B 13 rfl ob_14 rfl (iX6_charged _ (List.mem_of_getElem? (i := 0) rfl)) rfl ?_
    refine z_getr 0 1 15 B 14 rfl ob_15 rfl (iX6_charged _ (List.mem_of_getElem? (i := 9) rfl)) rfl ?_
    refine z_iload_n B 15 rfl 1 1 rfl rfl ?_
    obtain ⟨r3, ec, hf⟩ := bd_e hf
    refine z_callS [.ref 35, .int a1] [] [.int r3] X B 16 rfl miX6_at ⟨(iX6_charged _ (List.mem_of_getElem? (i := 10) rfl)), (iX6_charged _ (List.mem_of_getElem? (i := 11) rfl))⟩ (ctX6_at hj ob_35 ec) ⟨Nat.le_of_ble_eq_true rfl, Nat.le_of_ble_eq_true rfl⟩ rfl rfl (Nat.le_of_ble_eq_true rfl) rfl ?_
    refine z_i2l B 17 rfl ?_
    refine z_aload_n B 18 rfl 0 0 rfl rfl ?_
    refine z_getr 6 0 14 B 19 rfl ob_14 rfl (iX6_charged _ (List.mem_of_getElem? (i := 0) rfl)) rfl ?_
    refine z_getr 0 3 15 B 20 rfl ob_15 rfl (iX6_charged _ (List.mem_of_getElem? (i := 12) rfl)) rfl ?_
    refine z_iload_n B 21 rfl 1 1 rfl rfl ?_
    obtain ⟨r4, ec, hf⟩ := bd_e hf
    refine z_callS [.ref 37, .int a1] [.long r3.toInt64] [.int r4, .long r3.toInt64] X B 22 rfl miX6_at ⟨(iX6_charged _ (List.mem_of_getElem? (i := 10) rfl)), (iX6_charged _ (List.mem_of_getElem? (i := 11) rfl))⟩ (ctX6_at hj ob_37 ec) ⟨Nat.le_of_ble_eq_true rfl, Nat.le_of_ble_eq_true rfl⟩ rfl rfl (Nat.le_of_ble_eq_true rfl) rfl ?_
    refine z_i2l B 23 rfl ?_
    refine z_lmul B 24 rfl ?_
    cases hf
    exact z_lret B 25 rfl hQ hr
end
section
theorem cp_put {l : Launch} {D : va_G} {cI cZ cJ : ClassId} {a N : Nat} {f : Nat → Int32} {i v : Int32} (hi : ¬ i < 0) (hN : i < nI N) (hx : vp_in i N) : Met l yX6_put (Cond.code yX6_put cX6_put 3 none :: TW) ({ frames := 0, cells := 0, slots := 0, locals := 0 }) (va_Pc [.ref a, .int i, .int v] (fun U => va_P D zcls [(a, .inl (cI, N, .inl f))] U.heap ∧ va_K D zcls (tyn cI cZ cJ) U)) (fun _ st oc t => oc = .returned none ∧ va_P D zcls [(a, .inl (cI, N, .inl (upd f i.toNatClampNeg v)))] t.heap ∧ t.heap.size = st.heap.size ∧ va_F (fun q => q = a) st t) 0 0 (fun q => q = a) := by
  refine Met.ofW (cc := cX6_put) (maxL := 3) (ret := none) (by decide) rfl ?_
  intro p e s m args below meth c s₁ B hml hv
  obtain ⟨rfl, hP, hK⟩ := hv
  have hx0 := B.exec
  have hb := B.bytes
  have hr := B.returns
  have hlocks := B.notSynchronized
  have hl := lv_entry ([.ref a, .int i, .int v]) (n := 3) (Nat.le_of_ble_eq_true rfl)
  rw [lg_entry_eq]
  generalize (lg_sl ([.ref a, .int i, .int v]) ++ List.replicate (3 - (lg_sl ([.ref a, .int i, .int v])).length) Slot.unset).toArray = ls at hl ⊢
  have hl : lv_has ls 3 [(0, .ref a), (1, .int i), (2, .int v)] := hl
  have hS : va_S (fun q => q = a) s.heap s.heap [] := va_S.rf
  refine lv_aload_n hx0 hb (dtX6_put _ (List.mem_of_getElem? (i := 0) rfl)).1 rfl (lv_at hl 0 rfl) ?_
  refine lv_ifnull hx0 hb (dtX6_put _ (List.mem_of_getElem? (i := 1) rfl)).1 ?_
  refine lv_iload_n hx0 hb (dtX6_put _ (List.mem_of_getElem? (i := 2) rfl)).1 rfl (lv_at hl 1 rfl) ?_
  refine lv_if_lt hx0 hb (tgt := 18) (dtX6_put _ (List.mem_of_getElem? (i := 3) rfl)).1 (by decide) (fun q => absurd q hi) (fun _ => ?_)
  refine lv_iload_n hx0 hb (dtX6_put _ (List.mem_of_getElem? (i := 4) rfl)).1 rfl (lv_at hl 1 rfl) ?_
  refine lv_aload_n hx0 hb (dtX6_put _ (List.mem_of_getElem? (i := 5) rfl)).1 rfl (lv_at hl 0 rfl) ?_
  refine va_alen hx0 hb hK hP 0 0 rfl (ty := .int) rfl (v := nI N) rfl (dtX6_put _ (List.mem_of_getElem? (i := 6) rfl)).1 ?_
  refine lv_icmp_ge hx0 hb (tgt := 18) (dtX6_put _ (List.mem_of_getElem? (i := 7) rfl)).1 (by decide) (fun q => absurd hN (i32_nlt2 q)) (fun _ => ?_)
  refine lv_aload_n hx0 hb (dtX6_put _ (List.mem_of_getElem? (i := 8) rfl)).1 rfl (lv_at hl 0 rfl) ?_
  refine lv_iload_n hx0 hb (dtX6_put _ (List.mem_of_getElem? (i := 9) rfl)).1 rfl (lv_at hl 1 rfl) ?_
  refine lv_iload_n hx0 hb (dtX6_put _ (List.mem_of_getElem? (i := 10) rfl)).1 rfl (lv_at hl 2 rfl) ?_
  refine W.iast hx0 hb (hP 0 _ rfl) ((hK.2 0 _ rfl).1 N (fun j => .int (f j))) (fun q => by cases q) (by show ¬ (i < 0 ∨ (arrV _ _ _).slots.size ≤ _); rw [arrV_size]; exact hx) rfl rfl (dtX6_put _ (List.mem_of_getElem? (i := 11) rfl)).1 fun H1 e1 z1 oq => ?_
  refine W.vret hx0 hb hr (fun t ht hW => ⟨rfl, ?_, by rw [ht]; exact z1, (hS.put z1 oq rfl (k := i.toNatClampNeg)).F ht⟩) (hS.put z1 oq rfl).2.2 (dtX6_put _ (List.mem_of_getElem? (i := 12) rfl)).1
  intro k q hq
  have h0 : k < 1 := (List.getElem?_eq_some_iff.mp hq).1
  rw [show k = 0 by omega] at hq
  cases hq
  show t.heap[a]? = some (vp_cell _ _)
  rw [ht, e1]
  rw [vp_cell_i, vp_cell_i, arrV_store]
  congr 2
  funext q
  by_cases hq : q = i.toNatClampNeg
  · subst hq
    simp [updV, upd]
  · simp [updV, upd, hq]
theorem n_cput {E : En} {ow : String} {tb : Tb} {nL pc nx len kc ks : Nat} {lv : Lv} {st : List Value} {cs : List va_E} {R : Room} {l0 : Launch} {D0 : va_G} {cI cZ cJ : ClassId} {idx N : Nat} {f : Nat → Int32} {x v : Int32} {host : String} (j : Nat) (cs2 : List va_E) (hR0 : RN E R) (hL : LN E l0 D0 cI cZ cJ) (B : BN E ow tb nL) (i : Nat) (h : tb[i]? = some (pc, .invokestatic idx, 3, nx)) (hw : (ow, idx, yX6_put, host) ∈ zns) (hst : Cond.static yX6_put ∈ TW) (hR : 1 ≤ R.frames ∧ 22 ≤ R.locals) (he : cs[j]? = some (.inl (cI, N, .inl f))) (hi : ¬ x < 0 ∧ x < nI N ∧ vp_in x N) (h2 : cs.set j (.inl (cI, N, .inl (upd f x.toNatClampNeg v))) = cs2) (hk : kc ≤ R.cells ∧ ks ≤ R.slots) (k : GN E nL nx lv st cs2 len kc ks) (hW : (st.map fun v => v.category).sum ≤ 8) : GN E nL pc lv (.int v :: .int x :: .ref j :: st) cs len kc ks := by
  subst h2
  obtain ⟨p, l, e, R', s, m, args, below, meth, c, Q, D, cI', cZ', cJ', n, lr⟩ := E
  obtain rfl : R' = R := hR0
  obtain ⟨rfl, rfl, rfl, rfl, rfl⟩ := hL
  obtain ⟨hd, hn⟩ := BN.dec B h
  subst hn
  intro H locs ls hlen hP hz hS hl
  have he' := wsn_get (n := n) he
  have hrl : ((st.map (shv n)).map (fun v => v.category)).sum ≤ 8 := by
    rw [List.map_map]
    have : ((fun v : Value => v.category) ∘ shv n) = fun v => v.category := by funext v; exact shv_cat n v
    rw [this]; exact hW
  have hP1 : va_P D zcls [(n + j, .inl (cI', N, .inl f))] H := by
    intro k q hq
    have h0 : k < 1 := (List.getElem?_eq_some_iff.mp hq).1
    rw [show k = 0 by omega] at hq
    cases hq
    exact hP j _ he'
  have hrun := va_runSN (As := [.ref (n + j), .int x, .int v]) (rest := st.map (shv n)) (g := F0 m pc ls (.int v :: .int x :: .ref (n + j) :: st.map (shv n))) (cells := kc) (slots := ks) (locs := locs) (H := H) (e := e) (below := below) (meth := meth) ⟨B.1, rfl, B.ml, B.hown, B.tw⟩ (cp_put (l := l) (D := D) (cI := cI') (cZ := cZ') (cJ := cJ') (a := n + j) (f := f) hi.1 hi.2.1 hi.2.2) ⟨va_cnB 3 B.tw (tw_good miX6_put.1) rfl rfl rfl (B.hnx _ hw) (B.tw _ miX6_put.2.2.2) miX6_put.2.2.1 ⟨hR.1, hR.2⟩, B.tw _ hst, trivial⟩ ⟨fun a U g mk q => ⟨q.1, q.2.1, va_K.moved (u := U) (U := U.calling g mk a) (Vm.Alike.refl U.vm) q.2.2⟩, fun U hU hW => ⟨rfl, by rw [hU]; exact hP1, va_K.moved hW.alike B.K⟩⟩ rfl rfl hl.1 rfl (lv_room hrl) hd hk
  intro T hT Y
  obtain ⟨v9, st₀, t, T', L, h0, X', hL, e1, e2, ⟨hv, hP2, hz2, hF⟩, hst⟩ := hrun T hT Y
  cases hv
  have hAA : ∀ q, q = n + j → n ≤ q := fun q h => by omega
  obtain ⟨g1, g2, hS1⟩ := kp_keep h0 e1 hS (fun q _ h => hAA q h) hAA hL hF
  have hlt : n + j < H.size := (hP j _ he').lt
  have hP3 : va_P D zcls (wsn n (cs.set j (.inl (cI', N, .inl (upd f x.toNatClampNeg v))))) T'.heap := by
    intro k9 q hq
    obtain ⟨y, hy, rfl⟩ := wsn_at hq
    by_cases hk : k9 = j
    · subst hk
      have hlen : k9 < cs.length := (List.getElem?_eq_some_iff.mp he).1
      rw [List.getElem?_set_self hlen] at hy
      cases hy
      rw [e1]
      exact hP2 0 _ rfl
    · rw [List.getElem?_set_ne (Ne.symm hk)] at hy
      have hq2 := hP k9 _ (wsn_get (n := n) hy)
      exact hq2.kept (g2 (n + k9) hq2.lt (by show ¬ _ = _; omega))
  have hgo := k T'.heap (locs ++ L) ls (by rw [List.length_set]; exact hlen) hP3 (by rw [e1, hz2, h0, hz, List.length_set]) hS1 hl
  obtain ⟨t2, a1, b1⟩ := hgo T' rfl X'
  exact ⟨t2, hst t2 a1, b1⟩
def bN5 (cI cZ cJ : ClassId) : List va_E := (.inr (5, [.int 1, .ref 1, .ref 2, .ref 3, .ref 4, .ref 5, .ref 6]) :: (([] : List va_E) ++ [.inl (cI, 6, .inl (fun _ => 0))] ++ [.inl (cI, 6, .inl (fun _ => 0))] ++ [.inl (cI, 6, .inl (fun _ => 0))] ++ [.inl (cI, 6, .inl (fun _ => 0))] ++ [.inl (cI, 24, .inl (fun _ => 0))] ++ [.inl (cI, 24, .inl (fun _ => 0))]))
theorem bN5_len (cI cZ cJ : ClassId) : (bN5 cI cZ cJ).length = 7 := by
  unfold bN5
  simp only [List.length_cons, List.length_append, List.length_map, List.length_nil]
def tbN5 : Tb := [(0, .aload_n 0, 1, 1), (1, .invokespecial 3, 3, 4), (4, .aload_n 0, 1, 5), (5, .iconst 1, 1, 6), (6, .putfield 9, 3, 9), (9, .aload_n 0, 1, 10), (10, .bipush 6, 2, 12), (12, .newarray .int, 2, 14), (14, .putfield 15, 3, 17), (17, .aload_n 0, 1, 18), (18, .bipush 6, 2, 20), (20, .newarray .int, 2, 22), (22, .putfield 19, 3, 25), (25, .aload_n 0, 1, 26), (26, .bipush 6, 2, 28), (28, .newarray .int, 2, 30), (30, .putfield 22, 3, 33), (33, .aload_n 0, 1, 34), (34, .bipush 6, 2, 36), (36, .newarray .int, 2, 38), (38, .putfield 25, 3, 41), (41, .aload_n 0, 1, 42), (42, .bipush 24, 2, 44), (44, .newarray .int, 2, 46), (46, .putfield 28, 3, 49), (49, .aload_n 0, 1, 50), (50, .bipush 24, 2, 52), (52, .newarray .int, 2, 54), (54, .putfield 31, 3, 57), (57, .return_, 1, 58)]
theorem dtN5 : ∀ q ∈ tbN5, decode cX5_init q.1 = .ok (q.2.1, q.2.2.1) ∧ q.1 + q.2.2.1 = q.2.2.2 := by decide +kernel
theorem miN5 : MI yX5_init cX5_init 1 none 0 := ⟨tw_mem (List.mem_of_getElem? (i := 66) (by decide +kernel)) rfl, by decide, by decide +kernel, tw_mem (List.mem_of_getElem? (i := 17) (by decide +kernel)) rfl⟩
abbrev rmN5 : Room := { frames := 1, cells := 6, slots := 72, locals := 32 }
def wN5 : List Cond := [.methodLink "ZoneCapacity$Zones" 3 Lib.objectInit, .instanceMethod Lib.objectInit, .code Lib.objectInit ⟨#[0xb1]⟩ 1 none, .fieldLink "ZoneCapacity$Zones" 9 "ZoneCapacity$Zones" "many" "I", .arrayClass .int, .fieldLink "ZoneCapacity$Zones" 15 "ZoneCapacity$Zones" "outer" "[I", .fieldLink "ZoneCapacity$Zones" 19 "ZoneCapacity$Zones" "in" "[I", .fieldLink "ZoneCapacity$Zones" 22 "ZoneCapacity$Zones" "out" "[I", .fieldLink "ZoneCapacity$Zones" 25 "ZoneCapacity$Zones" "points" "[I", .fieldLink "ZoneCapacity$Zones" 28 "ZoneCapacity$Zones" "pointUnits" "[I", .fieldLink "ZoneCapacity$Zones" 31 "ZoneCapacity$Zones" "pointPrices" "[I"]
theorem iN5 : ∀ w ∈ wN5, w ∈ TW := tw_of (ids := [67, 48, 49, 68, 98, 71, 73, 76, 79, 81, 82]) (by decide +kernel)
set_option maxHeartbeats 8000000 in
theorem ctN5 {l : Launch} {D : va_G} {cI cZ cJ : ClassId} : CtN l D cI cZ cJ yX5_init cX5_init 1 1 32 (.inr (5, [.int 0, .null, .null, .null, .null, .null, .null])) (bN5 cI cZ cJ) 6 72 := by
  refine CtN.of (tb := tbN5) (by decide) miN5.1 rfl dtN5 (by decide) ?_
  intro E B hQ hR0 hL hI
  refine n_aload_n B 0 rfl 0 0 rfl rfl ?_
  refine n_obj hR0 B 1 rfl ⟨(iN5 _ (List.mem_of_getElem? (i := 0) rfl)), (iN5 _ (List.mem_of_getElem? (i := 1) rfl)), (iN5 _ (List.mem_of_getElem? (i := 2) rfl))⟩ ⟨Nat.le_of_ble_eq_true rfl, Nat.le_of_ble_eq_true rfl⟩ (Nat.le_of_ble_eq_true rfl) ?_
  refine n_aload_n B 2 rfl 0 0 rfl rfl ?_
  refine n_iconst (1) B 3 rfl (by decide) ?_
  refine n_put 5 0 0 (.inr (5, [.int 1, .null, .null, .null, .null, .null, .null]) :: (([] : List va_E))) B 4 rfl (iN5 _ (List.mem_of_getElem? (i := 3) rfl)) rfl (ty := .int) (by decide) rfl (fun _ => ⟨rfl, rfl⟩) rfl (by decide) rfl ?_
  refine n_aload_n B 5 rfl 0 0 rfl rfl ?_
  refine n_bipush (6) B 6 rfl (by decide) ?_
  refine n_newaI 6 1 (.inr (5, [.int 1, .null, .null, .null, .null, .null, .null]) :: (([] : List va_E) ++ [.inl (cI, 6, .inl (fun _ => 0))])) 2 1 6 hR0 hL B 7 rfl (iN5 _ (List.mem_of_getElem? (i := 4) rfl)) ⟨by decide, by decide, by decide⟩ ⟨rfl, rfl⟩ rfl ⟨rfl, rfl, Nat.le_of_ble_eq_true rfl, Nat.le_of_ble_eq_true rfl⟩ ?_
  refine n_putF 5 1 0 (.inr (5, [.int 1, .ref 1, .null, .null, .null, .null, .null]) :: (([] : List va_E) ++ [.inl (cI, 6, .inl (fun _ => 0))])) B 8 rfl (iN5 _ (List.mem_of_getElem? (i := 5) rfl)) rfl (ty := .array .int) (by decide) rfl hI rfl (fun _ => ⟨rfl, rfl⟩) rfl (by decide) rfl ?_
  refine n_aload_n B 9 rfl 0 0 rfl rfl ?_
  refine n_bipush (6) B 10 rfl (by decide) ?_
  refine n_newaI 6 2 (.inr (5, [.int 1, .ref 1, .null, .null, .null, .null, .null]) :: (([] : List va_E) ++ [.inl (cI, 6, .inl (fun _ => 0))] ++ [.inl (cI, 6, .inl (fun _ => 0))])) 3 2 12 hR0 hL B 11 rfl (iN5 _ (List.mem_of_getElem? (i := 4) rfl)) ⟨by decide, by decide, by decide⟩ ⟨rfl, rfl⟩ rfl ⟨rfl, rfl, Nat.le_of_ble_eq_true rfl, Nat.le_of_ble_eq_true rfl⟩ ?_
  refine n_putF 5 2 0 (.inr (5, [.int 1, .ref 1, .ref 2, .null, .null, .null, .null]) :: (([] : List va_E) ++ [.inl (cI, 6, .inl (fun _ => 0))] ++ [.inl (cI, 6, .inl (fun _ => 0))])) B 12 rfl (iN5 _ (List.mem_of_getElem? (i := 6) rfl)) rfl (ty := .array .int) (by decide) rfl hI rfl (fun _ => ⟨rfl, rfl⟩) rfl (by decide) rfl ?_
  refine n_aload_n B 13 rfl 0 0 rfl rfl ?_
  refine n_bipush (6) B 14 rfl (by decide) ?_
  refine n_newaI 6 3 (.inr (5, [.int 1, .ref 1, .ref 2, .null, .null, .null, .null]) :: (([] : List va_E) ++ [.inl (cI, 6, .inl (fun _ => 0))] ++ [.inl (cI, 6, .inl (fun _ => 0))] ++ [.inl (cI, 6, .inl (fun _ => 0))])) 4 3 18 hR0 hL B 15 rfl (iN5 _ (List.mem_of_getElem? (i := 4) rfl)) ⟨by decide, by decide, by decide⟩ ⟨rfl, rfl⟩ rfl ⟨rfl, rfl, Nat.le_of_ble_eq_true rfl, Nat.le_of_ble_eq_true rfl⟩ ?_
  refine n_putF 5 3 0 (.inr (5, [.int 1, .ref 1, .ref 2, .ref 3, .null, .null, .null]) :: (([] : List va_E) ++ [.inl (cI, 6, .inl (fun _ => 0))] ++ [.inl (cI, 6, .inl (fun _ => 0))] ++ [.inl (cI, 6, .inl (fun _ => 0))])) B 16 rfl (iN5 _ (List.mem_of_getElem? (i := 7) rfl)) rfl (ty := .array .int) (by decide) rfl hI rfl (fun _ => ⟨rfl, rfl⟩) rfl (by decide) rfl ?_
  refine n_aload_n B 17 rfl 0 0 rfl rfl ?_
  refine n_bipush (6) B 18 rfl (by decide) ?_
  refine n_newaI 6 4 (.inr (5, [.int 1, .ref 1, .ref 2, .ref 3, .null, .null, .null]) :: (([] : List va_E) ++ [.inl (cI, 6, .inl (fun _ => 0))] ++ [.inl (cI, 6, .inl (fun _ => 0))] ++ [.inl (cI, 6, .inl (fun _ => 0))] ++ [.inl (cI, 6, .inl (fun _ => 0))])) 5 4 24 hR0 hL B 19 rfl (iN5 _ (List.mem_of_getElem? (i := 4) rfl)) ⟨by decide, by decide, by decide⟩ ⟨rfl, rfl⟩ rfl ⟨rfl, rfl, Nat.le_of_ble_eq_true rfl, Nat.le_of_ble_eq_true rfl⟩ ?_
  refine n_putF 5 4 0 (.inr (5, [.int 1, .ref 1, .ref 2, .ref 3, .ref 4, .null, .null]) :: (([] : List va_E) ++ [.inl (cI, 6, .inl (fun _ => 0))] ++ [.inl (cI, 6, .inl (fun _ => 0))] ++ [.inl (cI, 6, .inl (fun _ => 0))] ++ [.inl (cI, 6, .inl (fun _ => 0))])) B 20 rfl (iN5 _ (List.mem_of_getElem? (i := 8) rfl)) rfl (ty := .array .int) (by decide) rfl hI rfl (fun _ => ⟨rfl, rfl⟩) rfl (by decide) rfl ?_
  refine n_aload_n B 21 rfl 0 0 rfl rfl ?_
  refine n_bipush (24) B 22 rfl (by decide) ?_
  refine n_newaI 24 5 (.inr (5, [.int 1, .ref 1, .ref 2, .ref 3, .ref 4, .null, .null]) :: (([] : List va_E) ++ [.inl (cI, 6, .inl (fun _ => 0))] ++ [.inl (cI, 6, .inl (fun _ => 0))] ++ [.inl (cI, 6, .inl (fun _ => 0))] ++ [.inl (cI, 6, .inl (fun _ => 0))] ++ [.inl (cI, 24, .inl (fun _ => 0))])) 6 5 48 hR0 hL B 23 rfl (iN5 _ (List.mem_of_getElem? (i := 4) rfl)) ⟨by decide, by decide, by decide⟩ ⟨rfl, rfl⟩ rfl ⟨rfl, rfl, Nat.le_of_ble_eq_true rfl, Nat.le_of_ble_eq_true rfl⟩ ?_
  refine n_putF 5 5 0 (.inr (5, [.int 1, .ref 1, .ref 2, .ref 3, .ref 4, .ref 5, .null]) :: (([] : List va_E) ++ [.inl (cI, 6, .inl (fun _ => 0))] ++ [.inl (cI, 6, .inl (fun _ => 0))] ++ [.inl (cI, 6, .inl (fun _ => 0))] ++ [.inl (cI, 6, .inl (fun _ => 0))] ++ [.inl (cI, 24, .inl (fun _ => 0))])) B 24 rfl (iN5 _ (List.mem_of_getElem? (i := 9) rfl)) rfl (ty := .array .int) (by decide) rfl hI rfl (fun _ => ⟨rfl, rfl⟩) rfl (by decide) rfl ?_
  refine n_aload_n B 25 rfl 0 0 rfl rfl ?_
  refine n_bipush (24) B 26 rfl (by decide) ?_
  refine n_newaI 24 6 (.inr (5, [.int 1, .ref 1, .ref 2, .ref 3, .ref 4, .ref 5, .null]) :: (([] : List va_E) ++ [.inl (cI, 6, .inl (fun _ => 0))] ++ [.inl (cI, 6, .inl (fun _ => 0))] ++ [.inl (cI, 6, .inl (fun _ => 0))] ++ [.inl (cI, 6, .inl (fun _ => 0))] ++ [.inl (cI, 24, .inl (fun _ => 0))] ++ [.inl (cI, 24, .inl (fun _ => 0))])) 7 6 72 hR0 hL B 27 rfl (iN5 _ (List.mem_of_getElem? (i := 4) rfl)) ⟨by decide, by decide, by decide⟩ ⟨rfl, rfl⟩ rfl ⟨rfl, rfl, Nat.le_of_ble_eq_true rfl, Nat.le_of_ble_eq_true rfl⟩ ?_
  refine n_putF 5 6 0 (.inr (5, [.int 1, .ref 1, .ref 2, .ref 3, .ref 4, .ref 5, .ref 6]) :: (([] : List va_E) ++ [.inl (cI, 6, .inl (fun _ => 0))] ++ [.inl (cI, 6, .inl (fun _ => 0))] ++ [.inl (cI, 6, .inl (fun _ => 0))] ++ [.inl (cI, 6, .inl (fun _ => 0))] ++ [.inl (cI, 24, .inl (fun _ => 0))] ++ [.inl (cI, 24, .inl (fun _ => 0))])) B 28 rfl (iN5 _ (List.mem_of_getElem? (i := 10) rfl)) rfl (ty := .array .int) (by decide) rfl hI rfl (fun _ => ⟨rfl, rfl⟩) rfl (by decide) rfl ?_
  exact n_vret B 29 rfl hQ ⟨rfl, rfl, rfl⟩
def bN2 (cI cZ cJ : ClassId) : List va_E := (.inr (2, [.int 0, .int 9999, .ref 1, .ref 2, .ref 3, .ref 4, .ref 5, .ref 6, .ref 7, .ref 8, .ref 9, .ref 10]) :: (([] : List va_E) ++ [.inl (cI, 4, .inl (fun _ => 0))] ++ [.inl (cI, 12, .inl (fun _ => 0))] ++ [.inl (cI, 12, .inl (fun _ => 0))] ++ [.inl (cI, 12, .inl (fun _ => 0))] ++ [.inl (cI, 12, .inl (fun _ => 0))] ++ [.inl (cI, 12, .inl (fun _ => 0))] ++ [.inl (cI, 12, .inl (fun _ => 0))] ++ [.inl (cI, 12, .inl (fun _ => 0))] ++ [.inl (cI, 36, .inl (fun _ => 0))] ++ [.inl (cI, 36, .inl (fun _ => 0))]))
theorem bN2_len (cI cZ cJ : ClassId) : (bN2 cI cZ cJ).length = 11 := by
  unfold bN2
  simp only [List.length_cons, List.length_append, List.length_map, List.length_nil, bN5_len]
def tbN2 : Tb := [(0, .aload_n 0, 1, 1), (1, .invokespecial 3, 3, 4), (4, .aload_n 0, 1, 5), (5, .sipush 9999, 3, 8), (8, .putfield 9, 3, 11), (11, .aload_n 0, 1, 12), (12, .iconst 4, 1, 13), (13, .newarray .int, 2, 15), (15, .putfield 15, 3, 18), (18, .aload_n 0, 1, 19), (19, .bipush 12, 2, 21), (21, .newarray .int, 2, 23), (23, .putfield 19, 3, 26), (26, .aload_n 0, 1, 27), (27, .bipush 12, 2, 29), (29, .newarray .int, 2, 31), (31, .putfield 22, 3, 34), (34, .aload_n 0, 1, 35), (35, .bipush 12, 2, 37), (37, .newarray .int, 2, 39), (39, .putfield 25, 3, 42), (42, .aload_n 0, 1, 43), (43, .bipush 12, 2, 45), (45, .newarray .int, 2, 47), (47, .putfield 28, 3, 50), (50, .aload_n 0, 1, 51), (51, .bipush 12, 2, 53), (53, .newarray .int, 2, 55), (55, .putfield 31, 3, 58), (58, .aload_n 0, 1, 59), (59, .bipush 12, 2, 61), (61, .newarray .int, 2, 63), (63, .putfield 34, 3, 66), (66, .aload_n 0, 1, 67), (67, .bipush 12, 2, 69), (69, .newarray .int, 2, 71), (71, .putfield 37, 3, 74), (74, .aload_n 0, 1, 75), (75, .bipush 36, 2, 77), (77, .newarray .int, 2, 79), (79, .putfield 40, 3, 82), (82, .aload_n 0, 1, 83), (83, .bipush 36, 2, 85), (85, .newarray .int, 2, 87), (87, .putfield 43, 3, 90), (90, .return_, 1, 91)]
theorem dtN2 : ∀ q ∈ tbN2, decode cX2_init q.1 = .ok (q.2.1, q.2.2.1) ∧ q.1 + q.2.2.1 = q.2.2.2 := by decide +kernel
theorem miN2 : MI yX2_init cX2_init 1 none 0 := ⟨tw_mem (List.mem_of_getElem? (i := 103) (by decide +kernel)) rfl, by decide, by decide +kernel, tw_mem (List.mem_of_getElem? (i := 18) (by decide +kernel)) rfl⟩
abbrev rmN2 : Room := { frames := 1, cells := 10, slots := 160, locals := 32 }
def wN2 : List Cond := [.methodLink "ZoneCapacity$Offers" 3 Lib.objectInit, .instanceMethod Lib.objectInit, .code Lib.objectInit ⟨#[0xb1]⟩ 1 none, .fieldLink "ZoneCapacity$Offers" 9 "ZoneCapacity$Offers" "ceiling" "I", .arrayClass .int, .fieldLink "ZoneCapacity$Offers" 15 "ZoneCapacity$Offers" "floors" "[I", .fieldLink "ZoneCapacity$Offers" 19 "ZoneCapacity$Offers" "zones" "[I", .fieldLink "ZoneCapacity$Offers" 22 "ZoneCapacity$Offers" "sizes" "[I", .fieldLink "ZoneCapacity$Offers" 25 "ZoneCapacity$Offers" "kinds" "[I", .fieldLink "ZoneCapacity$Offers" 28 "ZoneCapacity$Offers" "owners" "[I", .fieldLink "ZoneCapacity$Offers" 31 "ZoneCapacity$Offers" "must" "[I", .fieldLink "ZoneCapacity$Offers" 34 "ZoneCapacity$Offers" "free" "[I", .fieldLink "ZoneCapacity$Offers" 37 "ZoneCapacity$Offers" "steps" "[I", .fieldLink "ZoneCapacity$Offers" 40 "ZoneCapacity$Offers" "stepUnits" "[I", .fieldLink "ZoneCapacity$Offers" 43 "ZoneCapacity$Offers" "stepPrices" "[I"]
theorem iN2 : ∀ w ∈ wN2, w ∈ TW := tw_of (ids := [104, 48, 49, 108, 98, 109, 111, 113, 114, 115, 117, 118, 120, 122, 123]) (by decide +kernel)
set_option maxHeartbeats 8000000 in
theorem ctN2 {l : Launch} {D : va_G} {cI cZ cJ : ClassId} : CtN l D cI cZ cJ yX2_init cX2_init 1 1 32 (.inr (2, [.int 0, .int 0, .null, .null, .null, .null, .null, .null, .null, .null, .null, .null])) (bN2 cI cZ cJ) 10 160 := by
  refine CtN.of (tb := tbN2) (by decide) miN2.1 rfl dtN2 (by decide) ?_
  intro E B hQ hR0 hL hI
  refine n_aload_n B 0 rfl 0 0 rfl rfl ?_
  refine n_obj hR0 B 1 rfl ⟨(iN2 _ (List.mem_of_getElem? (i := 0) rfl)), (iN2 _ (List.mem_of_getElem? (i := 1) rfl)), (iN2 _ (List.mem_of_getElem? (i := 2) rfl))⟩ ⟨Nat.le_of_ble_eq_true rfl, Nat.le_of_ble_eq_true rfl⟩ (Nat.le_of_ble_eq_true rfl) ?_
  refine n_aload_n B 2 rfl 0 0 rfl rfl ?_
  refine n_sipush (9999) B 3 rfl (by decide) ?_
  refine n_put 2 1 0 (.inr (2, [.int 0, .int 9999, .null, .null, .null, .null, .null, .null, .null, .null, .null, .null]) :: (([] : List va_E))) B 4 rfl (iN2 _ (List.mem_of_getElem? (i := 3) rfl)) rfl (ty := .int) (by decide) rfl (fun _ => ⟨rfl, rfl⟩) rfl (by decide) rfl ?_
  refine n_aload_n B 5 rfl 0 0 rfl rfl ?_
  refine n_iconst (4) B 6 rfl (by decide) ?_
  refine n_newaI 4 1 (.inr (2, [.int 0, .int 9999, .null, .null, .null, .null, .null, .null, .null, .null, .null, .null]) :: (([] : List va_E) ++ [.inl (cI, 4, .inl (fun _ => 0))])) 2 1 4 hR0 hL B 7 rfl (iN2 _ (List.mem_of_getElem? (i := 4) rfl)) ⟨by decide, by decide, by decide⟩ ⟨rfl, rfl⟩ rfl ⟨rfl, rfl, Nat.le_of_ble_eq_true rfl, Nat.le_of_ble_eq_true rfl⟩ ?_
  refine n_putF 2 2 0 (.inr (2, [.int 0, .int 9999, .ref 1, .null, .null, .null, .null, .null, .null, .null, .null, .null]) :: (([] : List va_E) ++ [.inl (cI, 4, .inl (fun _ => 0))])) B 8 rfl (iN2 _ (List.mem_of_getElem? (i := 5) rfl)) rfl (ty := .array .int) (by decide) rfl hI rfl (fun _ => ⟨rfl, rfl⟩) rfl (by decide) rfl ?_
  refine n_aload_n B 9 rfl 0 0 rfl rfl ?_
  refine n_bipush (12) B 10 rfl (by decide) ?_
  refine n_newaI 12 2 (.inr (2, [.int 0, .int 9999, .ref 1, .null, .null, .null, .null, .null, .null, .null, .null, .null]) :: (([] : List va_E) ++ [.inl (cI, 4, .inl (fun _ => 0))] ++ [.inl (cI, 12, .inl (fun _ => 0))])) 3 2 16 hR0 hL B 11 rfl (iN2 _ (List.mem_of_getElem? (i := 4) rfl)) ⟨by decide, by decide, by decide⟩ ⟨rfl, rfl⟩ rfl ⟨rfl, rfl, Nat.le_of_ble_eq_true rfl, Nat.le_of_ble_eq_true rfl⟩ ?_
  refine n_putF 2 3 0 (.inr (2, [.int 0, .int 9999, .ref 1, .ref 2, .null, .null, .null, .null, .null, .null, .null, .null]) :: (([] : List va_E) ++ [.inl (cI, 4, .inl (fun _ => 0))] ++ [.inl (cI, 12, .inl (fun _ => 0))])) B 12 rfl (iN2 _ (List.mem_of_getElem? (i := 6) rfl)) rfl (ty := .array .int) (by decide) rfl hI rfl (fun _ => ⟨rfl, rfl⟩) rfl (by decide) rfl ?_
  refine n_aload_n B 13 rfl 0 0 rfl rfl ?_
  refine n_bipush (12) B 14 rfl (by decide) ?_
  refine n_newaI 12 3 (.inr (2, [.int 0, .int 9999, .ref 1, .ref 2, .null, .null, .null, .null, .null, .null, .null, .null]) :: (([] : List va_E) ++ [.inl (cI, 4, .inl (fun _ => 0))] ++ [.inl (cI, 12, .inl (fun _ => 0))] ++ [.inl (cI, 12, .inl (fun _ => 0))])) 4 3 28 hR0 hL B 15 rfl (iN2 _ (List.mem_of_getElem? (i := 4) rfl)) ⟨by decide, by decide, by decide⟩ ⟨rfl, rfl⟩ rfl ⟨rfl, rfl, Nat.le_of_ble_eq_true rfl, Nat.le_of_ble_eq_true rfl⟩ ?_
  refine n_putF 2 4 0 (.inr (2, [.int 0, .int 9999, .ref 1, .ref 2, .ref 3, .null, .null, .null, .null, .null, .null, .null]) :: (([] : List va_E) ++ [.inl (cI, 4, .inl (fun _ => 0))] ++ [.inl (cI, 12, .inl (fun _ => 0))] ++ [.inl (cI, 12, .inl (fun _ => 0))])) B 16 rfl (iN2 _ (List.mem_of_getElem? (i := 7) rfl)) rfl (ty := .array .int) (by decide) rfl hI rfl (fun _ => ⟨rfl, rfl⟩) rfl (by decide) rfl ?_
  refine n_aload_n B 17 rfl 0 0 rfl rfl ?_
  refine n_bipush (12) B 18 rfl (by decide) ?_
  refine n_newaI 12 4 (.inr (2, [.int 0, .int 9999, .ref 1, .ref 2, .ref 3, .null, .null, .null, .null, .null, .null, .null]) :: (([] : List va_E) ++ [.inl (cI, 4, .inl (fun _ => 0))] ++ [.inl (cI, 12, .inl (fun _ => 0))] ++ [.inl (cI, 12, .inl (fun _ => 0))] ++ [.inl (cI, 12, .inl (fun _ => 0))])) 5 4 40 hR0 hL B 19 rfl (iN2 _ (List.mem_of_getElem? (i := 4) rfl)) ⟨by decide, by decide, by decide⟩ ⟨rfl, rfl⟩ rfl ⟨rfl, rfl, Nat.le_of_ble_eq_true rfl, Nat.le_of_ble_eq_true rfl⟩ ?_
  refine n_putF 2 5 0 (.inr (2, [.int 0, .int 9999, .ref 1, .ref 2, .ref 3, .ref 4, .null, .null, .null, .null, .null, .null]) :: (([] : List va_E) ++ [.inl (cI, 4, .inl (fun _ => 0))] ++ [.inl (cI, 12, .inl (fun _ => 0))] ++ [.inl (cI, 12, .inl (fun _ => 0))] ++ [.inl (cI, 12, .inl (fun _ => 0))])) B 20 rfl (iN2 _ (List.mem_of_getElem? (i := 8) rfl)) rfl (ty := .array .int) (by decide) rfl hI rfl (fun _ => ⟨rfl, rfl⟩) rfl (by decide) rfl ?_
  refine n_aload_n B 21 rfl 0 0 rfl rfl ?_
  refine n_bipush (12) B 22 rfl (by decide) ?_
  refine n_newaI 12 5 (.inr (2, [.int 0, .int 9999, .ref 1, .ref 2, .ref 3, .ref 4, .null, .null, .null, .null, .null, .null]) :: (([] : List va_E) ++ [.inl (cI, 4, .inl (fun _ => 0))] ++ [.inl (cI, 12, .inl (fun _ => 0))] ++ [.inl (cI, 12, .inl (fun _ => 0))] ++ [.inl (cI, 12, .inl (fun _ => 0))] ++ [.inl (cI, 12, .inl (fun _ => 0))])) 6 5 52 hR0 hL B 23 rfl (iN2 _ (List.mem_of_getElem? (i := 4) rfl)) ⟨by decide, by decide, by decide⟩ ⟨rfl, rfl⟩ rfl ⟨rfl, rfl, Nat.le_of_ble_eq_true rfl, Nat.le_of_ble_eq_true rfl⟩ ?_
  refine n_putF 2 6 0 (.inr (2, [.int 0, .int 9999, .ref 1, .ref 2, .ref 3, .ref 4, .ref 5, .null, .null, .null, .null, .null]) :: (([] : List va_E) ++ [.inl (cI, 4, .inl (fun _ => 0))] ++ [.inl (cI, 12, .inl (fun _ => 0))] ++ [.inl (cI, 12, .inl (fun _ => 0))] ++ [.inl (cI, 12, .inl (fun _ => 0))] ++ [.inl (cI, 12, .inl (fun _ => 0))])) B 24 rfl (iN2 _ (List.mem_of_getElem? (i := 9) rfl)) rfl (ty := .array .int) (by decide) rfl hI rfl (fun _ => ⟨rfl, rfl⟩) rfl (by decide) rfl ?_
  refine n_aload_n B 25 rfl 0 0 rfl rfl ?_
  refine n_bipush (12) B 26 rfl (by decide) ?_
  refine n_newaI 12 6 (.inr (2, [.int 0, .int 9999, .ref 1, .ref 2, .ref 3, .ref 4, .ref 5, .null, .null, .null, .null, .null]) :: (([] : List va_E) ++ [.inl (cI, 4, .inl (fun _ => 0))] ++ [.inl (cI, 12, .inl (fun _ => 0))] ++ [.inl (cI, 12, .inl (fun _ => 0))] ++ [.inl (cI, 12, .inl (fun _ => 0))] ++ [.inl (cI, 12, .inl (fun _ => 0))] ++ [.inl (cI, 12, .inl (fun _ => 0))])) 7 6 64 hR0 hL B 27 rfl (iN2 _ (List.mem_of_getElem? (i := 4) rfl)) ⟨by decide, by decide, by decide⟩ ⟨rfl, rfl⟩ rfl ⟨rfl, rfl, Nat.le_of_ble_eq_true rfl, Nat.le_of_ble_eq_true rfl⟩ ?_
  refine n_putF 2 7 0 (.inr (2, [.int 0, .int 9999, .ref 1, .ref 2, .ref 3, .ref 4, .ref 5, .ref 6, .null, .null, .null, .null]) :: (([] : List va_E) ++ [.inl (cI, 4, .inl (fun _ => 0))] ++ [.inl (cI, 12, .inl (fun _ => 0))] ++ [.inl (cI, 12, .inl (fun _ => 0))] ++ [.inl (cI, 12, .inl (fun _ => 0))] ++ [.inl (cI, 12, .inl (fun _ => 0))] ++ [.inl (cI, 12, .inl (fun _ => 0))])) B 28 rfl (iN2 _ (List.mem_of_getElem? (i := 10) rfl)) rfl (ty := .array .int) (by decide) rfl hI rfl (fun _ => ⟨rfl, rfl⟩) rfl (by decide) rfl ?_
  refine n_aload_n B 29 rfl 0 0 rfl rfl ?_
  refine n_bipush (12) B 30 rfl (by decide) ?_
  refine n_newaI 12 7 (.inr (2, [.int 0, .int 9999, .ref 1, .ref 2, .ref 3, .ref 4, .ref 5, .ref 6, .null, .null, .null, .null]) :: (([] : List va_E) ++ [.inl (cI, 4, .inl (fun _ => 0))] ++ [.inl (cI, 12, .inl (fun _ => 0))] ++ [.inl (cI, 12, .inl (fun _ => 0))] ++ [.inl (cI, 12, .inl (fun _ => 0))] ++ [.inl (cI, 12, .inl (fun _ => 0))] ++ [.inl (cI, 12, .inl (fun _ => 0))] ++ [.inl (cI, 12, .inl (fun _ => 0))])) 8 7 76 hR0 hL B 31 rfl (iN2 _ (List.mem_of_getElem? (i := 4) rfl)) ⟨by decide, by decide, by decide⟩ ⟨rfl, rfl⟩ rfl ⟨rfl, rfl, Nat.le_of_ble_eq_true rfl, Nat.le_of_ble_eq_true rfl⟩ ?_
  refine n_putF 2 8 0 (.inr (2, [.int 0, .int 9999, .ref 1, .ref 2, .ref 3, .ref 4, .ref 5, .ref 6, .ref 7, .null, .null, .null]) :: (([] : List va_E) ++ [.inl (cI, 4, .inl (fun _ => 0))] ++ [.inl (cI, 12, .inl (fun _ => 0))] ++ [.inl (cI, 12, .inl (fun _ => 0))] ++ [.inl (cI, 12, .inl (fun _ => 0))] ++ [.inl (cI, 12, .inl (fun _ => 0))] ++ [.inl (cI, 12, .inl (fun _ => 0))] ++ [.inl (cI, 12, .inl (fun _ => 0))])) B 32 rfl (iN2 _ (List.mem_of_getElem? (i := 11) rfl)) rfl (ty := .array .int) (by decide) rfl hI rfl (fun _ => ⟨rfl, rfl⟩) rfl (by decide) rfl ?_
  refine n_aload_n B 33 rfl 0 0 rfl rfl ?_
  refine n_bipush (12) B 34 rfl (by decide) ?_
  refine n_newaI 12 8 (.inr (2, [.int 0, .int 9999, .ref 1, .ref 2, .ref 3, .ref 4, .ref 5, .ref 6, .ref 7, .null, .null, .null]) :: (([] : List va_E) ++ [.inl (cI, 4, .inl (fun _ => 0))] ++ [.inl (cI, 12, .inl (fun _ => 0))] ++ [.inl (cI, 12, .inl (fun _ => 0))] ++ [.inl (cI, 12, .inl (fun _ => 0))] ++ [.inl (cI, 12, .inl (fun _ => 0))] ++ [.inl (cI, 12, .inl (fun _ => 0))] ++ [.inl (cI, 12, .inl (fun _ => 0))] ++ [.inl (cI, 12, .inl (fun _ => 0))])) 9 8 88 hR0 hL B 35 rfl (iN2 _ (List.mem_of_getElem? (i := 4) rfl)) ⟨by decide, by decide, by decide⟩ ⟨rfl, rfl⟩ rfl ⟨rfl, rfl, Nat.le_of_ble_eq_true rfl, Nat.le_of_ble_eq_true rfl⟩ ?_
  refine n_putF 2 9 0 (.inr (2, [.int 0, .int 9999, .ref 1, .ref 2, .ref 3, .ref 4, .ref 5, .ref 6, .ref 7, .ref 8, .null, .null]) :: (([] : List va_E) ++ [.inl (cI, 4, .inl (fun _ => 0))] ++ [.inl (cI, 12, .inl (fun _ => 0))] ++ [.inl (cI, 12, .inl (fun _ => 0))] ++ [.inl (cI, 12, .inl (fun _ => 0))] ++ [.inl (cI, 12, .inl (fun _ => 0))] ++ [.inl (cI, 12, .inl (fun _ => 0))] ++ [.inl (cI, 12, .inl (fun _ => 0))] ++ [.inl (cI, 12, .inl (fun _ => 0))])) B 36 rfl (iN2 _ (List.mem_of_getElem? (i := 12) rfl)) rfl (ty := .array .int) (by decide) rfl hI rfl (fun _ => ⟨rfl, rfl⟩) rfl (by decide) rfl ?_
  refine n_aload_n B 37 rfl 0 0 rfl rfl ?_
  refine n_bipush (36) B 38 rfl (by decide) ?_
  refine n_newaI 36 9 (.inr (2, [.int 0, .int 9999, .ref 1, .ref 2, .ref 3, .ref 4, .ref 5, .ref 6, .ref 7, .ref 8, .null, .null]) :: (([] : List va_E) ++ [.inl (cI, 4, .inl (fun _ => 0))] ++ [.inl (cI, 12, .inl (fun _ => 0))] ++ [.inl (cI, 12, .inl (fun _ => 0))] ++ [.inl (cI, 12, .inl (fun _ => 0))] ++ [.inl (cI, 12, .inl (fun _ => 0))] ++ [.inl (cI, 12, .inl (fun _ => 0))] ++ [.inl (cI, 12, .inl (fun _ => 0))] ++ [.inl (cI, 12, .inl (fun _ => 0))] ++ [.inl (cI, 36, .inl (fun _ => 0))])) 10 9 124 hR0 hL B 39 rfl (iN2 _ (List.mem_of_getElem? (i := 4) rfl)) ⟨by decide, by decide, by decide⟩ ⟨rfl, rfl⟩ rfl ⟨rfl, rfl, Nat.le_of_ble_eq_true rfl, Nat.le_of_ble_eq_true rfl⟩ ?_
  refine n_putF 2 10 0 (.inr (2, [.int 0, .int 9999, .ref 1, .ref 2, .ref 3, .ref 4, .ref 5, .ref 6, .ref 7, .ref 8, .ref 9, .null]) :: (([] : List va_E) ++ [.inl (cI, 4, .inl (fun _ => 0))] ++ [.inl (cI, 12, .inl (fun _ => 0))] ++ [.inl (cI, 12, .inl (fun _ => 0))] ++ [.inl (cI, 12, .inl (fun _ => 0))] ++ [.inl (cI, 12, .inl (fun _ => 0))] ++ [.inl (cI, 12, .inl (fun _ => 0))] ++ [.inl (cI, 12, .inl (fun _ => 0))] ++ [.inl (cI, 12, .inl (fun _ => 0))] ++ [.inl (cI, 36, .inl (fun _ => 0))])) B 40 rfl (iN2 _ (List.mem_of_getElem? (i := 13) rfl)) rfl (ty := .array .int) (by decide) rfl hI rfl (fun _ => ⟨rfl, rfl⟩) rfl (by decide) rfl ?_
  refine n_aload_n B 41 rfl 0 0 rfl rfl ?_
  refine n_bipush (36) B 42 rfl (by decide) ?_
  refine n_newaI 36 10 (.inr (2, [.int 0, .int 9999, .ref 1, .ref 2, .ref 3, .ref 4, .ref 5, .ref 6, .ref 7, .ref 8, .ref 9, .null]) :: (([] : List va_E) ++ [.inl (cI, 4, .inl (fun _ => 0))] ++ [.inl (cI, 12, .inl (fun _ => 0))] ++ [.inl (cI, 12, .inl (fun _ => 0))] ++ [.inl (cI, 12, .inl (fun _ => 0))] ++ [.inl (cI, 12, .inl (fun _ => 0))] ++ [.inl (cI, 12, .inl (fun _ => 0))] ++ [.inl (cI, 12, .inl (fun _ => 0))] ++ [.inl (cI, 12, .inl (fun _ => 0))] ++ [.inl (cI, 36, .inl (fun _ => 0))] ++ [.inl (cI, 36, .inl (fun _ => 0))])) 11 10 160 hR0 hL B 43 rfl (iN2 _ (List.mem_of_getElem? (i := 4) rfl)) ⟨by decide, by decide, by decide⟩ ⟨rfl, rfl⟩ rfl ⟨rfl, rfl, Nat.le_of_ble_eq_true rfl, Nat.le_of_ble_eq_true rfl⟩ ?_
  refine n_putF 2 11 0 (.inr (2, [.int 0, .int 9999, .ref 1, .ref 2, .ref 3, .ref 4, .ref 5, .ref 6, .ref 7, .ref 8, .ref 9, .ref 10]) :: (([] : List va_E) ++ [.inl (cI, 4, .inl (fun _ => 0))] ++ [.inl (cI, 12, .inl (fun _ => 0))] ++ [.inl (cI, 12, .inl (fun _ => 0))] ++ [.inl (cI, 12, .inl (fun _ => 0))] ++ [.inl (cI, 12, .inl (fun _ => 0))] ++ [.inl (cI, 12, .inl (fun _ => 0))] ++ [.inl (cI, 12, .inl (fun _ => 0))] ++ [.inl (cI, 12, .inl (fun _ => 0))] ++ [.inl (cI, 36, .inl (fun _ => 0))] ++ [.inl (cI, 36, .inl (fun _ => 0))])) B 44 rfl (iN2 _ (List.mem_of_getElem? (i := 14) rfl)) rfl (ty := .array .int) (by decide) rfl hI rfl (fun _ => ⟨rfl, rfl⟩) rfl (by decide) rfl ?_
  exact n_vret B 45 rfl hQ ⟨rfl, rfl, rfl⟩
def bN1 (cI cZ cJ : ClassId) : List va_E := (.inr (1, [.ref 1, .ref 8]) :: (([] : List va_E) ++ (bN5 cI cZ cJ).map (she 1) ++ (bN2 cI cZ cJ).map (she 8)))
theorem bN1_len (cI cZ cJ : ClassId) : (bN1 cI cZ cJ).length = 19 := by
  unfold bN1
  simp only [List.length_cons, List.length_append, List.length_map, List.length_nil, bN5_len, bN2_len]
def tbN1 : Tb := [(0, .aload_n 0, 1, 1), (1, .invokespecial 1, 3, 4), (4, .aload_n 0, 1, 5), (5, .new 7, 3, 8), (8, .dup, 1, 9), (9, .invokespecial 9, 3, 12), (12, .putfield 10, 3, 15), (15, .aload_n 0, 1, 16), (16, .new 16, 3, 19), (19, .dup, 1, 20), (20, .invokespecial 18, 3, 23), (23, .putfield 19, 3, 26), (26, .return_, 1, 27)]
theorem dtN1 : ∀ q ∈ tbN1, decode cX1_init q.1 = .ok (q.2.1, q.2.2.1) ∧ q.1 + q.2.2.1 = q.2.2.2 := by decide +kernel
theorem miN1 : MI yX1_init cX1_init 1 none 0 := ⟨tw_mem (List.mem_of_getElem? (i := 60) (by decide +kernel)) rfl, by decide, by decide +kernel, tw_mem (List.mem_of_getElem? (i := 16) (by decide +kernel)) rfl⟩
abbrev rmN1 : Room := { frames := 2, cells := 18, slots := 251, locals := 52 }
def wN1 : List Cond := [.methodLink "ZoneCapacity$Market" 1 Lib.objectInit, .instanceMethod Lib.objectInit, .code Lib.objectInit ⟨#[0xb1]⟩ 1 none, .classLink "ZoneCapacity$Market" 7 "ZoneCapacity$Zones", .instantiable "ZoneCapacity$Zones" 7, .initialized "ZoneCapacity$Zones", .instanceMethod yX5_init, .fieldLink "ZoneCapacity$Market" 10 "ZoneCapacity$Market" "zones" "LZoneCapacity$Zones;", .classLink "ZoneCapacity$Market" 16 "ZoneCapacity$Offers", .instantiable "ZoneCapacity$Offers" 12, .initialized "ZoneCapacity$Offers", .instanceMethod yX2_init, .fieldLink "ZoneCapacity$Market" 19 "ZoneCapacity$Market" "offers" "LZoneCapacity$Offers;"]
theorem iN1 : ∀ w ∈ wN1, w ∈ TW := tw_of (ids := [61, 48, 49, 62, 63, 17, 65, 149, 99, 100, 18, 102, 152]) (by decide +kernel)
set_option maxHeartbeats 8000000 in
theorem ctN1 {l : Launch} {D : va_G} {cI cZ cJ : ClassId} : CtN l D cI cZ cJ yX1_init cX1_init 1 2 52 (.inr (1, [.null, .null])) (bN1 cI cZ cJ) 18 251 := by
  refine CtN.of (tb := tbN1) (by decide) miN1.1 rfl dtN1 (by decide) ?_
  intro E B hQ hR0 hL hI
  refine n_aload_n B 0 rfl 0 0 rfl rfl ?_
  refine n_obj hR0 B 1 rfl ⟨(iN1 _ (List.mem_of_getElem? (i := 0) rfl)), (iN1 _ (List.mem_of_getElem? (i := 1) rfl)), (iN1 _ (List.mem_of_getElem? (i := 2) rfl))⟩ ⟨Nat.le_of_ble_eq_true rfl, Nat.le_of_ble_eq_true rfl⟩ (Nat.le_of_ble_eq_true rfl) ?_
  refine n_aload_n B 2 rfl 0 0 rfl rfl ?_
  refine n_new 5 1 [.int 0, .null, .null, .null, .null, .null, .null] (.inr (1, [.null, .null]) :: (([] : List va_E) ++ [.inr (5, [.int 0, .null, .null, .null, .null, .null, .null])])) 2 1 7 hR0 B 3 rfl rfl ⟨(iN1 _ (List.mem_of_getElem? (i := 3) rfl)), (iN1 _ (List.mem_of_getElem? (i := 4) rfl)), (iN1 _ (List.mem_of_getElem? (i := 5) rfl))⟩ ⟨rfl, rfl⟩ rfl (by decide +kernel) (fun _ => rfl) ⟨rfl, rfl, Nat.le_of_ble_eq_true rfl, Nat.le_of_ble_eq_true rfl⟩ ?_
  refine n_dup B 4 rfl rfl ?_
  refine n_callN 1 (.inr (1, [.null, .null]) :: (([] : List va_E))) (.inr (1, [.null, .null]) :: (([] : List va_E) ++ (bN5 cI cZ cJ).map (she 1))) 8 7 79 hR0 hL B 5 rfl miN5 (List.mem_of_getElem? (i := 2) rfl) (iN1 _ (List.mem_of_getElem? (i := 6) rfl)) rfl (ctN5) ⟨Nat.le_of_ble_eq_true rfl, Nat.le_of_ble_eq_true rfl, rfl, rfl, Nat.le_of_ble_eq_true rfl, Nat.le_of_ble_eq_true rfl⟩ rfl 7 ⟨rfl, bN5_len cI cZ cJ, rfl⟩ (fun _ => rfl) rfl (Nat.le_of_ble_eq_true rfl) ?_
  refine n_putF 1 0 0 (.inr (1, [.ref 1, .null]) :: (([] : List va_E) ++ (bN5 cI cZ cJ).map (she 1))) B 6 rfl (iN1 _ (List.mem_of_getElem? (i := 7) rfl)) rfl (ty := .object "ZoneCapacity$Zones") (by decide) rfl hI rfl (fun _ => ⟨rfl, rfl⟩) rfl (by decide) rfl ?_
  refine n_aload_n B 7 rfl 0 0 rfl rfl ?_
  refine n_new 2 8 [.int 0, .int 0, .null, .null, .null, .null, .null, .null, .null, .null, .null, .null] (.inr (1, [.ref 1, .null]) :: (([] : List va_E) ++ (bN5 cI cZ cJ).map (she 1) ++ [.inr (2, [.int 0, .int 0, .null, .null, .null, .null, .null, .null, .null, .null, .null, .null])])) 9 8 91 hR0 B 8 rfl rfl ⟨(iN1 _ (List.mem_of_getElem? (i := 8) rfl)), (iN1 _ (List.mem_of_getElem? (i := 9) rfl)), (iN1 _ (List.mem_of_getElem? (i := 10) rfl))⟩ ⟨rfl, rfl⟩ rfl (by decide +kernel) (fun _ => rfl) ⟨rfl, rfl, Nat.le_of_ble_eq_true rfl, Nat.le_of_ble_eq_true rfl⟩ ?_
  refine n_dup B 9 rfl rfl ?_
  refine n_callN 8 (.inr (1, [.ref 1, .null]) :: (([] : List va_E) ++ (bN5 cI cZ cJ).map (she 1))) (.inr (1, [.ref 1, .null]) :: (([] : List va_E) ++ (bN5 cI cZ cJ).map (she 1) ++ (bN2 cI cZ cJ).map (she 8))) 19 18 251 hR0 hL B 10 rfl miN2 (List.mem_of_getElem? (i := 3) rfl) (iN1 _ (List.mem_of_getElem? (i := 11) rfl)) rfl (ctN2) ⟨Nat.le_of_ble_eq_true rfl, Nat.le_of_ble_eq_true rfl, rfl, rfl, Nat.le_of_ble_eq_true rfl, Nat.le_of_ble_eq_true rfl⟩ rfl 11 ⟨rfl, bN2_len cI cZ cJ, rfl⟩ (fun _ => rfl) rfl (Nat.le_of_ble_eq_true rfl) ?_
  refine n_putF 1 1 0 (.inr (1, [.ref 1, .ref 8]) :: (([] : List va_E) ++ (bN5 cI cZ cJ).map (she 1) ++ (bN2 cI cZ cJ).map (she 8))) B 11 rfl (iN1 _ (List.mem_of_getElem? (i := 12) rfl)) rfl (ty := .object "ZoneCapacity$Offers") (by decide) rfl hI rfl (fun _ => ⟨rfl, rfl⟩) rfl (by decide) rfl ?_
  exact n_vret B 12 rfl hQ ⟨rfl, rfl, rfl⟩
def bN0 (cI cZ cJ : ClassId) : List va_E := (.inr (0, [.ref 1, .ref 20, .ref 21, .ref 22, .ref 23, .ref 24, .ref 25, .ref 26, .ref 27, .ref 28, .int 0, .int 0]) :: (([] : List va_E) ++ (bN1 cI cZ cJ).map (she 1) ++ [.inl (cI, 6, .inl (fun _ => 0))] ++ [.inl (cI, 6, .inl (fun _ => 0))] ++ [.inl (cI, 6, .inl (fun _ => 0))] ++ [.inl (cI, 48, .inl (fun _ => 0))] ++ [.inl (cI, 48, .inl (fun _ => 0))] ++ [.inl (cI, 48, .inl (fun _ => 0))] ++ [.inl (cI, 6, .inl (fun _ => 0))] ++ [.inl (cI, 6, .inl (fun _ => 0))] ++ [.inl (cI, 6, .inl (fun _ => 0))]))
theorem bN0_len (cI cZ cJ : ClassId) : (bN0 cI cZ cJ).length = 29 := by
  unfold bN0
  simp only [List.length_cons, List.length_append, List.length_map, List.length_nil, bN5_len, bN2_len, bN1_len]
def tbN0 : Tb := [(0, .aload_n 0, 1, 1), (1, .invokespecial 3, 3, 4), (4, .aload_n 0, 1, 5), (5, .new 9, 3, 8), (8, .dup, 1, 9), (9, .invokespecial 11, 3, 12), (12, .putfield 12, 3, 15), (15, .aload_n 0, 1, 16), (16, .bipush 6, 2, 18), (18, .newarray .int, 2, 20), (20, .putfield 18, 3, 23), (23, .aload_n 0, 1, 24), (24, .bipush 6, 2, 26), (26, .newarray .int, 2, 28), (28, .putfield 22, 3, 31), (31, .aload_n 0, 1, 32), (32, .bipush 6, 2, 34), (34, .newarray .int, 2, 36), (36, .putfield 25, 3, 39), (39, .aload_n 0, 1, 40), (40, .bipush 48, 2, 42), (42, .newarray .int, 2, 44), (44, .putfield 28, 3, 47), (47, .aload_n 0, 1, 48), (48, .bipush 48, 2, 50), (50, .newarray .int, 2, 52), (52, .putfield 31, 3, 55), (55, .aload_n 0, 1, 56), (56, .bipush 48, 2, 58), (58, .newarray .int, 2, 60), (60, .putfield 34, 3, 63), (63, .aload_n 0, 1, 64), (64, .bipush 6, 2, 66), (66, .newarray .int, 2, 68), (68, .putfield 37, 3, 71), (71, .aload_n 0, 1, 72), (72, .bipush 6, 2, 74), (74, .newarray .int, 2, 76), (76, .putfield 40, 3, 79), (79, .aload_n 0, 1, 80), (80, .bipush 6, 2, 82), (82, .newarray .int, 2, 84), (84, .putfield 43, 3, 87), (87, .return_, 1, 88)]
theorem dtN0 : ∀ q ∈ tbN0, decode cX0_init q.1 = .ok (q.2.1, q.2.2.1) ∧ q.1 + q.2.2.1 = q.2.2.2 := by decide +kernel
theorem miN0 : MI yX0_init cX0_init 1 none 0 := ⟨tw_mem (List.mem_of_getElem? (i := 54) (by decide +kernel)) rfl, by decide, by decide +kernel, tw_mem (List.mem_of_getElem? (i := 15) (by decide +kernel)) rfl⟩
abbrev rmN0 : Room := { frames := 3, cells := 28, slots := 433, locals := 72 }
def wN0 : List Cond := [.methodLink "ZoneCapacity$Auction" 3 Lib.objectInit, .instanceMethod Lib.objectInit, .code Lib.objectInit ⟨#[0xb1]⟩ 1 none, .classLink "ZoneCapacity$Auction" 9 "ZoneCapacity$Market", .instantiable "ZoneCapacity$Market" 2, .initialized "ZoneCapacity$Market", .instanceMethod yX1_init, .fieldLink "ZoneCapacity$Auction" 12 "ZoneCapacity$Auction" "market" "LZoneCapacity$Market;", .arrayClass .int, .fieldLink "ZoneCapacity$Auction" 18 "ZoneCapacity$Auction" "prices" "[I", .fieldLink "ZoneCapacity$Auction" 22 "ZoneCapacity$Auction" "nets" "[I", .fieldLink "ZoneCapacity$Auction" 25 "ZoneCapacity$Auction" "servedUnits" "[I", .fieldLink "ZoneCapacity$Auction" 28 "ZoneCapacity$Auction" "takenUnits" "[I", .fieldLink "ZoneCapacity$Auction" 31 "ZoneCapacity$Auction" "units" "[I", .fieldLink "ZoneCapacity$Auction" 34 "ZoneCapacity$Auction" "its" "[I", .fieldLink "ZoneCapacity$Auction" 37 "ZoneCapacity$Auction" "levels" "[I", .fieldLink "ZoneCapacity$Auction" 40 "ZoneCapacity$Auction" "lows" "[I", .fieldLink "ZoneCapacity$Auction" 43 "ZoneCapacity$Auction" "highs" "[I"]
theorem iN0 : ∀ w ∈ wN0, w ∈ TW := tw_of (ids := [55, 48, 49, 56, 57, 16, 59, 160, 98, 162, 164, 166, 168, 170, 171, 172, 173, 174]) (by decide +kernel)
set_option maxHeartbeats 8000000 in
theorem ctN0 {l : Launch} {D : va_G} {cI cZ cJ : ClassId} : CtN l D cI cZ cJ yX0_init cX0_init 1 3 72 (.inr (0, [.null, .null, .null, .null, .null, .null, .null, .null, .null, .null, .int 0, .int 0])) (bN0 cI cZ cJ) 28 433 := by
  refine CtN.of (tb := tbN0) (by decide) miN0.1 rfl dtN0 (by decide) ?_
  intro E B hQ hR0 hL hI
  refine n_aload_n B 0 rfl 0 0 rfl rfl ?_
  refine n_obj hR0 B 1 rfl ⟨(iN0 _ (List.mem_of_getElem? (i := 0) rfl)), (iN0 _ (List.mem_of_getElem? (i := 1) rfl)), (iN0 _ (List.mem_of_getElem? (i := 2) rfl))⟩ ⟨Nat.le_of_ble_eq_true rfl, Nat.le_of_ble_eq_true rfl⟩ (Nat.le_of_ble_eq_true rfl) ?_
  refine n_aload_n B 2 rfl 0 0 rfl rfl ?_
  refine n_new 1 1 [.null, .null] (.inr (0, [.null, .null, .null, .null, .null, .null, .null, .null, .null, .null, .int 0, .int 0]) :: (([] : List va_E) ++ [.inr (1, [.null, .null])])) 2 1 2 hR0 B 3 rfl rfl ⟨(iN0 _ (List.mem_of_getElem? (i := 3) rfl)), (iN0 _ (List.mem_of_getElem? (i := 4) rfl)), (iN0 _ (List.mem_of_getElem? (i := 5) rfl))⟩ ⟨rfl, rfl⟩ rfl (by decide +kernel) (fun _ => rfl) ⟨rfl, rfl, Nat.le_of_ble_eq_true rfl, Nat.le_of_ble_eq_true rfl⟩ ?_
  refine n_dup B 4 rfl rfl ?_
  refine n_callN 1 (.inr (0, [.null, .null, .null, .null, .null, .null, .null, .null, .null, .null, .int 0, .int 0]) :: (([] : List va_E))) (.inr (0, [.null, .null, .null, .null, .null, .null, .null, .null, .null, .null, .int 0, .int 0]) :: (([] : List va_E) ++ (bN1 cI cZ cJ).map (she 1))) 20 19 253 hR0 hL B 5 rfl miN1 (List.mem_of_getElem? (i := 1) rfl) (iN0 _ (List.mem_of_getElem? (i := 6) rfl)) rfl (ctN1) ⟨Nat.le_of_ble_eq_true rfl, Nat.le_of_ble_eq_true rfl, rfl, rfl, Nat.le_of_ble_eq_true rfl, Nat.le_of_ble_eq_true rfl⟩ rfl 19 ⟨rfl, bN1_len cI cZ cJ, rfl⟩ (fun _ => rfl) rfl (Nat.le_of_ble_eq_true rfl) ?_
  refine n_putF 0 0 0 (.inr (0, [.ref 1, .null, .null, .null, .null, .null, .null, .null, .null, .null, .int 0, .int 0]) :: (([] : List va_E) ++ (bN1 cI cZ cJ).map (she 1))) B 6 rfl (iN0 _ (List.mem_of_getElem? (i := 7) rfl)) rfl (ty := .object "ZoneCapacity$Market") (by decide) rfl hI rfl (fun _ => ⟨rfl, rfl⟩) rfl (by decide) rfl ?_
  refine n_aload_n B 7 rfl 0 0 rfl rfl ?_
  refine n_bipush (6) B 8 rfl (by decide) ?_
  refine n_newaI 6 20 (.inr (0, [.ref 1, .null, .null, .null, .null, .null, .null, .null, .null, .null, .int 0, .int 0]) :: (([] : List va_E) ++ (bN1 cI cZ cJ).map (she 1) ++ [.inl (cI, 6, .inl (fun _ => 0))])) 21 20 259 hR0 hL B 9 rfl (iN0 _ (List.mem_of_getElem? (i := 8) rfl)) ⟨by decide, by decide, by decide⟩ ⟨rfl, rfl⟩ rfl ⟨rfl, rfl, Nat.le_of_ble_eq_true rfl, Nat.le_of_ble_eq_true rfl⟩ ?_
  refine n_putF 0 1 0 (.inr (0, [.ref 1, .ref 20, .null, .null, .null, .null, .null, .null, .null, .null, .int 0, .int 0]) :: (([] : List va_E) ++ (bN1 cI cZ cJ).map (she 1) ++ [.inl (cI, 6, .inl (fun _ => 0))])) B 10 rfl (iN0 _ (List.mem_of_getElem? (i := 9) rfl)) rfl (ty := .array .int) (by decide) rfl hI rfl (fun _ => ⟨rfl, rfl⟩) rfl (by decide) rfl ?_
  refine n_aload_n B 11 rfl 0 0 rfl rfl ?_
  refine n_bipush (6) B 12 rfl (by decide) ?_
  refine n_newaI 6 21 (.inr (0, [.ref 1, .ref 20, .null, .null, .null, .null, .null, .null, .null, .null, .int 0, .int 0]) :: (([] : List va_E) ++ (bN1 cI cZ cJ).map (she 1) ++ [.inl (cI, 6, .inl (fun _ => 0))] ++ [.inl (cI, 6, .inl (fun _ => 0))])) 22 21 265 hR0 hL B 13 rfl (iN0 _ (List.mem_of_getElem? (i := 8) rfl)) ⟨by decide, by decide, by decide⟩ ⟨rfl, rfl⟩ rfl ⟨rfl, rfl, Nat.le_of_ble_eq_true rfl, Nat.le_of_ble_eq_true rfl⟩ ?_
  refine n_putF 0 2 0 (.inr (0, [.ref 1, .ref 20, .ref 21, .null, .null, .null, .null, .null, .null, .null, .int 0, .int 0]) :: (([] : List va_E) ++ (bN1 cI cZ cJ).map (she 1) ++ [.inl (cI, 6, .inl (fun _ => 0))] ++ [.inl (cI, 6, .inl (fun _ => 0))])) B 14 rfl (iN0 _ (List.mem_of_getElem? (i := 10) rfl)) rfl (ty := .array .int) (by decide) rfl hI rfl (fun _ => ⟨rfl, rfl⟩) rfl (by decide) rfl ?_
  refine n_aload_n B 15 rfl 0 0 rfl rfl ?_
  refine n_bipush (6) B 16 rfl (by decide) ?_
  refine n_newaI 6 22 (.inr (0, [.ref 1, .ref 20, .ref 21, .null, .null, .null, .null, .null, .null, .null, .int 0, .int 0]) :: (([] : List va_E) ++ (bN1 cI cZ cJ).map (she 1) ++ [.inl (cI, 6, .inl (fun _ => 0))] ++ [.inl (cI, 6, .inl (fun _ => 0))] ++ [.inl (cI, 6, .inl (fun _ => 0))])) 23 22 271 hR0 hL B 17 rfl (iN0 _ (List.mem_of_getElem? (i := 8) rfl)) ⟨by decide, by decide, by decide⟩ ⟨rfl, rfl⟩ rfl ⟨rfl, rfl, Nat.le_of_ble_eq_true rfl, Nat.le_of_ble_eq_true rfl⟩ ?_
  refine n_putF 0 3 0 (.inr (0, [.ref 1, .ref 20, .ref 21, .ref 22, .null, .null, .null, .null, .null, .null, .int 0, .int 0]) :: (([] : List va_E) ++ (bN1 cI cZ cJ).map (she 1) ++ [.inl (cI, 6, .inl (fun _ => 0))] ++ [.inl (cI, 6, .inl (fun _ => 0))] ++ [.inl (cI, 6, .inl (fun _ => 0))])) B 18 rfl (iN0 _ (List.mem_of_getElem? (i := 11) rfl)) rfl (ty := .array .int) (by decide) rfl hI rfl (fun _ => ⟨rfl, rfl⟩) rfl (by decide) rfl ?_
  refine n_aload_n B 19 rfl 0 0 rfl rfl ?_
  refine n_bipush (48) B 20 rfl (by decide) ?_
  refine n_newaI 48 23 (.inr (0, [.ref 1, .ref 20, .ref 21, .ref 22, .null, .null, .null, .null, .null, .null, .int 0, .int 0]) :: (([] : List va_E) ++ (bN1 cI cZ cJ).map (she 1) ++ [.inl (cI, 6, .inl (fun _ => 0))] ++ [.inl (cI, 6, .inl (fun _ => 0))] ++ [.inl (cI, 6, .inl (fun _ => 0))] ++ [.inl (cI, 48, .inl (fun _ => 0))])) 24 23 319 hR0 hL B 21 rfl (iN0 _ (List.mem_of_getElem? (i := 8) rfl)) ⟨by decide, by decide, by decide⟩ ⟨rfl, rfl⟩ rfl ⟨rfl, rfl, Nat.le_of_ble_eq_true rfl, Nat.le_of_ble_eq_true rfl⟩ ?_
  refine n_putF 0 4 0 (.inr (0, [.ref 1, .ref 20, .ref 21, .ref 22, .ref 23, .null, .null, .null, .null, .null, .int 0, .int 0]) :: (([] : List va_E) ++ (bN1 cI cZ cJ).map (she 1) ++ [.inl (cI, 6, .inl (fun _ => 0))] ++ [.inl (cI, 6, .inl (fun _ => 0))] ++ [.inl (cI, 6, .inl (fun _ => 0))] ++ [.inl (cI, 48, .inl (fun _ => 0))])) B 22 rfl (iN0 _ (List.mem_of_getElem? (i := 12) rfl)) rfl (ty := .array .int) (by decide) rfl hI rfl (fun _ => ⟨rfl, rfl⟩) rfl (by decide) rfl ?_
  refine n_aload_n B 23 rfl 0 0 rfl rfl ?_
  refine n_bipush (48) B 24 rfl (by decide) ?_
  refine n_newaI 48 24 (.inr (0, [.ref 1, .ref 20, .ref 21, .ref 22, .ref 23, .null, .null, .null, .null, .null, .int 0, .int 0]) :: (([] : List va_E) ++ (bN1 cI cZ cJ).map (she 1) ++ [.inl (cI, 6, .inl (fun _ => 0))] ++ [.inl (cI, 6, .inl (fun _ => 0))] ++ [.inl (cI, 6, .inl (fun _ => 0))] ++ [.inl (cI, 48, .inl (fun _ => 0))] ++ [.inl (cI, 48, .inl (fun _ => 0))])) 25 24 367 hR0 hL B 25 rfl (iN0 _ (List.mem_of_getElem? (i := 8) rfl)) ⟨by decide, by decide, by decide⟩ ⟨rfl, rfl⟩ rfl ⟨rfl, rfl, Nat.le_of_ble_eq_true rfl, Nat.le_of_ble_eq_true rfl⟩ ?_
  refine n_putF 0 5 0 (.inr (0, [.ref 1, .ref 20, .ref 21, .ref 22, .ref 23, .ref 24, .null, .null, .null, .null, .int 0, .int 0]) :: (([] : List va_E) ++ (bN1 cI cZ cJ).map (she 1) ++ [.inl (cI, 6, .inl (fun _ => 0))] ++ [.inl (cI, 6, .inl (fun _ => 0))] ++ [.inl (cI, 6, .inl (fun _ => 0))] ++ [.inl (cI, 48, .inl (fun _ => 0))] ++ [.inl (cI, 48, .inl (fun _ => 0))])) B 26 rfl (iN0 _ (List.mem_of_getElem? (i := 13) rfl)) rfl (ty := .array .int) (by decide) rfl hI rfl (fun _ => ⟨rfl, rfl⟩) rfl (by decide) rfl ?_
  refine n_aload_n B 27 rfl 0 0 rfl rfl ?_
  refine n_bipush (48) B 28 rfl (by decide) ?_
  refine n_newaI 48 25 (.inr (0, [.ref 1, .ref 20, .ref 21, .ref 22, .ref 23, .ref 24, .null, .null, .null, .null, .int 0, .int 0]) :: (([] : List va_E) ++ (bN1 cI cZ cJ).map (she 1) ++ [.inl (cI, 6, .inl (fun _ => 0))] ++ [.inl (cI, 6, .inl (fun _ => 0))] ++ [.inl (cI, 6, .inl (fun _ => 0))] ++ [.inl (cI, 48, .inl (fun _ => 0))] ++ [.inl (cI, 48, .inl (fun _ => 0))] ++ [.inl (cI, 48, .inl (fun _ => 0))])) 26 25 415 hR0 hL B 29 rfl (iN0 _ (List.mem_of_getElem? (i := 8) rfl)) ⟨by decide, by decide, by decide⟩ ⟨rfl, rfl⟩ rfl ⟨rfl, rfl, Nat.le_of_ble_eq_true rfl, Nat.le_of_ble_eq_true rfl⟩ ?_
  refine n_putF 0 6 0 (.inr (0, [.ref 1, .ref 20, .ref 21, .ref 22, .ref 23, .ref 24, .ref 25, .null, .null, .null, .int 0, .int 0]) :: (([] : List va_E) ++ (bN1 cI cZ cJ).map (she 1) ++ [.inl (cI, 6, .inl (fun _ => 0))] ++ [.inl (cI, 6, .inl (fun _ => 0))] ++ [.inl (cI, 6, .inl (fun _ => 0))] ++ [.inl (cI, 48, .inl (fun _ => 0))] ++ [.inl (cI, 48, .inl (fun _ => 0))] ++ [.inl (cI, 48, .inl (fun _ => 0))])) B 30 rfl (iN0 _ (List.mem_of_getElem? (i := 14) rfl)) rfl (ty := .array .int) (by decide) rfl hI rfl (fun _ => ⟨rfl, rfl⟩) rfl (by decide) rfl ?_
  refine n_aload_n B 31 rfl 0 0 rfl rfl ?_
  refine n_bipush (6) B 32 rfl (by decide) ?_
  refine n_newaI 6 26 (.inr (0, [.ref 1, .ref 20, .ref 21, .ref 22, .ref 23, .ref 24, .ref 25, .null, .null, .null, .int 0, .int 0]) :: (([] : List va_E) ++ (bN1 cI cZ cJ).map (she 1) ++ [.inl (cI, 6, .inl (fun _ => 0))] ++ [.inl (cI, 6, .inl (fun _ => 0))] ++ [.inl (cI, 6, .inl (fun _ => 0))] ++ [.inl (cI, 48, .inl (fun _ => 0))] ++ [.inl (cI, 48, .inl (fun _ => 0))] ++ [.inl (cI, 48, .inl (fun _ => 0))] ++ [.inl (cI, 6, .inl (fun _ => 0))])) 27 26 421 hR0 hL B 33 rfl (iN0 _ (List.mem_of_getElem? (i := 8) rfl)) ⟨by decide, by decide, by decide⟩ ⟨rfl, rfl⟩ rfl ⟨rfl, rfl, Nat.le_of_ble_eq_true rfl, Nat.le_of_ble_eq_true rfl⟩ ?_
  refine n_putF 0 7 0 (.inr (0, [.ref 1, .ref 20, .ref 21, .ref 22, .ref 23, .ref 24, .ref 25, .ref 26, .null, .null, .int 0, .int 0]) :: (([] : List va_E) ++ (bN1 cI cZ cJ).map (she 1) ++ [.inl (cI, 6, .inl (fun _ => 0))] ++ [.inl (cI, 6, .inl (fun _ => 0))] ++ [.inl (cI, 6, .inl (fun _ => 0))] ++ [.inl (cI, 48, .inl (fun _ => 0))] ++ [.inl (cI, 48, .inl (fun _ => 0))] ++ [.inl (cI, 48, .inl (fun _ => 0))] ++ [.inl (cI, 6, .inl (fun _ => 0))])) B 34 rfl (iN0 _ (List.mem_of_getElem? (i := 15) rfl)) rfl (ty := .array .int) (by decide) rfl hI rfl (fun _ => ⟨rfl, rfl⟩) rfl (by decide) rfl ?_
  refine n_aload_n B 35 rfl 0 0 rfl rfl ?_
  refine n_bipush (6) B 36 rfl (by decide) ?_
  refine n_newaI 6 27 (.inr (0, [.ref 1, .ref 20, .ref 21, .ref 22, .ref 23, .ref 24, .ref 25, .ref 26, .null, .null, .int 0, .int 0]) :: (([] : List va_E) ++ (bN1 cI cZ cJ).map (she 1) ++ [.inl (cI, 6, .inl (fun _ => 0))] ++ [.inl (cI, 6, .inl (fun _ => 0))] ++ [.inl (cI, 6, .inl (fun _ => 0))] ++ [.inl (cI, 48, .inl (fun _ => 0))] ++ [.inl (cI, 48, .inl (fun _ => 0))] ++ [.inl (cI, 48, .inl (fun _ => 0))] ++ [.inl (cI, 6, .inl (fun _ => 0))] ++ [.inl (cI, 6, .inl (fun _ => 0))])) 28 27 427 hR0 hL B 37 rfl (iN0 _ (List.mem_of_getElem? (i := 8) rfl)) ⟨by decide, by decide, by decide⟩ ⟨rfl, rfl⟩ rfl ⟨rfl, rfl, Nat.le_of_ble_eq_true rfl, Nat.le_of_ble_eq_true rfl⟩ ?_
  refine n_putF 0 8 0 (.inr (0, [.ref 1, .ref 20, .ref 21, .ref 22, .ref 23, .ref 24, .ref 25, .ref 26, .ref 27, .null, .int 0, .int 0]) :: (([] : List va_E) ++ (bN1 cI cZ cJ).map (she 1) ++ [.inl (cI, 6, .inl (fun _ => 0))] ++ [.inl (cI, 6, .inl (fun _ => 0))] ++ [.inl (cI, 6, .inl (fun _ => 0))] ++ [.inl (cI, 48, .inl (fun _ => 0))] ++ [.inl (cI, 48, .inl (fun _ => 0))] ++ [.inl (cI, 48, .inl (fun _ => 0))] ++ [.inl (cI, 6, .inl (fun _ => 0))] ++ [.inl (cI, 6, .inl (fun _ => 0))])) B 38 rfl (iN0 _ (List.mem_of_getElem? (i := 16) rfl)) rfl (ty := .array .int) (by decide) rfl hI rfl (fun _ => ⟨rfl, rfl⟩) rfl (by decide) rfl ?_
  refine n_aload_n B 39 rfl 0 0 rfl rfl ?_
  refine n_bipush (6) B 40 rfl (by decide) ?_
  refine n_newaI 6 28 (.inr (0, [.ref 1, .ref 20, .ref 21, .ref 22, .ref 23, .ref 24, .ref 25, .ref 26, .ref 27, .null, .int 0, .int 0]) :: (([] : List va_E) ++ (bN1 cI cZ cJ).map (she 1) ++ [.inl (cI, 6, .inl (fun _ => 0))] ++ [.inl (cI, 6, .inl (fun _ => 0))] ++ [.inl (cI, 6, .inl (fun _ => 0))] ++ [.inl (cI, 48, .inl (fun _ => 0))] ++ [.inl (cI, 48, .inl (fun _ => 0))] ++ [.inl (cI, 48, .inl (fun _ => 0))] ++ [.inl (cI, 6, .inl (fun _ => 0))] ++ [.inl (cI, 6, .inl (fun _ => 0))] ++ [.inl (cI, 6, .inl (fun _ => 0))])) 29 28 433 hR0 hL B 41 rfl (iN0 _ (List.mem_of_getElem? (i := 8) rfl)) ⟨by decide, by decide, by decide⟩ ⟨rfl, rfl⟩ rfl ⟨rfl, rfl, Nat.le_of_ble_eq_true rfl, Nat.le_of_ble_eq_true rfl⟩ ?_
  refine n_putF 0 9 0 (.inr (0, [.ref 1, .ref 20, .ref 21, .ref 22, .ref 23, .ref 24, .ref 25, .ref 26, .ref 27, .ref 28, .int 0, .int 0]) :: (([] : List va_E) ++ (bN1 cI cZ cJ).map (she 1) ++ [.inl (cI, 6, .inl (fun _ => 0))] ++ [.inl (cI, 6, .inl (fun _ => 0))] ++ [.inl (cI, 6, .inl (fun _ => 0))] ++ [.inl (cI, 48, .inl (fun _ => 0))] ++ [.inl (cI, 48, .inl (fun _ => 0))] ++ [.inl (cI, 48, .inl (fun _ => 0))] ++ [.inl (cI, 6, .inl (fun _ => 0))] ++ [.inl (cI, 6, .inl (fun _ => 0))] ++ [.inl (cI, 6, .inl (fun _ => 0))])) B 42 rfl (iN0 _ (List.mem_of_getElem? (i := 17) rfl)) rfl (ty := .array .int) (by decide) rfl hI rfl (fun _ => ⟨rfl, rfl⟩) rfl (by decide) rfl ?_
  exact n_vret B 43 rfl hQ ⟨rfl, rfl, rfl⟩
def bN3 (cI cZ cJ : ClassId) : List va_E := (.inr (3, [.ref 1, .int 0]) :: (([] : List va_E) ++ [.inl (cI, 500, .inl (fun _ => 0))]))
theorem bN3_len (cI cZ cJ : ClassId) : (bN3 cI cZ cJ).length = 2 := by
  unfold bN3
  simp only [List.length_cons, List.length_append, List.length_map, List.length_nil, bN5_len, bN2_len, bN1_len, bN0_len]
def tbN3 : Tb := [(0, .aload_n 0, 1, 1), (1, .invokespecial 3, 3, 4), (4, .aload_n 0, 1, 5), (5, .sipush 500, 3, 8), (8, .newarray .int, 2, 10), (10, .putfield 9, 3, 13), (13, .return_, 1, 14)]
theorem dtN3 : ∀ q ∈ tbN3, decode cX3_init q.1 = .ok (q.2.1, q.2.2.1) ∧ q.1 + q.2.2.1 = q.2.2.2 := by decide +kernel
theorem miN3 : MI yX3_init cX3_init 1 none 0 := ⟨tw_mem (List.mem_of_getElem? (i := 212) (by decide +kernel)) rfl, by decide, by decide +kernel, tw_mem (List.mem_of_getElem? (i := 20) (by decide +kernel)) rfl⟩
abbrev rmN3 : Room := { frames := 1, cells := 1, slots := 500, locals := 32 }
def wN3 : List Cond := [.methodLink "ZoneCapacity$Tape" 3 Lib.objectInit, .instanceMethod Lib.objectInit, .code Lib.objectInit ⟨#[0xb1]⟩ 1 none, .arrayClass .int, .fieldLink "ZoneCapacity$Tape" 9 "ZoneCapacity$Tape" "bytes" "[I"]
theorem iN3 : ∀ w ∈ wN3, w ∈ TW := tw_of (ids := [213, 48, 49, 98, 214]) (by decide +kernel)
set_option maxHeartbeats 8000000 in
theorem ctN3 {l : Launch} {D : va_G} {cI cZ cJ : ClassId} : CtN l D cI cZ cJ yX3_init cX3_init 1 1 32 (.inr (3, [.null, .int 0])) (bN3 cI cZ cJ) 1 500 := by
  refine CtN.of (tb := tbN3) (by decide) miN3.1 rfl dtN3 (by decide) ?_
  intro E B hQ hR0 hL hI
  refine n_aload_n B 0 rfl 0 0 rfl rfl ?_
  refine n_obj hR0 B 1 rfl ⟨(iN3 _ (List.mem_of_getElem? (i := 0) rfl)), (iN3 _ (List.mem_of_getElem? (i := 1) rfl)), (iN3 _ (List.mem_of_getElem? (i := 2) rfl))⟩ ⟨Nat.le_of_ble_eq_true rfl, Nat.le_of_ble_eq_true rfl⟩ (Nat.le_of_ble_eq_true rfl) ?_
  refine n_aload_n B 2 rfl 0 0 rfl rfl ?_
  refine n_sipush (500) B 3 rfl (by decide) ?_
  refine n_newaI 500 1 (.inr (3, [.null, .int 0]) :: (([] : List va_E) ++ [.inl (cI, 500, .inl (fun _ => 0))])) 2 1 500 hR0 hL B 4 rfl (iN3 _ (List.mem_of_getElem? (i := 3) rfl)) ⟨by decide, by decide, by decide⟩ ⟨rfl, rfl⟩ rfl ⟨rfl, rfl, Nat.le_of_ble_eq_true rfl, Nat.le_of_ble_eq_true rfl⟩ ?_
  refine n_putF 3 0 0 (.inr (3, [.ref 1, .int 0]) :: (([] : List va_E) ++ [.inl (cI, 500, .inl (fun _ => 0))])) B 5 rfl (iN3 _ (List.mem_of_getElem? (i := 4) rfl)) rfl (ty := .array .int) (by decide) rfl hI rfl (fun _ => ⟨rfl, rfl⟩) rfl (by decide) rfl ?_
  exact n_vret B 6 rfl hQ ⟨rfl, rfl, rfl⟩
def bN4 (cI cZ cJ : ClassId) : List va_E := (.inr (4, [.ref 1, .ref 3, .int 0, .int 0, .int 0, .int 0, .int 0, .int 0]) :: (([] : List va_E) ++ (bN3 cI cZ cJ).map (she 1) ++ (bN1 cI cZ cJ).map (she 3)))
theorem bN4_len (cI cZ cJ : ClassId) : (bN4 cI cZ cJ).length = 22 := by
  unfold bN4
  simp only [List.length_cons, List.length_append, List.length_map, List.length_nil, bN5_len, bN2_len, bN1_len, bN0_len, bN3_len]
def tbN4 : Tb := [(0, .aload_n 0, 1, 1), (1, .invokespecial 3, 3, 4), (4, .aload_n 0, 1, 5), (5, .new 9, 3, 8), (8, .dup, 1, 9), (9, .invokespecial 11, 3, 12), (12, .putfield 12, 3, 15), (15, .aload_n 0, 1, 16), (16, .new 18, 3, 19), (19, .dup, 1, 20), (20, .invokespecial 20, 3, 23), (23, .putfield 21, 3, 26), (26, .return_, 1, 27)]
theorem dtN4 : ∀ q ∈ tbN4, decode cX4_init q.1 = .ok (q.2.1, q.2.2.1) ∧ q.1 + q.2.2.1 = q.2.2.2 := by decide +kernel
theorem miN4 : MI yX4_init cX4_init 1 none 0 := ⟨tw_mem (List.mem_of_getElem? (i := 206) (by decide +kernel)) rfl, by decide, by decide +kernel, tw_mem (List.mem_of_getElem? (i := 19) (by decide +kernel)) rfl⟩
abbrev rmN4 : Room := { frames := 3, cells := 21, slots := 755, locals := 72 }
def wN4 : List Cond := [.methodLink "ZoneCapacity$Teller" 3 Lib.objectInit, .instanceMethod Lib.objectInit, .code Lib.objectInit ⟨#[0xb1]⟩ 1 none, .classLink "ZoneCapacity$Teller" 9 "ZoneCapacity$Tape", .instantiable "ZoneCapacity$Tape" 2, .initialized "ZoneCapacity$Tape", .instanceMethod yX3_init, .fieldLink "ZoneCapacity$Teller" 12 "ZoneCapacity$Teller" "tape" "LZoneCapacity$Tape;", .classLink "ZoneCapacity$Teller" 18 "ZoneCapacity$Market", .instantiable "ZoneCapacity$Market" 2, .initialized "ZoneCapacity$Market", .instanceMethod yX1_init, .fieldLink "ZoneCapacity$Teller" 21 "ZoneCapacity$Teller" "draft" "LZoneCapacity$Market;"]
theorem iN4 : ∀ w ∈ wN4, w ∈ TW := tw_of (ids := [207, 48, 49, 208, 209, 20, 211, 222, 220, 57, 16, 59, 223]) (by decide +kernel)
set_option maxHeartbeats 8000000 in
theorem ctN4 {l : Launch} {D : va_G} {cI cZ cJ : ClassId} : CtN l D cI cZ cJ yX4_init cX4_init 1 3 72 (.inr (4, [.null, .null, .int 0, .int 0, .int 0, .int 0, .int 0, .int 0])) (bN4 cI cZ cJ) 21 755 := by
  refine CtN.of (tb := tbN4) (by decide) miN4.1 rfl dtN4 (by decide) ?_
  intro E B hQ hR0 hL hI
  refine n_aload_n B 0 rfl 0 0 rfl rfl ?_
  refine n_obj hR0 B 1 rfl ⟨(iN4 _ (List.mem_of_getElem? (i := 0) rfl)), (iN4 _ (List.mem_of_getElem? (i := 1) rfl)), (iN4 _ (List.mem_of_getElem? (i := 2) rfl))⟩ ⟨Nat.le_of_ble_eq_true rfl, Nat.le_of_ble_eq_true rfl⟩ (Nat.le_of_ble_eq_true rfl) ?_
  refine n_aload_n B 2 rfl 0 0 rfl rfl ?_
  refine n_new 3 1 [.null, .int 0] (.inr (4, [.null, .null, .int 0, .int 0, .int 0, .int 0, .int 0, .int 0]) :: (([] : List va_E) ++ [.inr (3, [.null, .int 0])])) 2 1 2 hR0 B 3 rfl rfl ⟨(iN4 _ (List.mem_of_getElem? (i := 3) rfl)), (iN4 _ (List.mem_of_getElem? (i := 4) rfl)), (iN4 _ (List.mem_of_getElem? (i := 5) rfl))⟩ ⟨rfl, rfl⟩ rfl (by decide +kernel) (fun _ => rfl) ⟨rfl, rfl, Nat.le_of_ble_eq_true rfl, Nat.le_of_ble_eq_true rfl⟩ ?_
  refine n_dup B 4 rfl rfl ?_
  refine n_callN 1 (.inr (4, [.null, .null, .int 0, .int 0, .int 0, .int 0, .int 0, .int 0]) :: (([] : List va_E))) (.inr (4, [.null, .null, .int 0, .int 0, .int 0, .int 0, .int 0, .int 0]) :: (([] : List va_E) ++ (bN3 cI cZ cJ).map (she 1))) 3 2 502 hR0 hL B 5 rfl miN3 (List.mem_of_getElem? (i := 5) rfl) (iN4 _ (List.mem_of_getElem? (i := 6) rfl)) rfl (ctN3) ⟨Nat.le_of_ble_eq_true rfl, Nat.le_of_ble_eq_true rfl, rfl, rfl, Nat.le_of_ble_eq_true rfl, Nat.le_of_ble_eq_true rfl⟩ rfl 2 ⟨rfl, bN3_len cI cZ cJ, rfl⟩ (fun _ => rfl) rfl (Nat.le_of_ble_eq_true rfl) ?_
  refine n_putF 4 0 0 (.inr (4, [.ref 1, .null, .int 0, .int 0, .int 0, .int 0, .int 0, .int 0]) :: (([] : List va_E) ++ (bN3 cI cZ cJ).map (she 1))) B 6 rfl (iN4 _ (List.mem_of_getElem? (i := 7) rfl)) rfl (ty := .object "ZoneCapacity$Tape") (by decide) rfl hI rfl (fun _ => ⟨rfl, rfl⟩) rfl (by decide) rfl ?_
  refine n_aload_n B 7 rfl 0 0 rfl rfl ?_
  refine n_new 1 3 [.null, .null] (.inr (4, [.ref 1, .null, .int 0, .int 0, .int 0, .int 0, .int 0, .int 0]) :: (([] : List va_E) ++ (bN3 cI cZ cJ).map (she 1) ++ [.inr (1, [.null, .null])])) 4 3 504 hR0 B 8 rfl rfl ⟨(iN4 _ (List.mem_of_getElem? (i := 8) rfl)), (iN4 _ (List.mem_of_getElem? (i := 9) rfl)), (iN4 _ (List.mem_of_getElem? (i := 10) rfl))⟩ ⟨rfl, rfl⟩ rfl (by decide +kernel) (fun _ => rfl) ⟨rfl, rfl, Nat.le_of_ble_eq_true rfl, Nat.le_of_ble_eq_true rfl⟩ ?_
  refine n_dup B 9 rfl rfl ?_
  refine n_callN 3 (.inr (4, [.ref 1, .null, .int 0, .int 0, .int 0, .int 0, .int 0, .int 0]) :: (([] : List va_E) ++ (bN3 cI cZ cJ).map (she 1))) (.inr (4, [.ref 1, .null, .int 0, .int 0, .int 0, .int 0, .int 0, .int 0]) :: (([] : List va_E) ++ (bN3 cI cZ cJ).map (she 1) ++ (bN1 cI cZ cJ).map (she 3))) 22 21 755 hR0 hL B 10 rfl miN1 (List.mem_of_getElem? (i := 6) rfl) (iN4 _ (List.mem_of_getElem? (i := 11) rfl)) rfl (ctN1) ⟨Nat.le_of_ble_eq_true rfl, Nat.le_of_ble_eq_true rfl, rfl, rfl, Nat.le_of_ble_eq_true rfl, Nat.le_of_ble_eq_true rfl⟩ rfl 19 ⟨rfl, bN1_len cI cZ cJ, rfl⟩ (fun _ => rfl) rfl (Nat.le_of_ble_eq_true rfl) ?_
  refine n_putF 4 1 0 (.inr (4, [.ref 1, .ref 3, .int 0, .int 0, .int 0, .int 0, .int 0, .int 0]) :: (([] : List va_E) ++ (bN3 cI cZ cJ).map (she 1) ++ (bN1 cI cZ cJ).map (she 3))) B 11 rfl (iN4 _ (List.mem_of_getElem? (i := 12) rfl)) rfl (ty := .object "ZoneCapacity$Market") (by decide) rfl hI rfl (fun _ => ⟨rfl, rfl⟩) rfl (by decide) rfl ?_
  exact n_vret B 12 rfl hQ ⟨rfl, rfl, rfl⟩
def bN6 (cI cZ cJ : ClassId) : List va_E := (.inr (6, [.ref 1, .ref 30, .ref 59, .ref 81, .ref 100, .int 0, .int 0]) :: (([] : List va_E) ++ (bN0 cI cZ cJ).map (she 1) ++ (bN0 cI cZ cJ).map (she 30) ++ (bN4 cI cZ cJ).map (she 59) ++ (bN1 cI cZ cJ).map (she 81) ++ (bN1 cI cZ cJ).map (she 100)))
theorem bN6_len (cI cZ cJ : ClassId) : (bN6 cI cZ cJ).length = 119 := by
  unfold bN6
  simp only [List.length_cons, List.length_append, List.length_map, List.length_nil, bN5_len, bN2_len, bN1_len, bN0_len, bN3_len, bN4_len]
def tbN6 : Tb := [(0, .aload_n 0, 1, 1), (1, .invokespecial 1, 3, 4), (4, .aload_n 0, 1, 5), (5, .new 7, 3, 8), (8, .dup, 1, 9), (9, .invokespecial 9, 3, 12), (12, .putfield 10, 3, 15), (15, .aload_n 0, 1, 16), (16, .new 7, 3, 19), (19, .dup, 1, 20), (20, .invokespecial 9, 3, 23), (23, .putfield 16, 3, 26), (26, .aload_n 0, 1, 27), (27, .new 19, 3, 30), (30, .dup, 1, 31), (31, .invokespecial 21, 3, 34), (34, .putfield 22, 3, 37), (37, .aload_n 0, 1, 38), (38, .new 26, 3, 41), (41, .dup, 1, 42), (42, .invokespecial 28, 3, 45), (45, .putfield 29, 3, 48), (48, .aload_n 0, 1, 49), (49, .new 26, 3, 52), (52, .dup, 1, 53), (53, .invokespecial 28, 3, 56), (56, .putfield 33, 3, 59), (59, .return_, 1, 60)]
theorem dtN6 : ∀ q ∈ tbN6, decode cX6_init q.1 = .ok (q.2.1, q.2.2.1) ∧ q.1 + q.2.2.1 = q.2.2.2 := by decide +kernel
theorem miN6 : MI yX6_init cX6_init 1 none 0 := ⟨tw_mem (List.mem_of_getElem? (i := 46) (by decide +kernel)) rfl, by decide, by decide +kernel, tw_mem (List.mem_of_getElem? (i := 14) (by decide +kernel)) rfl⟩
abbrev rmN6 : Room := { frames := 4, cells := 118, slots := 2159, locals := 92 }
def wN6 : List Cond := [.methodLink "ZoneCapacity" 1 Lib.objectInit, .instanceMethod Lib.objectInit, .code Lib.objectInit ⟨#[0xb1]⟩ 1 none, .classLink "ZoneCapacity" 7 "ZoneCapacity$Auction", .instantiable "ZoneCapacity$Auction" 12, .initialized "ZoneCapacity$Auction", .instanceMethod yX0_init, .fieldLink "ZoneCapacity" 10 "ZoneCapacity" "now" "LZoneCapacity$Auction;", .fieldLink "ZoneCapacity" 16 "ZoneCapacity" "trial" "LZoneCapacity$Auction;", .classLink "ZoneCapacity" 19 "ZoneCapacity$Teller", .instantiable "ZoneCapacity$Teller" 8, .initialized "ZoneCapacity$Teller", .instanceMethod yX4_init, .fieldLink "ZoneCapacity" 22 "ZoneCapacity" "teller" "LZoneCapacity$Teller;", .classLink "ZoneCapacity" 26 "ZoneCapacity$Market", .instantiable "ZoneCapacity$Market" 2, .initialized "ZoneCapacity$Market", .instanceMethod yX1_init, .fieldLink "ZoneCapacity" 29 "ZoneCapacity" "firstKept" "LZoneCapacity$Market;", .fieldLink "ZoneCapacity" 33 "ZoneCapacity" "secondKept" "LZoneCapacity$Market;"]
theorem iN6 : ∀ w ∈ wN6, w ∈ TW := tw_of (ids := [47, 48, 49, 50, 51, 15, 53, 243, 244, 202, 203, 19, 205, 245, 241, 57, 16, 59, 246, 247]) (by decide +kernel)
set_option maxHeartbeats 8000000 in
theorem ctN6 {l : Launch} {D : va_G} {cI cZ cJ : ClassId} : CtN l D cI cZ cJ yX6_init cX6_init 1 4 92 (.inr (6, [.null, .null, .null, .null, .null, .int 0, .int 0])) (bN6 cI cZ cJ) 118 2159 := by
  refine CtN.of (tb := tbN6) (by decide) miN6.1 rfl dtN6 (by decide) ?_
  intro E B hQ hR0 hL hI
  refine n_aload_n B 0 rfl 0 0 rfl rfl ?_
  refine n_obj hR0 B 1 rfl ⟨(iN6 _ (List.mem_of_getElem? (i := 0) rfl)), (iN6 _ (List.mem_of_getElem? (i := 1) rfl)), (iN6 _ (List.mem_of_getElem? (i := 2) rfl))⟩ ⟨Nat.le_of_ble_eq_true rfl, Nat.le_of_ble_eq_true rfl⟩ (Nat.le_of_ble_eq_true rfl) ?_
  refine n_aload_n B 2 rfl 0 0 rfl rfl ?_
  refine n_new 0 1 [.null, .null, .null, .null, .null, .null, .null, .null, .null, .null, .int 0, .int 0] (.inr (6, [.null, .null, .null, .null, .null, .int 0, .int 0]) :: (([] : List va_E) ++ [.inr (0, [.null, .null, .null, .null, .null, .null, .null, .null, .null, .null, .int 0, .int 0])])) 2 1 12 hR0 B 3 rfl rfl ⟨(iN6 _ (List.mem_of_getElem? (i := 3) rfl)), (iN6 _ (List.mem_of_getElem? (i := 4) rfl)), (iN6 _ (List.mem_of_getElem? (i := 5) rfl))⟩ ⟨rfl, rfl⟩ rfl (by decide +kernel) (fun _ => rfl) ⟨rfl, rfl, Nat.le_of_ble_eq_true rfl, Nat.le_of_ble_eq_true rfl⟩ ?_
  refine n_dup B 4 rfl rfl ?_
  refine n_callN 1 (.inr (6, [.null, .null, .null, .null, .null, .int 0, .int 0]) :: (([] : List va_E))) (.inr (6, [.null, .null, .null, .null, .null, .int 0, .int 0]) :: (([] : List va_E) ++ (bN0 cI cZ cJ).map (she 1))) 30 29 445 hR0 hL B 5 rfl miN0 (List.mem_of_getElem? (i := 0) rfl) (iN6 _ (List.mem_of_getElem? (i := 6) rfl)) rfl (ctN0) ⟨Nat.le_of_ble_eq_true rfl, Nat.le_of_ble_eq_true rfl, rfl, rfl, Nat.le_of_ble_eq_true rfl, Nat.le_of_ble_eq_true rfl⟩ rfl 29 ⟨rfl, bN0_len cI cZ cJ, rfl⟩ (fun _ => rfl) rfl (Nat.le_of_ble_eq_true rfl) ?_
  refine n_putF 6 0 0 (.inr (6, [.ref 1, .null, .null, .null, .null, .int 0, .int 0]) :: (([] : List va_E) ++ (bN0 cI cZ cJ).map (she 1))) B 6 rfl (iN6 _ (List.mem_of_getElem? (i := 7) rfl)) rfl (ty := .object "ZoneCapacity$Auction") (by decide) rfl hI rfl (fun _ => ⟨rfl, rfl⟩) rfl (by decide) rfl ?_
  refine n_aload_n B 7 rfl 0 0 rfl rfl ?_
  refine n_new 0 30 [.null, .null, .null, .null, .null, .null, .null, .null, .null, .null, .int 0, .int 0] (.inr (6, [.ref 1, .null, .null, .null, .null, .int 0, .int 0]) :: (([] : List va_E) ++ (bN0 cI cZ cJ).map (she 1) ++ [.inr (0, [.null, .null, .null, .null, .null, .null, .null, .null, .null, .null, .int 0, .int 0])])) 31 30 457 hR0 B 8 rfl rfl ⟨(iN6 _ (List.mem_of_getElem? (i := 3) rfl)), (iN6 _ (List.mem_of_getElem? (i := 4) rfl)), (iN6 _ (List.mem_of_getElem? (i := 5) rfl))⟩ ⟨rfl, rfl⟩ rfl (by decide +kernel) (fun _ => rfl) ⟨rfl, rfl, Nat.le_of_ble_eq_true rfl, Nat.le_of_ble_eq_true rfl⟩ ?_
  refine n_dup B 9 rfl rfl ?_
  refine n_callN 30 (.inr (6, [.ref 1, .null, .null, .null, .null, .int 0, .int 0]) :: (([] : List va_E) ++ (bN0 cI cZ cJ).map (she 1))) (.inr (6, [.ref 1, .null, .null, .null, .null, .int 0, .int 0]) :: (([] : List va_E) ++ (bN0 cI cZ cJ).map (she 1) ++ (bN0 cI cZ cJ).map (she 30))) 59 58 890 hR0 hL B 10 rfl miN0 (List.mem_of_getElem? (i := 0) rfl) (iN6 _ (List.mem_of_getElem? (i := 6) rfl)) rfl (ctN0) ⟨Nat.le_of_ble_eq_true rfl, Nat.le_of_ble_eq_true rfl, rfl, rfl, Nat.le_of_ble_eq_true rfl, Nat.le_of_ble_eq_true rfl⟩ rfl 29 ⟨rfl, bN0_len cI cZ cJ, rfl⟩ (fun _ => rfl) rfl (Nat.le_of_ble_eq_true rfl) ?_
  refine n_putF 6 1 0 (.inr (6, [.ref 1, .ref 30, .null, .null, .null, .int 0, .int 0]) :: (([] : List va_E) ++ (bN0 cI cZ cJ).map (she 1) ++ (bN0 cI cZ cJ).map (she 30))) B 11 rfl (iN6 _ (List.mem_of_getElem? (i := 8) rfl)) rfl (ty := .object "ZoneCapacity$Auction") (by decide) rfl hI rfl (fun _ => ⟨rfl, rfl⟩) rfl (by decide) rfl ?_
  refine n_aload_n B 12 rfl 0 0 rfl rfl ?_
  refine n_new 4 59 [.null, .null, .int 0, .int 0, .int 0, .int 0, .int 0, .int 0] (.inr (6, [.ref 1, .ref 30, .null, .null, .null, .int 0, .int 0]) :: (([] : List va_E) ++ (bN0 cI cZ cJ).map (she 1) ++ (bN0 cI cZ cJ).map (she 30) ++ [.inr (4, [.null, .null, .int 0, .int 0, .int 0, .int 0, .int 0, .int 0])])) 60 59 898 hR0 B 13 rfl rfl ⟨(iN6 _ (List.mem_of_getElem? (i := 9) rfl)), (iN6 _ (List.mem_of_getElem? (i := 10) rfl)), (iN6 _ (List.mem_of_getElem? (i := 11) rfl))⟩ ⟨rfl, rfl⟩ rfl (by decide +kernel) (fun _ => rfl) ⟨rfl, rfl, Nat.le_of_ble_eq_true rfl, Nat.le_of_ble_eq_true rfl⟩ ?_
  refine n_dup B 14 rfl rfl ?_
  refine n_callN 59 (.inr (6, [.ref 1, .ref 30, .null, .null, .null, .int 0, .int 0]) :: (([] : List va_E) ++ (bN0 cI cZ cJ).map (she 1) ++ (bN0 cI cZ cJ).map (she 30))) (.inr (6, [.ref 1, .ref 30, .null, .null, .null, .int 0, .int 0]) :: (([] : List va_E) ++ (bN0 cI cZ cJ).map (she 1) ++ (bN0 cI cZ cJ).map (she 30) ++ (bN4 cI cZ cJ).map (she 59))) 81 80 1653 hR0 hL B 15 rfl miN4 (List.mem_of_getElem? (i := 4) rfl) (iN6 _ (List.mem_of_getElem? (i := 12) rfl)) rfl (ctN4) ⟨Nat.le_of_ble_eq_true rfl, Nat.le_of_ble_eq_true rfl, rfl, rfl, Nat.le_of_ble_eq_true rfl, Nat.le_of_ble_eq_true rfl⟩ rfl 22 ⟨rfl, bN4_len cI cZ cJ, rfl⟩ (fun _ => rfl) rfl (Nat.le_of_ble_eq_true rfl) ?_
  refine n_putF 6 2 0 (.inr (6, [.ref 1, .ref 30, .ref 59, .null, .null, .int 0, .int 0]) :: (([] : List va_E) ++ (bN0 cI cZ cJ).map (she 1) ++ (bN0 cI cZ cJ).map (she 30) ++ (bN4 cI cZ cJ).map (she 59))) B 16 rfl (iN6 _ (List.mem_of_getElem? (i := 13) rfl)) rfl (ty := .object "ZoneCapacity$Teller") (by decide) rfl hI rfl (fun _ => ⟨rfl, rfl⟩) rfl (by decide) rfl ?_
  refine n_aload_n B 17 rfl 0 0 rfl rfl ?_
  refine n_new 1 81 [.null, .null] (.inr (6, [.ref 1, .ref 30, .ref 59, .null, .null, .int 0, .int 0]) :: (([] : List va_E) ++ (bN0 cI cZ cJ).map (she 1) ++ (bN0 cI cZ cJ).map (she 30) ++ (bN4 cI cZ cJ).map (she 59) ++ [.inr (1, [.null, .null])])) 82 81 1655 hR0 B 18 rfl rfl ⟨(iN6 _ (List.mem_of_getElem? (i := 14) rfl)), (iN6 _ (List.mem_of_getElem? (i := 15) rfl)), (iN6 _ (List.mem_of_getElem? (i := 16) rfl))⟩ ⟨rfl, rfl⟩ rfl (by decide +kernel) (fun _ => rfl) ⟨rfl, rfl, Nat.le_of_ble_eq_true rfl, Nat.le_of_ble_eq_true rfl⟩ ?_
  refine n_dup B 19 rfl rfl ?_
  refine n_callN 81 (.inr (6, [.ref 1, .ref 30, .ref 59, .null, .null, .int 0, .int 0]) :: (([] : List va_E) ++ (bN0 cI cZ cJ).map (she 1) ++ (bN0 cI cZ cJ).map (she 30) ++ (bN4 cI cZ cJ).map (she 59))) (.inr (6, [.ref 1, .ref 30, .ref 59, .null, .null, .int 0, .int 0]) :: (([] : List va_E) ++ (bN0 cI cZ cJ).map (she 1) ++ (bN0 cI cZ cJ).map (she 30) ++ (bN4 cI cZ cJ).map (she 59) ++ (bN1 cI cZ cJ).map (she 81))) 100 99 1906 hR0 hL B 20 rfl miN1 (List.mem_of_getElem? (i := 7) rfl) (iN6 _ (List.mem_of_getElem? (i := 17) rfl)) rfl (ctN1) ⟨Nat.le_of_ble_eq_true rfl, Nat.le_of_ble_eq_true rfl, rfl, rfl, Nat.le_of_ble_eq_true rfl, Nat.le_of_ble_eq_true rfl⟩ rfl 19 ⟨rfl, bN1_len cI cZ cJ, rfl⟩ (fun _ => rfl) rfl (Nat.le_of_ble_eq_true rfl) ?_
  refine n_putF 6 3 0 (.inr (6, [.ref 1, .ref 30, .ref 59, .ref 81, .null, .int 0, .int 0]) :: (([] : List va_E) ++ (bN0 cI cZ cJ).map (she 1) ++ (bN0 cI cZ cJ).map (she 30) ++ (bN4 cI cZ cJ).map (she 59) ++ (bN1 cI cZ cJ).map (she 81))) B 21 rfl (iN6 _ (List.mem_of_getElem? (i := 18) rfl)) rfl (ty := .object "ZoneCapacity$Market") (by decide) rfl hI rfl (fun _ => ⟨rfl, rfl⟩) rfl (by decide) rfl ?_
  refine n_aload_n B 22 rfl 0 0 rfl rfl ?_
  refine n_new 1 100 [.null, .null] (.inr (6, [.ref 1, .ref 30, .ref 59, .ref 81, .null, .int 0, .int 0]) :: (([] : List va_E) ++ (bN0 cI cZ cJ).map (she 1) ++ (bN0 cI cZ cJ).map (she 30) ++ (bN4 cI cZ cJ).map (she 59) ++ (bN1 cI cZ cJ).map (she 81) ++ [.inr (1, [.null, .null])])) 101 100 1908 hR0 B 23 rfl rfl ⟨(iN6 _ (List.mem_of_getElem? (i := 14) rfl)), (iN6 _ (List.mem_of_getElem? (i := 15) rfl)), (iN6 _ (List.mem_of_getElem? (i := 16) rfl))⟩ ⟨rfl, rfl⟩ rfl (by decide +kernel) (fun _ => rfl) ⟨rfl, rfl, Nat.le_of_ble_eq_true rfl, Nat.le_of_ble_eq_true rfl⟩ ?_
  refine n_dup B 24 rfl rfl ?_
  refine n_callN 100 (.inr (6, [.ref 1, .ref 30, .ref 59, .ref 81, .null, .int 0, .int 0]) :: (([] : List va_E) ++ (bN0 cI cZ cJ).map (she 1) ++ (bN0 cI cZ cJ).map (she 30) ++ (bN4 cI cZ cJ).map (she 59) ++ (bN1 cI cZ cJ).map (she 81))) (.inr (6, [.ref 1, .ref 30, .ref 59, .ref 81, .null, .int 0, .int 0]) :: (([] : List va_E) ++ (bN0 cI cZ cJ).map (she 1) ++ (bN0 cI cZ cJ).map (she 30) ++ (bN4 cI cZ cJ).map (she 59) ++ (bN1 cI cZ cJ).map (she 81) ++ (bN1 cI cZ cJ).map (she 100))) 119 118 2159 hR0 hL B 25 rfl miN1 (List.mem_of_getElem? (i := 7) rfl) (iN6 _ (List.mem_of_getElem? (i := 17) rfl)) rfl (ctN1) ⟨Nat.le_of_ble_eq_true rfl, Nat.le_of_ble_eq_true rfl, rfl, rfl, Nat.le_of_ble_eq_true rfl, Nat.le_of_ble_eq_true rfl⟩ rfl 19 ⟨rfl, bN1_len cI cZ cJ, rfl⟩ (fun _ => rfl) rfl (Nat.le_of_ble_eq_true rfl) ?_
  refine n_putF 6 4 0 (.inr (6, [.ref 1, .ref 30, .ref 59, .ref 81, .ref 100, .int 0, .int 0]) :: (([] : List va_E) ++ (bN0 cI cZ cJ).map (she 1) ++ (bN0 cI cZ cJ).map (she 30) ++ (bN4 cI cZ cJ).map (she 59) ++ (bN1 cI cZ cJ).map (she 81) ++ (bN1 cI cZ cJ).map (she 100))) B 26 rfl (iN6 _ (List.mem_of_getElem? (i := 19) rfl)) rfl (ty := .object "ZoneCapacity$Market") (by decide) rfl hI rfl (fun _ => ⟨rfl, rfl⟩) rfl (by decide) rfl ?_
  exact n_vret B 27 rfl hQ ⟨rfl, rfl, rfl⟩
end
section
/-! the law's liv cells: ids from 1 on in the order of making, the address of id c is n + (c - 1); id 0 is the empty row that all lists begin with -/
/-- cells made, slots made, kinds and lengths, the class object's first id -/
abbrev AS : Type := Nat × Nat × (Nat → Nat × Nat) × Nat
abbrev DM : Type := Nat → Nat → Value
/-- the heap's size at the law's entry, the empty row, the classes -/
abbrev KF : Type := Nat × Nat × va_G × ClassId × ClassId × ClassId
def adr (K : KF) (c : Nat) : Nat := if c = 0 then K.2.1 else K.1 + (c - 1)
def kc (K : KF) : Cfg := (adr K, K.2.2)
def cfg (K : KF) (b : Nat) : Cfg := (fun c => K.1 + (b - 1) + (c - 14), K.2.2)
abbrev tyk (K : KF) : List (ClassId × FieldType) := tys (kc K)
def vint : Value → Int32
  | .int x => x
  | _ => 0
def vrf (K : KF) : Value → Option Nat
  | .ref a => some (adr K a)
  | _ => none
def cld (K : KF) (h : Nat × Nat) (f : Nat → Value) : va_E :=
  if h.1 < 11 then .inr (h.1, (List.range (nfl h.1)).map (fun k => cvv (kc K) (f k)))
  else if h.1 = 20 then .inl (K.2.2.2.1, h.2, .inl (fun i => vint (f i)))
  else if h.1 = 21 then .inl (K.2.2.2.2.1, h.2, .inr (.inr (.inr (.inr (fun i => vrf K (f i))))))
  else .inl (K.2.2.2.2.2, h.2, .inr (.inr (.inr (.inr (fun i => vrf K (f i))))))
def liv (A : AS) (c : Nat) : Bool := decide (1 ≤ c) && (decide (c ≤ A.1) && decide ((A.2.2.1 c).1 ≠ 0))
theorem liv_iff {A : AS} {c : Nat} : liv A c = true ↔ (1 ≤ c ∧ c ≤ A.1 ∧ (A.2.2.1 c).1 ≠ 0) := by
  unfold liv
  simp only [Bool.and_eq_true, decide_eq_true_eq]
def lvl (A : AS) : List Nat := (List.range (A.1 + 1)).filter (liv A)
theorem lvl_mem {A : AS} {c : Nat} : c ∈ lvl A ↔ liv A c = true := by
  unfold lvl
  rw [List.mem_filter, List.mem_range]
  refine ⟨fun h => h.2, fun h => ⟨?_, h⟩⟩
  have := liv_iff.mp h
  omega
theorem lvl_nd (A : AS) : (lvl A).Nodup := List.Pairwise.filter (liv A) List.nodup_range
def ow (K : KF) (A : AS) (dm : DM) : va_W := (lvl A).map (fun c => (adr K c, cld K (A.2.2.1 c) (dm c)))
def w2 (K : KF) (mm : Mem) (A : AS) (dm : DM) : va_W := wl (cfg K A.2.2.2) mm ++ ow K A dm
def okA (A : AS) : Prop := 1 ≤ A.2.2.2 ∧ A.2.2.2 + 118 ≤ A.1 ∧ (∀ c, A.2.2.2 ≤ c → c < A.2.2.2 + 119 → (A.2.2.1 c).1 = 0) ∧ (liv A A.1 = true ∨ A.1 = A.2.2.2 + 118)
def nw (A : AS) (k len sl : Nat) : AS := (A.1 + 1, A.2.1 + sl, fun c => if c = A.1 + 1 then (k, len) else A.2.2.1 c, A.2.2.2)
def nwm (A : AS) (dm : DM) (f : Nat → Value) : DM := fun c => if c = A.1 + 1 then f else dm c
def up3 (dm : DM) (c i : Nat) (v : Value) : DM := fun a j => if a = c ∧ j = i then v else dm a j
theorem liv_nw {A : AS} {k len sl : Nat} (hk : k ≠ 0) : liv (nw A k len sl) (A.1 + 1) = true := by
  rw [liv_iff]
  refine ⟨by omega, Nat.le_refl _, ?_⟩
  show (if A.1 + 1 = A.1 + 1 then (k, len) else A.2.2.1 (A.1 + 1)).1 ≠ 0
  rw [if_pos rfl]
  exact hk
theorem okA_nw {A : AS} (h : okA A) {k len sl : Nat} (hk : k ≠ 0) : okA (nw A k len sl) := by
  obtain ⟨h1, h2, h3, -⟩ := h
  refine ⟨h1, Nat.le_succ_of_le h2, fun c h4 h5 => ?_, Or.inl (liv_nw hk)⟩
  show (if c = A.1 + 1 then (k, len) else A.2.2.1 c).1 = 0
  have h4' : A.2.2.2 ≤ c := h4
  have h5' : c < A.2.2.2 + 119 := h5
  rw [if_neg (by omega)]
  exact h3 c h4 h5
theorem wl_len (C : Cfg) (mm : Mem) : (wl C mm).length = 119 := by
  unfold wl
  rw [List.length_map, List.length_range]
theorem ow_at (A : AS) {c : Nat} (h : liv A c = true) : ∃ i, (∀ (K : KF) (mm : Mem) (dm : DM), (w2 K mm A dm)[i]? = some (adr K c, cld K (A.2.2.1 c) (dm c))) ∧ (∀ (K : KF) (mm : Mem) (dm dm' : DM), (∀ a, a ≠ c → dm' a = dm a) → (w2 K mm A dm).set i (adr K c, cld K (A.2.2.1 c) (dm' c)) = w2 K mm A dm') := by
  obtain ⟨j, hj⟩ := List.getElem?_of_mem (lvl_mem.mpr h)
  have hjl : j < (lvl A).length := (List.getElem?_eq_some_iff.mp hj).1
  have hget : ∀ (K : KF) (mm : Mem) (dm : DM), (w2 K mm A dm)[119 + j]? = some (adr K c, cld K (A.2.2.1 c) (dm c)) := by
    intro K mm dm
    unfold w2
    rw [List.getElem?_append_right (by rw [wl_len]; omega), wl_len, show 119 + j - 119 = j by omega]
    unfold ow
    rw [List.getElem?_map, hj]
    rfl
  refine ⟨119 + j, hget, fun K mm dm dm' hne => ?_⟩
  apply List.ext_getElem?
  intro k
  by_cases hk : k = 119 + j
  · subst hk
    rw [List.getElem?_set_self (by unfold w2 ow; rw [List.length_append, wl_len, List.length_map]; omega), hget]
  · rw [List.getElem?_set_ne (Ne.symm hk)]
    unfold w2
    by_cases hl : k < 119
    · rw [List.getElem?_append_left (by rw [wl_len]; exact hl), List.getElem?_append_left (by rw [wl_len]; exact hl)]
    · rw [List.getElem?_append_right (by rw [wl_len]; omega), List.getElem?_append_right (by rw [wl_len]; omega), wl_len]
      unfold ow
      rw [List.getElem?_map, List.getElem?_map]
      cases hc : (lvl A)[k - 119]? with
      | none => rfl
      | some a =>
        have hne2 : a ≠ c := by
          intro e
          subst e
          have := (List.getElem?_inj hjl (lvl_nd A)).mp (hj.trans hc.symm)
          omega
        simp only [Option.map_some, hne a hne2]
theorem w2_at {K : KF} {mm : Mem} {A : AS} {dm : DM} {k : Nat} {x : Nat × va_E} (h : (w2 K mm A dm)[k]? = some x) : (k < 119 ∧ x.1 = K.1 + (A.2.2.2 - 1) + k) ∨ (119 ≤ k ∧ ∃ c, liv A c = true ∧ (lvl A)[k - 119]? = some c ∧ x = (adr K c, cld K (A.2.2.1 c) (dm c))) := by
  unfold w2 at h
  by_cases hl : k < 119
  · rw [List.getElem?_append_left (by rw [wl_len]; exact hl)] at h
    obtain ⟨-, rfl⟩ := wl_at h
    refine Or.inl ⟨hl, ?_⟩
    show K.1 + (A.2.2.2 - 1) + (k + 14 - 14) = _
    omega
  · rw [List.getElem?_append_right (by rw [wl_len]; omega), wl_len] at h
    unfold ow at h
    rw [List.getElem?_map] at h
    cases hc : (lvl A)[k - 119]? with
    | none => rw [hc] at h; cases h
    | some c =>
      rw [hc] at h
      exact Or.inr ⟨by omega, c, lvl_mem.mp (List.mem_of_getElem? hc), rfl, (Option.some.inj h).symm⟩
theorem adr_pos {K : KF} {c : Nat} (h : 1 ≤ c) : adr K c = K.1 + (c - 1) := by
  unfold adr
  rw [if_neg (by omega)]
theorem w2_D {K : KF} {mm : Mem} {A : AS} {dm : DM} (hA : okA A) : va_D (fun q => K.1 ≤ q) (w2 K mm A dm) := by
  have hlo : ∀ {c : Nat}, liv A c = true → adr K c = K.1 + (c - 1) ∧ 1 ≤ c := fun h => ⟨adr_pos (liv_iff.mp h).1, (liv_iff.mp h).1⟩
  have hx : ∀ {c k : Nat}, liv A c = true → k < 119 → K.1 + (A.2.2.2 - 1) + k ≠ adr K c := by
    intro c k h hk e
    obtain ⟨h1, h2⟩ := hlo h
    have h3 := hA.2.2.1 c (by have := hA.1; omega) (by have := hA.1; omega)
    exact (liv_iff.mp h).2.2 h3
  refine ⟨fun i j x y hi hj hxy => ?_, fun k x hk => ?_⟩
  · rcases w2_at hi with ⟨h1, e1⟩ | ⟨h1, c, hc, hi1, rfl⟩ <;> rcases w2_at hj with ⟨h2, e2⟩ | ⟨h2, d, hd, hj1, rfl⟩
    · omega
    · exact absurd (e1.symm.trans hxy) (hx hd h1)
    · exact absurd (e2.symm.trans hxy.symm) (hx hc h2)
    · obtain ⟨a1, a2⟩ := hlo hc
      obtain ⟨b1, b2⟩ := hlo hd
      have hxy' : adr K c = adr K d := hxy
      have hcd : c = d := by omega
      subst hcd
      have := (List.getElem?_inj (List.getElem?_eq_some_iff.mp hi1).1 (lvl_nd A)).mp (hi1.trans hj1.symm)
      omega
  · rcases w2_at hk with ⟨h1, e1⟩ | ⟨h1, c, hc, hi1, rfl⟩
    · show K.1 ≤ x.1
      omega
    · show K.1 ≤ adr K c
      rw [(hlo hc).1]
      omega
theorem lvl_nw {A : AS} {k len sl : Nat} (hk : k ≠ 0) : lvl (nw A k len sl) = lvl A ++ [A.1 + 1] := by
  show (List.range (A.1 + 1 + 1)).filter (liv (nw A k len sl)) = _
  rw [List.range_succ, List.filter_append]
  congr 1
  · apply List.filter_congr
    intro c hc
    have hc' := List.mem_range.mp hc
    have h1 : liv (nw A k len sl) c = true ↔ liv A c = true := by
      rw [liv_iff, liv_iff]
      show (1 ≤ c ∧ c ≤ A.1 + 1 ∧ (if c = A.1 + 1 then (k, len) else A.2.2.1 c).1 ≠ 0) ↔ _
      rw [if_neg (by omega)]
      constructor
      · rintro ⟨a, -, b⟩
        exact ⟨a, by omega, b⟩
      · rintro ⟨a, b, c⟩
        exact ⟨a, by omega, c⟩
    cases h2 : liv A c <;> cases h3 : liv (nw A k len sl) c <;> first | rfl | (exfalso; rw [h2, h3] at h1; simp at h1)
  · rw [List.filter_cons_of_pos (liv_nw hk), List.filter_nil]
theorem hz_lo {K : KF} {mm : Mem} {A : AS} {dm : DM} {D : va_G} {H : Heap} (hA : okA A) (hP : va_P D zcls (w2 K mm A dm) H) : K.1 + A.1 ≤ H.size := by
  rcases hA.2.2.2 with h | h
  · obtain ⟨i, h1, -⟩ := ow_at A h
    have h2 := (hP i _ (h1 K mm dm)).lt
    have h3 : adr K A.1 < H.size := h2
    have h4 := (liv_iff.mp h).1
    rw [adr_pos h4] at h3
    omega
  · have h1 : (w2 K mm A dm)[118]? = some ((cfg K A.2.2.2).1 132, cel (cfg K A.2.2.2) mm 132) := by
      unfold w2
      rw [List.getElem?_append_left (by rw [wl_len]; decide)]
      exact wl_get (q := 132) (by decide) (by decide)
    have h2 := (hP 118 _ h1).lt
    have h3 : K.1 + (A.2.2.2 - 1) + (132 - 14) < H.size := h2
    have := hA.1
    omega
theorem w2_nw {K : KF} {mm : Mem} {A : AS} {dm : DM} {k len sl : Nat} {f : Nat → Value} (hk : k ≠ 0) : w2 K mm (nw A k len sl) (nwm A dm f) = w2 K mm A dm ++ [(K.1 + A.1, cld K (k, len) f)] := by
  unfold w2
  rw [List.append_assoc]
  congr 1
  unfold ow
  rw [lvl_nw hk, List.map_append]
  congr 1
  · apply List.map_congr_left
    intro c hc
    have hc' := (liv_iff.mp (lvl_mem.mp hc)).2.1
    show (adr K c, cld K (if c = A.1 + 1 then (k, len) else A.2.2.1 c) (if c = A.1 + 1 then f else dm c)) = _
    rw [if_neg (by omega), if_neg (by omega)]
  · show [(adr K (A.1 + 1), cld K (if A.1 + 1 = A.1 + 1 then (k, len) else A.2.2.1 (A.1 + 1)) (if A.1 + 1 = A.1 + 1 then f else dm (A.1 + 1)))] = _
    rw [if_pos rfl, if_pos rfl, adr_pos (by omega)]
    rfl
-- words of the tables that no reader of steady words carries
def fns : List (String × Nat × String × String × String × String) := [("java/util/ArrayList$Itr", 28, "java/util/ArrayList", "size", "I", "java/util/ArrayList"), ("ZoneCapacityLaw", 55, "ZoneCapacityLaw$Market", "zones", "Ljava/util/ArrayList;", "ZoneCapacityLaw"), ("ZoneCapacityLaw", 65, "ZoneCapacityLaw$Market", "curves", "Ljava/util/ArrayList;", "ZoneCapacityLaw"), ("ZoneCapacityLaw", 100, "ZoneCapacityLaw$Market", "resources", "Ljava/util/ArrayList;", "ZoneCapacityLaw"), ("ZoneCapacityLaw", 103, "ZoneCapacityLaw$Market", "steps", "Ljava/util/ArrayList;", "ZoneCapacityLaw"), ("ZoneCapacityLaw", 130, "ZoneCapacityLaw$Market", "floors", "[I", "ZoneCapacityLaw"), ("ZoneCapacityLaw", 136, "ZoneCapacityLaw$Market", "ceiling", "I", "ZoneCapacityLaw"), ("ZoneCapacityLaw", 176, "ZoneCapacityLaw$Market", "prices", "[I", "ZoneCapacityLaw"), ("ZoneCapacityLaw", 179, "ZoneCapacityLaw$Market", "nets", "[I", "ZoneCapacityLaw"), ("ZoneCapacityLaw", 185, "ZoneCapacityLaw$Market", "served", "[I", "ZoneCapacityLaw"), ("ZoneCapacityLaw", 200, "ZoneCapacityLaw$Market", "taken", "[[I", "ZoneCapacityLaw")]
def oaw (U : State) : Prop := (Cond.arrayOver (.array .int)).before #[] U = true
theorem oaw.use {A : Array Value} {U : State} (h : oaw U) : (Cond.arrayOver (.array .int)).before A U = true := h
theorem oaw.moved {u U : State} (hvm : u.vm.Alike U.vm) (h : oaw u) : oaw U := by
  have hidx : ∀ comp : ClassId, (U.vm.classes.findIdx? fun (x : Class) => match x.kind with | .array component _ => component == comp | _ => false) = (u.vm.classes.findIdx? fun (x : Class) => match x.kind with | .array component _ => component == comp | _ => false) := by
    intro comp
    have h1 := va_idx_bare U.vm comp
    have h2 := va_idx_bare u.vm comp
    rw [hvm.bare_eq] at h1
    exact h1.symm.trans h2
  unfold oaw Cond.before Cond.holds at h ⊢
  simp only [Cond.value] at h ⊢
  rw [hvm.findClass, hvm.findClass]
  cases hc : u.vm.findClass (FieldType.array .int).toString with
  | none => rw [hc] at h; simp at h
  | some comp =>
    rw [hc] at h
    simp only [Option.bind_some] at h ⊢
    have h' : (((u.vm.classes.findIdx? fun (x : Class) => match x.kind with | .array component _ => component == comp | _ => false).bind fun c => (u.vm.classes[c]?).map fun (k : Class) => match k.kind with | .array _ ty => decide (ty = FieldType.array .int) && decide (u.vm.findClass ("[" ++ (FieldType.array .int).toString) = some c) | _ => false) == some true) = true := h
    show (((U.vm.classes.findIdx? fun (x : Class) => match x.kind with | .array component _ => component == comp | _ => false).bind fun c => (U.vm.classes[c]?).map fun (k : Class) => match k.kind with | .array _ ty => decide (ty = FieldType.array .int) && decide (u.vm.findClass ("[" ++ (FieldType.array .int).toString) = some c) | _ => false) == some true) = true
    rw [hidx comp]
    cases hi : (u.vm.classes.findIdx? fun (x : Class) => match x.kind with | .array component _ => component == comp | _ => false) with
    | none => rw [hi] at h'; simp at h'
    | some c =>
      rw [hi] at h'
      simp only [Option.bind_some] at h' ⊢
      cases hk : u.vm.classes[c]? with
      | none => rw [hk] at h'; simp at h'
      | some k =>
        obtain ⟨k', hk', he⟩ := hvm.2.2 _ _ hk
        rw [hk] at h'
        rw [hk']
        have hkind : k'.kind = k.kind := by rw [he]
        simp only [Option.map_some] at h' ⊢
        rw [hkind]
        exact h'
abbrev alN : String := "java/util/ArrayList"
abbrev alE : String := "DEFAULTCAPACITY_EMPTY_ELEMENTDATA"
abbrev alD : String := "[Ljava/lang/Object;"
def S2 (K : KF) (A : Nat → Prop) (U : State) (H : Heap) : Prop :=
  (∀ q ∈ zns, va_Nw (.methodLinkNest q.1 q.2.1 q.2.2.1 q.2.2.2) U) ∧ (∀ w ∈ TF, va_Nw w U) ∧ (∀ q ∈ fns, va_Nw (.fieldLinkNest q.1 q.2.1 q.2.2.1 q.2.2.2.1 q.2.2.2.2.1 q.2.2.2.2.2) U) ∧ va_AO "java/lang/Object" U ∧ oaw U ∧ va_Z alN alE alD (.ref K.2.1) A U H ∧ (H[K.2.1]? = some (vp_cell K.2.2.2.2.1 (0, .inr (.inr (.inr (.inr (fun _ => none)))))) ∧ ¬ A K.2.1)
theorem S2.go {K : KF} {A B : Nat → Prop} {s U : State} {H H1 : Heap} (h : S2 K A s H) (hW : s.WarmedH U.vm) (hAB : ∀ q, B q → A q) (hq : ∀ a : Nat, a < H.size → ¬ A a → H1[a]? = H[a]?) : S2 K B U H1 :=
  ⟨fun q m => (h.1 q m).warmM hW, fun w m => (h.2.1 w m).face (tf_ok m) hW, fun q m => (h.2.2.1 q m).warmF hW, va_AO.moved hW.alike h.2.2.2.1, oaw.moved hW.alike h.2.2.2.2.1, ((h.2.2.2.2.2.1.moved hW.alike).kept hq).narrow hAB, by rw [hq K.2.1 (Array.getElem?_eq_some_iff.mp h.2.2.2.2.2.2.1).1 h.2.2.2.2.2.2.2]; exact h.2.2.2.2.2.2.1, fun z => h.2.2.2.2.2.2.2 (hAB _ z)⟩
abbrev Ax (K : KF) : Nat → Prop := fun q => K.1 ≤ q
def Wd2 (K : KF) (mm : Mem) (A : AS) (dm : DM) (U : State) : Prop := okA A ∧ U.heap.size = K.1 + A.1 ∧ va_P K.2.2.1 zcls (w2 K mm A dm) U.heap ∧ va_K K.2.2.1 zcls (tyk K) U ∧ S2 K (Ax K) U U.heap
abbrev Ev2 : Type := Program × Launch × Env × Room × State × MethodId × Array Value × List Frame × Method × Code × (State → Prop) × KF × AS × Option Value × Mem × AS × DM
def inv2 (A0 A fA : AS) : Prop := okA A ∧ (A0.1 ≤ A.1 ∧ A0.2.1 ≤ A.2.1) ∧ (A.1 ≤ fA.1 ∧ A.2.1 ≤ fA.2.1)
def G2 : Ev2 → Nat → Nat → Lv → List Value → Mem → AS → DM → Prop
  | (p, l, e, R, s, m, args, below, meth, c, Q, K, A0, _, _, fA, _), nL, pc, lv, st, mm, A, dm => ∀ (H : Heap) (locs : List Loc) (ls : Array Slot), inv2 A0 A fA → va_P K.2.2.1 zcls (w2 K mm A dm) H → va_S (Ax K) s.heap H locs → lv_has ls nL (lv.map (fun q => (q.1, cvv (kc K) q.2))) → W p l e R s m args below meth c H locs (A.1 - A0.1) (A.2.1 - A0.2.1) Q (F0 m pc ls (st.map (cvv (kc K))))
def Bx2 : Ev2 → String → Tb → Nat → Option FieldType → Prop
  | (p, _, _, R, s, m, args, _, meth, c, _, K, A0, _, _, fA, _), ow, tb, nL, ret => p.tables.exec = Jvm.exec ∧ (∀ q ∈ tb, decode c.code q.1 = .ok (q.2.1, q.2.2.1) ∧ q.1 + q.2.2.1 = q.2.2.2) ∧ c.maxLocals = nL ∧ s.vm.findClass ow = some m.cls ∧ (∀ w ∈ TW, w.before args s = true) ∧ va_K K.2.2.1 zcls (tyk K) s ∧ S2 K (Ax K) s s.heap ∧ meth.sig.returnType = ret ∧ meth.locks = false ∧ s.heap.size = K.1 + A0.1 ∧ (R.cells = fA.1 - A0.1 ∧ R.slots = fA.2.1 - A0.2.1)
def Q2 (K : KF) (A0 : AS) (r : Option Value) (mo : Mem) (fA : AS) (fd : DM) : Array Value → State → Outcome → State → Prop := fun _ st oc t => oc = .returned (r.map (cvv (kc K))) ∧ Wd2 K mo fA fd t ∧ va_F (Ax K) st t
def Rt2 : Ev2 → Prop
  | (_, _, _, _, s, _, args, below, _, _, Q, K, A0, res, mo, fA, fd) => Q = MQ below (Q2 K A0 res mo fA fd) args s (fA.1 - A0.1) (fA.2.1 - A0.2.1) (Ax K)
def Rs2 : Ev2 → Option Value → Mem → AS → DM → Prop
  | (_, _, _, _, _, _, _, _, _, _, _, _, _, res, mo, fA, fd), r, mm, A, dm => res = r ∧ mo = mm ∧ fA = A ∧ fd = dm
def Ec2 : Ev2 → Launch → KF → Nat → Nat → Prop
  | (_, l, _, R, _, _, _, _, _, _, _, K, _, _, _, _, _), l', K', fr, lo => l = l' ∧ K = K' ∧ R.frames = fr ∧ R.locals = lo
/-- a constructor's body -/
def In2 : Ev2 → Prop
  | (_, _, _, _, _, _, _, _, meth, _, _, _, _, _, _, _, _) => meth.name = "<init>"
section B2S
variable {p : Program} {l : Launch} {e : Env} {R : Room} {s : State} {m : MethodId} {args : Array Value} {below : List Frame} {meth : Method} {c : Code} {Q : State → Prop} {K : KF} {A0 fA : AS} {fd : DM} {res : Option Value} {mo : Mem} {ow : String} {tb : Tb} {nL : Nat} {ret : Option FieldType}
variable {pc nx len : Nat} {ins : Instr} {mm : Mem} {A : AS} {dm : DM} {H : Heap} {locs : List Loc} {ls : Array Slot} {rest : List Value}
theorem Bx2.dec (B : Bx2 (p, l, e, R, s, m, args, below, meth, c, Q, K, A0, res, mo, fA, fd) ow tb nL ret) {i : Nat} (h : tb[i]? = some (pc, ins, len, nx)) : decode c.code pc = .ok (ins, len) ∧ pc + len = nx := by
  have h1 : ∀ q ∈ tb, decode c.code q.1 = .ok (q.2.1, q.2.2.1) ∧ q.1 + q.2.2.1 = q.2.2.2 := B.2.1
  exact h1 (pc, ins, len, nx) (List.mem_of_getElem? h)
theorem Bx2.ml (B : Bx2 (p, l, e, R, s, m, args, below, meth, c, Q, K, A0, res, mo, fA, fd) ow tb nL ret) : c.maxLocals = nL := B.2.2.1
theorem Bx2.hown (B : Bx2 (p, l, e, R, s, m, args, below, meth, c, Q, K, A0, res, mo, fA, fd) ow tb nL ret) : s.vm.findClass ow = some m.cls := B.2.2.2.1
theorem Bx2.tw (B : Bx2 (p, l, e, R, s, m, args, below, meth, c, Q, K, A0, res, mo, fA, fd) ow tb nL ret) : ∀ w ∈ TW, w.before args s = true := B.2.2.2.2.1
theorem Bx2.kk (B : Bx2 (p, l, e, R, s, m, args, below, meth, c, Q, K, A0, res, mo, fA, fd) ow tb nL ret) : va_K K.2.2.1 zcls (tyk K) s := B.2.2.2.2.2.1
theorem Bx2.sx (B : Bx2 (p, l, e, R, s, m, args, below, meth, c, Q, K, A0, res, mo, fA, fd) ow tb nL ret) : S2 K (Ax K) s s.heap := B.2.2.2.2.2.2.1
theorem Bx2.rt (B : Bx2 (p, l, e, R, s, m, args, below, meth, c, Q, K, A0, res, mo, fA, fd) ow tb nL ret) : meth.sig.returnType = ret := B.2.2.2.2.2.2.2.1
theorem Bx2.lk (B : Bx2 (p, l, e, R, s, m, args, below, meth, c, Q, K, A0, res, mo, fA, fd) ow tb nL ret) : meth.locks = false := B.2.2.2.2.2.2.2.2.1
theorem Bx2.hz (B : Bx2 (p, l, e, R, s, m, args, below, meth, c, Q, K, A0, res, mo, fA, fd) ow tb nL ret) : s.heap.size = K.1 + A0.1 := B.2.2.2.2.2.2.2.2.2.1
theorem Bx2.rm (B : Bx2 (p, l, e, R, s, m, args, below, meth, c, Q, K, A0, res, mo, fA, fd) ow tb nL ret) : R.cells = fA.1 - A0.1 ∧ R.slots = fA.2.1 - A0.2.1 := B.2.2.2.2.2.2.2.2.2.2
theorem Bx2.room (B : Bx2 (p, l, e, R, s, m, args, below, meth, c, Q, K, A0, res, mo, fA, fd) ow tb nL ret) (hg : inv2 A0 A fA) : A.1 - A0.1 ≤ R.cells ∧ A.2.1 - A0.2.1 ≤ R.slots := by
  have h1 := B.rm
  have h2 := hg.2.2
  omega
theorem w_hz (B : Bx2 (p, l, e, R, s, m, args, below, meth, c, Q, K, A0, res, mo, fA, fd) ow tb nL ret) (hg : inv2 A0 A fA) (hP : va_P K.2.2.1 zcls (w2 K mm A dm) H) {sl : Nat} {g : JFrame} (k : H.size = K.1 + A.1 → W p l e R s m args below meth c H locs (A.1 - A0.1) sl Q g) : W p l e R s m args below meth c H locs (A.1 - A0.1) sl Q g := by
  intro T hT X
  have h1 := X.heapSize
  rw [hT, B.hz] at h1
  have h2 := hz_lo hg.1 hP
  have h3 := hg.2.1
  exact k (by omega) T hT X
/-- what a method's end asks, out of the state there -/
theorem Wd2_end (B : Bx2 (p, l, e, R, s, m, args, below, meth, c, Q, K, A0, res, mo, fA, fd) ow tb nL ret) (hA : okA A) (hz : H.size = K.1 + A.1) (hP : va_P K.2.2.1 zcls (w2 K mm A dm) H) (hS : va_S (Ax K) s.heap H locs) {t : State} (ht : t.heap = H) (hW : s.WarmedH t.vm) : Wd2 K mm A dm t := by
  refine ⟨hA, by rw [ht]; exact hz, by rw [ht]; exact hP, va_K.moved hW.alike B.kk, ?_⟩
  rw [ht]
  exact B.sx.go hW (fun q hq => hq) hS.2.1
theorem Wd2_blind {av : List Value} : FrameBlind (va_Pc av (Wd2 K mm A dm)) := fun a U g mk q =>
  ⟨q.1, q.2.1, q.2.2.1, q.2.2.2.1, va_K.moved (u := U) (U := U.calling g mk a) (Vm.Alike.refl U.vm) q.2.2.2.2.1, fun x m => va_Nw.same rfl (u := U) (U := U.calling g mk a) rfl (q.2.2.2.2.2.1 x m), fun w m => va_Nw.same (tf_ok m).2 (u := U) (U := U.calling g mk a) rfl (q.2.2.2.2.2.2.1 w m), fun x m => va_Nw.same rfl (u := U) (U := U.calling g mk a) rfl (q.2.2.2.2.2.2.2.1 x m), va_AO.moved (u := U) (U := U.calling g mk a) (Vm.Alike.refl U.vm) q.2.2.2.2.2.2.2.2.1, oaw.moved (u := U) (U := U.calling g mk a) (Vm.Alike.refl U.vm) q.2.2.2.2.2.2.2.2.2.1, va_Z.moved (u := U) (U := U.calling g mk a) (Vm.Alike.refl U.vm) q.2.2.2.2.2.2.2.2.2.2.1, q.2.2.2.2.2.2.2.2.2.2.2⟩
theorem Wd2_call (B : Bx2 (p, l, e, R, s, m, args, below, meth, c, Q, K, A0, res, mo, fA, fd) ow tb nL ret) (hA : okA A) (hz : H.size = K.1 + A.1) (hP : va_P K.2.2.1 zcls (w2 K mm A dm) H) (hS : va_S (Ax K) s.heap H locs) (av : List Value) : ∀ U : State, U.heap = H → s.WarmedH U.vm → va_Pc av (Wd2 K mm A dm) av.toArray U := fun U hU hW => ⟨rfl, Wd2_end B hA hz hP hS hU hW⟩
/-- a contract -/
def Ct2 (l : Launch) (K : KF) (y : MethodName) (bytes : ByteArray) (maxL : Nat) (ret : Option FieldType) (fr lo : Nat) (av : List Value) (mm : Mem) (A : AS) (dm : DM) (r : Option Value) (mo : Mem) (fA : AS) (fd : DM) : Prop :=
  A.1 ≤ fA.1 → A.2.1 ≤ fA.2.1 → Met l y (Cond.code y bytes maxL ret :: TW) ({ frames := fr, cells := fA.1 - A.1, slots := fA.2.1 - A.2.1, locals := lo }) (va_Pc (av.map (cvv (kc K))) (Wd2 K mm A dm)) (Q2 K A r mo fA fd) (fA.1 - A.1) (fA.2.1 - A.2.1) (Ax K)
theorem Ct2.of {l : Launch} {K : KF} {y : MethodName} {bytes : ByteArray} {nL fr lo : Nat} {ret : Option FieldType} {av : List Value} {mm mo : Mem} {A fA : AS} {dm fd : DM} {r : Option Value} {tb : Tb} (hy : plainName y.cls = true) (hcode : Cond.code y bytes nL ret ∈ TW) (htb : ∀ q ∈ tb, decode bytes q.1 = .ok (q.2.1, q.2.2.1) ∧ q.1 + q.2.2.1 = q.2.2.2) (hlen : (lg_sl (av.map (fun v => match v with | .long _ => Value.long 0 | .double _ => .double 0 | _ => .null))).length ≤ nL)
    (body : ∀ E : Ev2, Bx2 E y.cls tb nL ret → Rt2 E → Rs2 E r mo fA fd → Ec2 E l K fr lo → (y.name = "<init>" → In2 E) → G2 E nL 0 (lv_args 0 av) [] mm A dm) : Ct2 l K y bytes nL ret fr lo av mm A dm r mo fA fd := by
  intro hm1 hm2
  refine Met.ofW (cc := bytes) (maxL := nL) (ret := ret) hy rfl ?_
  intro p e s m args below meth c s₁ B hml hv
  obtain ⟨rfl, hok, hz, hP, hK, hSx⟩ := hv
  have hts : ∀ w ∈ TW, w.before (av.map (cvv (kc K))).toArray s = true := fun w hw => atoms_spec (ws := Cond.code y bytes nL ret :: TW) B.pre w (List.mem_cons_of_mem _ hw)
  have hB : Bx2 (p, l, e, ({ frames := fr, cells := fA.1 - A.1, slots := fA.2.1 - A.2.1, locals := lo } : Room), s, m, (av.map (cvv (kc K))).toArray, below, meth, c, MQ below (Q2 K A r mo fA fd) (av.map (cvv (kc K))).toArray s (fA.1 - A.1) (fA.2.1 - A.2.1) (Ax K), K, A, r, mo, fA, fd) y.cls tb nL ret :=
    ⟨B.exec, fun q hq => by rw [B.bytes]; exact htb q hq, hml, findClass_of_methodNamed B.named, hts, hK, hSx, B.returns, B.notSynchronized, hz, rfl, rfl⟩
  have hG := body _ hB rfl ⟨rfl, rfl, rfl, rfl⟩ ⟨rfl, rfl, rfl, rfl⟩ (fun h => (name_of_methodNamed B.named B.method).1.trans h)
  have hll : ∀ (a : List Value), (lg_sl (a.map (cvv (kc K)))).length = (lg_sl (a.map (fun v => match v with | .long _ => Value.long 0 | .double _ => .double 0 | _ => .null))).length := by
    intro a
    induction a with
    | nil => rfl
    | cons v a ih =>
      simp only [lg_sl, List.map_cons, List.flatMap_cons, List.length_append] at ih ⊢
      rw [ih]
      congr 1
      cases v <;> rfl
  have hl := lv_entry (av.map (cvv (kc K))) (n := nL) (by rw [hll]; exact hlen)
  rw [lg_entry_eq]
  generalize (lg_sl (av.map (cvv (kc K))) ++ List.replicate (nL - (lg_sl (av.map (cvv (kc K)))).length) Slot.unset).toArray = ls at hl ⊢
  have hmap : ∀ (a : List Value) (i : Nat), lv_args i (a.map (cvv (kc K))) = (lv_args i a).map (fun q => (q.1, cvv (kc K) q.2)) := by
    intro a
    induction a with
    | nil => intro i; rfl
    | cons v a ih =>
      intro i
      simp only [List.map_cons, lv_args, cvv_cat, ih]
  rw [hmap] at hl
  have := hG s.heap [] ls ⟨hok, ⟨Nat.le_refl _, Nat.le_refl _⟩, hm1, hm2⟩ hP va_S.rf hl
  rw [Nat.sub_self, Nat.sub_self] at this
  exact this
/-- a call's answer -/
theorem z2call (B : Bx2 (p, l, e, R, s, m, args, below, meth, c, Q, K, A0, res, mo, fA, fd) ow tb nL ret) {r : Option Value} {mm' : Mem} {A' : AS} {dm' : DM} {a : Array Value} {st0 st2 : List Value} (hg : inv2 A0 A fA) (hS : va_S (Ax K) s.heap H locs) (hm : (A.1 ≤ A'.1 ∧ A.2.1 ≤ A'.2.1) ∧ A'.1 ≤ fA.1 ∧ A'.2.1 ≤ fA.2.1) (hr : va_Run p l e R s m args below meth c H locs (A.1 - A0.1) (A.2.1 - A0.2.1) (A'.1 - A.1) (A'.2.1 - A.2.1) (F0 m pc ls st0) st2 (Q2 K A r mm' A' dm' a) (Ax K))
    (k : ∀ (H1 : Heap) (locs1 : List Loc), inv2 A0 A' fA → va_P K.2.2.1 zcls (w2 K mm' A' dm') H1 → va_S (Ax K) s.heap H1 locs1 → W p l e R s m args below meth c H1 locs1 (A'.1 - A0.1) (A'.2.1 - A0.2.1) Q (F0 m (pc + 3) ls ((r.map (cvv (kc K))).toList ++ st2))) : W p l e R s m args below meth c H locs (A.1 - A0.1) (A.2.1 - A0.2.1) Q (F0 m pc ls st0) := by
  intro T hT X
  obtain ⟨v, st₀, t, T', L, h0, X', hL, e1, e2, ⟨hv, hWd, hF⟩, st⟩ := hr T hT X
  cases hv
  obtain ⟨-, -, hS1⟩ := kp_keep h0 e1 hS (fun q _ h => h) (fun q h => h) hL hF
  have hc1 : A.1 - A0.1 + (A'.1 - A.1) = A'.1 - A0.1 := by have := hg.2.1; omega
  have hc2 : A.2.1 - A0.2.1 + (A'.2.1 - A.2.1) = A'.2.1 - A0.2.1 := by have := hg.2.1; omega
  rw [hc1, hc2] at X'
  obtain ⟨t2, a1, b1⟩ := k T'.heap (locs ++ L) ⟨hWd.1, by have := hg.2.1; omega, hm.2⟩ (by rw [e1]; exact hWd.2.2.1) hS1 T' rfl X'
  exact ⟨t2, st t2 a1, b1⟩
end B2S

def okd (A : AS) (q ci : Nat) : Prop := (1 ≤ q ∧ q ≤ A.1) ∧ (A.2.2.1 q).1 = ci
theorem okd_liv {A : AS} {q ci : Nat} (h : okd A q ci) (hc : ci ≠ 0) : liv A q = true := liv_iff.mpr ⟨h.1.1, h.1.2, by rw [h.2]; exact hc⟩
theorem cld_obj {K : KF} {A : AS} {q ci : Nat} {f : Nat → Value} (hc : ci < 11) (h : okd A q ci) : cld K (A.2.2.1 q) f = .inr (ci, (List.range (nfl ci)).map (fun k => cvv (kc K) (f k))) := by
  unfold cld
  rw [h.2, if_pos hc]
theorem cld_int {K : KF} {A : AS} {q : Nat} {f : Nat → Value} (h : okd A q 20) : cld K (A.2.2.1 q) f = .inl (K.2.2.2.1, (A.2.2.1 q).2, .inl (fun i => vint (f i))) := by
  unfold cld
  rw [h.2]
  rfl
theorem cld_row {K : KF} {A : AS} {q : Nat} {f : Nat → Value} (h : okd A q 21) : cld K (A.2.2.1 q) f = .inl (K.2.2.2.2.1, (A.2.2.1 q).2, .inr (.inr (.inr (.inr (fun i => vrf K (f i)))))) := by
  unfold cld
  rw [h.2]
  rfl
theorem cld_grid {K : KF} {A : AS} {q : Nat} {f : Nat → Value} (h : okd A q 22) : cld K (A.2.2.1 q) f = .inl (K.2.2.2.2.2, (A.2.2.1 q).2, .inr (.inr (.inr (.inr (fun i => vrf K (f i)))))) := by
  unfold cld
  rw [h.2]
  rfl
theorem up3_ne {dm : DM} {c i a : Nat} {v : Value} (h : a ≠ c) : up3 dm c i v a = dm a := by
  funext j
  simp [up3, h]
theorem up3_self (dm : DM) (c i : Nat) (v : Value) (j : Nat) : up3 dm c i v c j = if j = i then v else dm c j := by
  simp [up3]
theorem fset_up3 (K : KF) (dm : DM) (q N kf : Nat) (v : Value) : ((List.range N).map (fun k => cvv (kc K) (dm q k))).set kf (cvv (kc K) v) = (List.range N).map (fun k => cvv (kc K) (up3 dm q kf v q k)) := by
  apply List.ext_getElem?
  intro j
  by_cases hj : j = kf
  · subst hj
    by_cases hl : j < N
    · rw [List.getElem?_set_self (by rw [List.length_map, List.length_range]; exact hl), List.getElem?_map, List.getElem?_range hl, Option.map_some, up3_self, if_pos rfl]
    · rw [List.getElem?_eq_none (by rw [List.length_set, List.length_map, List.length_range]; omega), List.getElem?_eq_none (by rw [List.length_map, List.length_range]; omega)]
  · rw [List.getElem?_set_ne (Ne.symm hj), List.getElem?_map, List.getElem?_map]
    by_cases hl : j < N
    · rw [List.getElem?_range hl, Option.map_some, Option.map_some, up3_self, if_neg hj]
    · rw [List.getElem?_eq_none (by rw [List.length_range]; omega)]
      rfl
def bfl (ci k : Nat) : Option (String × String × String) := match zcls[ci]? with
  | some x => if k < x.2.2 then some ((x.2.1 k).1, (x.2.1 k).2.1, (x.2.1 k).2.2.1) else none
  | none => none
theorem bfl_spec {ci k : Nat} {rn nm d : String} (h : bfl ci k = some (rn, nm, d)) : ∃ x : vw_C, zcls[ci]? = some x ∧ k < x.2.2 ∧ (x.2.1 k).1 = rn ∧ (x.2.1 k).2.1 = nm ∧ (x.2.1 k).2.2.1 = d := by
  unfold bfl at h
  cases hx : zcls[ci]? with
  | none => rw [hx] at h; cases h
  | some x =>
    rw [hx] at h
    dsimp only at h
    by_cases hk : k < x.2.2
    · rw [if_pos hk] at h
      cases h
      exact ⟨x, rfl, hk, rfl, rfl, rfl⟩
    · rw [if_neg hk] at h
      cases h
theorem vint_up (dm : DM) (q i : Nat) (v : Int32) : (fun j => vint (up3 dm q i (.int v) q j)) = upd (fun j => vint (dm q j)) i v := by
  funext j
  rw [up3_self]
  unfold upd
  by_cases hj : j = i <;> simp [hj, vint]
theorem vrf_up (K : KF) (dm : DM) (q i : Nat) (v : Nat) : (fun j => vrf K (up3 dm q i (.ref v) q j)) = va_up (fun j => vrf K (dm q j)) i (some (adr K v)) := by
  funext j
  rw [up3_self]
  unfold va_up
  by_cases hj : j = i <;> simp [hj, vrf]
theorem vrf_upN (K : KF) (dm : DM) (q i : Nat) : (fun j => vrf K (up3 dm q i .null q j)) = va_up (fun j => vrf K (dm q j)) i none := by
  funext j
  rw [up3_self]
  unfold va_up
  by_cases hj : j = i <;> simp [hj, vrf]
def tf_chk (i : Nat) (w : Cond) : Bool := decide (lw_tbl[i]? = some w) && (w.faceAtom && w.onTables)
theorem tf_of {i : Nat} {w : Cond} (h : tf_chk i w = true) : w ∈ TF := by
  unfold tf_chk at h
  rw [Bool.and_eq_true, decide_eq_true_eq] at h
  exact List.mem_filter.mpr ⟨List.mem_of_getElem? h.1, h.2⟩
def lenA (A : AS) (q : Nat) : Nat := if q = 0 then 0 else (A.2.2.1 q).2
theorem lenA_pos {A : AS} {q ci : Nat} (h : okd A q ci) : lenA A q = (A.2.2.1 q).2 := by
  unfold lenA
  rw [if_neg (by have := h.1.1; omega)]
theorem cfg_dj {K : KF} {A : AS} (_h : okA A) : Dj (cfg K A.2.2.2) := by
  intro i j hi _ hj _ h
  have h' : K.1 + (A.2.2.2 - 1) + (i - 14) = K.1 + (A.2.2.2 - 1) + (j - 14) := h
  omega
/-- rows in a row: the outer one with n places, then j of four numbers each -/
def grd (A : AS) (dm : DM) (N : Nat) : Nat → AS × DM
  | 0 => (nw A 22 N N, nwm A dm (fun i => if i < N then .ref (A.1 + 2 + i) else .null))
  | j + 1 => (nw (grd A dm N j).1 20 4 4, nwm (grd A dm N j).1 (grd A dm N j).2 (fun _ => .int 0))
theorem grd_sz (A : AS) (dm : DM) (N j : Nat) : (grd A dm N j).1.1 = A.1 + (1 + j) ∧ (grd A dm N j).1.2.1 = A.2.1 + (N + j * 4) ∧ (grd A dm N j).1.2.2.2 = A.2.2.2 := by
  induction j with
  | zero => exact ⟨rfl, rfl, rfl⟩
  | succ j ih =>
    refine ⟨?_, ?_, ih.2.2⟩
    · show (grd A dm N j).1.1 + 1 = _
      omega
    · show (grd A dm N j).1.2.1 + 4 = _
      omega
theorem grd_ok {A : AS} {dm : DM} (h : okA A) (N j : Nat) : okA (grd A dm N j).1 := by
  induction j with
  | zero => exact okA_nw h (by decide)
  | succ j ih => exact okA_nw ih (by decide)
theorem grd_P {K : KF} {mm : Mem} {A : AS} {dm : DM} {D : va_G} {H : Heap} (N : Nat) (hout : H[K.1 + A.1]? = some (vp_cell K.2.2.2.2.2 (N, .inr (.inr (.inr (.inr (fun i => if i < N then some (K.1 + A.1 + 1 + i) else none))))))) (hrow : ∀ j : Nat, j < N → H[K.1 + A.1 + 1 + j]? = some (vp_cell K.2.2.2.1 (4, .inl (fun _ => 0)))) (j : Nat) (hj : j ≤ N) (hP : va_P D zcls (w2 K mm A dm) H) : va_P D zcls (w2 K mm (grd A dm N j).1 (grd A dm N j).2) H := by
  have one : ∀ {x : Nat × va_E}, va_at D zcls x H → va_P D zcls [x] H := by
    intro x h k q hq
    have h0 : k < 1 := (List.getElem?_eq_some_iff.mp hq).1
    rw [show k = 0 by omega] at hq
    cases hq
    exact h
  induction j with
  | zero =>
    show va_P D zcls (w2 K mm (nw A 22 N N) (nwm A dm _)) H
    rw [w2_nw (by decide)]
    refine hP.app (one ?_)
    show H[K.1 + A.1]? = some (vp_cell K.2.2.2.2.2 (N, .inr (.inr (.inr (.inr _)))))
    rw [hout]
    congr 7
    funext i
    by_cases hi : i < N
    · dsimp only
      rw [if_pos hi, if_pos hi]
      show some _ = some (adr K (A.1 + 2 + i))
      rw [adr_pos (by omega)]
      congr 1
      omega
    · dsimp only
      rw [if_neg hi, if_neg hi]
      rfl
  | succ j ih =>
    show va_P D zcls (w2 K mm (nw (grd A dm N j).1 20 4 4) (nwm (grd A dm N j).1 (grd A dm N j).2 _)) H
    rw [w2_nw (by decide)]
    refine (ih (by omega)).app (one ?_)
    show H[K.1 + (grd A dm N j).1.1]? = some (vp_cell K.2.2.2.1 (4, .inl _))
    rw [(grd_sz A dm N j).1, show K.1 + (A.1 + (1 + j)) = K.1 + A.1 + 1 + j by omega]
    exact hrow j (by omega)
section B2F
variable {p : Program} {l : Launch} {e : Env} {R : Room} {s : State} {m : MethodId} {args : Array Value} {below : List Frame} {meth : Method} {c : Code} {Q : State → Prop} {K : KF} {A0 fA : AS} {fd : DM} {res : Option Value} {mo : Mem} {ow : String} {tb : Tb} {nL : Nat} {ret : Option FieldType}
variable {pc : Nat} {mm : Mem} {A : AS} {dm : DM} {H : Heap} {locs : List Loc} {ls : Array Slot}
theorem z2callF (B : Bx2 (p, l, e, R, s, m, args, below, meth, c, Q, K, A0, res, mo, fA, fd) ow tb nL ret) {r : Option Value} {mm' : Mem} {A' : AS} {dm' : DM} {a : Array Value} {st0 st2 : List Value} (hg : inv2 A0 A fA) (hS : va_S (Ax K) s.heap H locs) (hm : (A.1 ≤ A'.1 ∧ A.2.1 ≤ A'.2.1) ∧ A'.1 ≤ fA.1 ∧ A'.2.1 ≤ fA.2.1) (hr : va_Run5 p l e R s m args below meth c H locs (A.1 - A0.1) (A.2.1 - A0.2.1) (A'.1 - A.1) (A'.2.1 - A.2.1) (F0 m pc ls st0) st2 (Q2 K A r mm' A' dm' a) (Ax K))
    (k : ∀ (H1 : Heap) (locs1 : List Loc), inv2 A0 A' fA → va_P K.2.2.1 zcls (w2 K mm' A' dm') H1 → va_S (Ax K) s.heap H1 locs1 → W p l e R s m args below meth c H1 locs1 (A'.1 - A0.1) (A'.2.1 - A0.2.1) Q (F0 m (pc + 5) ls ((r.map (cvv (kc K))).toList ++ st2))) : W p l e R s m args below meth c H locs (A.1 - A0.1) (A.2.1 - A0.2.1) Q (F0 m pc ls st0) := by
  intro T hT X
  obtain ⟨v, st₀, t, T', L, h0, X', hL, e1, e2, ⟨hv, hWd, hF⟩, st⟩ := hr T hT X
  cases hv
  obtain ⟨-, -, hS1⟩ := kp_keep h0 e1 hS (fun q _ h => h) (fun q h => h) hL hF
  have hc1 : A.1 - A0.1 + (A'.1 - A.1) = A'.1 - A0.1 := by have := hg.2.1; omega
  have hc2 : A.2.1 - A0.2.1 + (A'.2.1 - A.2.1) = A'.2.1 - A0.2.1 := by have := hg.2.1; omega
  rw [hc1, hc2] at X'
  obtain ⟨t2, a1, b1⟩ := k T'.heap (locs ++ L) ⟨hWd.1, by have := hg.2.1; omega, hm.2⟩ (by rw [e1]; exact hWd.2.2.1) hS1 T' rfl X'
  exact ⟨t2, st t2 a1, b1⟩
end B2F
end
section
theorem w_iadd {E : Ev2} {own : String} {tb : Tb} {nL : Nat} {ret : Option FieldType} {pc nx : Nat} {lv : Lv} {st : List Value} {mm : Mem} {A : AS} {dm : DM} {x y : Int32} (B : Bx2 E own tb nL ret) (i : Nat) (h : tb[i]? = some (pc, .iadd, 1, nx)) (k : G2 E nL nx lv (.int (x + y) :: st) mm A dm) : G2 E nL pc lv (.int y :: .int x :: st) mm A dm := by
  obtain ⟨p, l, e, R, s, m, args, below, meth, c, Q, K, A0, res, mo, fA, fd⟩ := E
  obtain ⟨hd, hn⟩ := Bx2.dec B h
  subst hn
  intro H locs ls hg hP hS hl
  exact lv_iadd B.1 rfl hd (k H locs ls hg hP hS hl)
theorem w_isub {E : Ev2} {own : String} {tb : Tb} {nL : Nat} {ret : Option FieldType} {pc nx : Nat} {lv : Lv} {st : List Value} {mm : Mem} {A : AS} {dm : DM} {x y : Int32} (B : Bx2 E own tb nL ret) (i : Nat) (h : tb[i]? = some (pc, .isub, 1, nx)) (k : G2 E nL nx lv (.int (x - y) :: st) mm A dm) : G2 E nL pc lv (.int y :: .int x :: st) mm A dm := by
  obtain ⟨p, l, e, R, s, m, args, below, meth, c, Q, K, A0, res, mo, fA, fd⟩ := E
  obtain ⟨hd, hn⟩ := Bx2.dec B h
  subst hn
  intro H locs ls hg hP hS hl
  exact lv_isub B.1 rfl hd (k H locs ls hg hP hS hl)
theorem w_imul {E : Ev2} {own : String} {tb : Tb} {nL : Nat} {ret : Option FieldType} {pc nx : Nat} {lv : Lv} {st : List Value} {mm : Mem} {A : AS} {dm : DM} {x y : Int32} (B : Bx2 E own tb nL ret) (i : Nat) (h : tb[i]? = some (pc, .imul, 1, nx)) (k : G2 E nL nx lv (.int (x * y) :: st) mm A dm) : G2 E nL pc lv (.int y :: .int x :: st) mm A dm := by
  obtain ⟨p, l, e, R, s, m, args, below, meth, c, Q, K, A0, res, mo, fA, fd⟩ := E
  obtain ⟨hd, hn⟩ := Bx2.dec B h
  subst hn
  intro H locs ls hg hP hS hl
  exact lv_imul B.1 rfl hd (k H locs ls hg hP hS hl)
theorem w_iand {E : Ev2} {own : String} {tb : Tb} {nL : Nat} {ret : Option FieldType} {pc nx : Nat} {lv : Lv} {st : List Value} {mm : Mem} {A : AS} {dm : DM} {x y : Int32} (B : Bx2 E own tb nL ret) (i : Nat) (h : tb[i]? = some (pc, .iand, 1, nx)) (k : G2 E nL nx lv (.int (x &&& y) :: st) mm A dm) : G2 E nL pc lv (.int y :: .int x :: st) mm A dm := by
  obtain ⟨p, l, e, R, s, m, args, below, meth, c, Q, K, A0, res, mo, fA, fd⟩ := E
  obtain ⟨hd, hn⟩ := Bx2.dec B h
  subst hn
  intro H locs ls hg hP hS hl
  exact lv_iand B.1 rfl hd (k H locs ls hg hP hS hl)
theorem w_ior {E : Ev2} {own : String} {tb : Tb} {nL : Nat} {ret : Option FieldType} {pc nx : Nat} {lv : Lv} {st : List Value} {mm : Mem} {A : AS} {dm : DM} {x y : Int32} (B : Bx2 E own tb nL ret) (i : Nat) (h : tb[i]? = some (pc, .ior, 1, nx)) (k : G2 E nL nx lv (.int (x ||| y) :: st) mm A dm) : G2 E nL pc lv (.int y :: .int x :: st) mm A dm := by
  obtain ⟨p, l, e, R, s, m, args, below, meth, c, Q, K, A0, res, mo, fA, fd⟩ := E
  obtain ⟨hd, hn⟩ := Bx2.dec B h
  subst hn
  intro H locs ls hg hP hS hl
  exact lv_ior B.1 rfl hd (k H locs ls hg hP hS hl)
theorem w_ishl {E : Ev2} {own : String} {tb : Tb} {nL : Nat} {ret : Option FieldType} {pc nx : Nat} {lv : Lv} {st : List Value} {mm : Mem} {A : AS} {dm : DM} {x y : Int32} (B : Bx2 E own tb nL ret) (i : Nat) (h : tb[i]? = some (pc, .ishl, 1, nx)) (k : G2 E nL nx lv (.int (x <<< (y &&& 31)) :: st) mm A dm) : G2 E nL pc lv (.int y :: .int x :: st) mm A dm := by
  obtain ⟨p, l, e, R, s, m, args, below, meth, c, Q, K, A0, res, mo, fA, fd⟩ := E
  obtain ⟨hd, hn⟩ := Bx2.dec B h
  subst hn
  intro H locs ls hg hP hS hl
  exact lv_ishl B.1 rfl hd (k H locs ls hg hP hS hl)
theorem w_ishr {E : Ev2} {own : String} {tb : Tb} {nL : Nat} {ret : Option FieldType} {pc nx : Nat} {lv : Lv} {st : List Value} {mm : Mem} {A : AS} {dm : DM} {x y : Int32} (B : Bx2 E own tb nL ret) (i : Nat) (h : tb[i]? = some (pc, .ishr, 1, nx)) (k : G2 E nL nx lv (.int (x >>> (y &&& 31)) :: st) mm A dm) : G2 E nL pc lv (.int y :: .int x :: st) mm A dm := by
  obtain ⟨p, l, e, R, s, m, args, below, meth, c, Q, K, A0, res, mo, fA, fd⟩ := E
  obtain ⟨hd, hn⟩ := Bx2.dec B h
  subst hn
  intro H locs ls hg hP hS hl
  exact lv_ishr B.1 rfl hd (k H locs ls hg hP hS hl)
theorem w_iushr {E : Ev2} {own : String} {tb : Tb} {nL : Nat} {ret : Option FieldType} {pc nx : Nat} {lv : Lv} {st : List Value} {mm : Mem} {A : AS} {dm : DM} {x y : Int32} (B : Bx2 E own tb nL ret) (i : Nat) (h : tb[i]? = some (pc, .iushr, 1, nx)) (k : G2 E nL nx lv (.int ((x.toUInt32 >>> (y.toUInt32 &&& Int32.toUInt32 31)).toInt32) :: st) mm A dm) : G2 E nL pc lv (.int y :: .int x :: st) mm A dm := by
  obtain ⟨p, l, e, R, s, m, args, below, meth, c, Q, K, A0, res, mo, fA, fd⟩ := E
  obtain ⟨hd, hn⟩ := Bx2.dec B h
  subst hn
  intro H locs ls hg hP hS hl
  exact lv_iushr B.1 rfl hd rfl (k H locs ls hg hP hS hl)
theorem w_idiv {E : Ev2} {own : String} {tb : Tb} {nL : Nat} {ret : Option FieldType} {pc nx : Nat} {lv : Lv} {st : List Value} {mm : Mem} {A : AS} {dm : DM} {x y : Int32} (B : Bx2 E own tb nL ret) (i : Nat) (h : tb[i]? = some (pc, .idiv, 1, nx)) (hy : ¬ y = 0) (k : G2 E nL nx lv (.int (x / y) :: st) mm A dm) : G2 E nL pc lv (.int y :: .int x :: st) mm A dm := by
  obtain ⟨p, l, e, R, s, m, args, below, meth, c, Q, K, A0, res, mo, fA, fd⟩ := E
  obtain ⟨hd, hn⟩ := Bx2.dec B h
  subst hn
  intro H locs ls hg hP hS hl
  exact lv_idiv B.1 rfl hd hy (k H locs ls hg hP hS hl)
theorem w_ineg {E : Ev2} {own : String} {tb : Tb} {nL : Nat} {ret : Option FieldType} {pc nx : Nat} {lv : Lv} {st : List Value} {mm : Mem} {A : AS} {dm : DM} {x : Int32} (B : Bx2 E own tb nL ret) (i : Nat) (h : tb[i]? = some (pc, .ineg, 1, nx)) (k : G2 E nL nx lv (.int (-x) :: st) mm A dm) : G2 E nL pc lv (.int x :: st) mm A dm := by
  obtain ⟨p, l, e, R, s, m, args, below, meth, c, Q, K, A0, res, mo, fA, fd⟩ := E
  obtain ⟨hd, hn⟩ := Bx2.dec B h
  subst hn
  intro H locs ls hg hP hS hl
  exact lv_ineg B.1 rfl hd (k H locs ls hg hP hS hl)
theorem w_i2l {E : Ev2} {own : String} {tb : Tb} {nL : Nat} {ret : Option FieldType} {pc nx : Nat} {lv : Lv} {st : List Value} {mm : Mem} {A : AS} {dm : DM} {x : Int32} (B : Bx2 E own tb nL ret) (i : Nat) (h : tb[i]? = some (pc, .i2l, 1, nx)) (k : G2 E nL nx lv (.long (x.toInt64) :: st) mm A dm) : G2 E nL pc lv (.int x :: st) mm A dm := by
  obtain ⟨p, l, e, R, s, m, args, below, meth, c, Q, K, A0, res, mo, fA, fd⟩ := E
  obtain ⟨hd, hn⟩ := Bx2.dec B h
  subst hn
  intro H locs ls hg hP hS hl
  exact lv_i2l B.1 rfl hd rfl (k H locs ls hg hP hS hl)
theorem w_ladd {E : Ev2} {own : String} {tb : Tb} {nL : Nat} {ret : Option FieldType} {pc nx : Nat} {lv : Lv} {st : List Value} {mm : Mem} {A : AS} {dm : DM} {x y : Int64} (B : Bx2 E own tb nL ret) (i : Nat) (h : tb[i]? = some (pc, .ladd, 1, nx)) (k : G2 E nL nx lv (.long (x + y) :: st) mm A dm) : G2 E nL pc lv (.long y :: .long x :: st) mm A dm := by
  obtain ⟨p, l, e, R, s, m, args, below, meth, c, Q, K, A0, res, mo, fA, fd⟩ := E
  obtain ⟨hd, hn⟩ := Bx2.dec B h
  subst hn
  intro H locs ls hg hP hS hl
  exact lv_ladd B.1 rfl hd (k H locs ls hg hP hS hl)
theorem w_lsub {E : Ev2} {own : String} {tb : Tb} {nL : Nat} {ret : Option FieldType} {pc nx : Nat} {lv : Lv} {st : List Value} {mm : Mem} {A : AS} {dm : DM} {x y : Int64} (B : Bx2 E own tb nL ret) (i : Nat) (h : tb[i]? = some (pc, .lsub, 1, nx)) (k : G2 E nL nx lv (.long (x - y) :: st) mm A dm) : G2 E nL pc lv (.long y :: .long x :: st) mm A dm := by
  obtain ⟨p, l, e, R, s, m, args, below, meth, c, Q, K, A0, res, mo, fA, fd⟩ := E
  obtain ⟨hd, hn⟩ := Bx2.dec B h
  subst hn
  intro H locs ls hg hP hS hl
  exact lv_lsub B.1 rfl hd (k H locs ls hg hP hS hl)
theorem w_lmul {E : Ev2} {own : String} {tb : Tb} {nL : Nat} {ret : Option FieldType} {pc nx : Nat} {lv : Lv} {st : List Value} {mm : Mem} {A : AS} {dm : DM} {x y : Int64} (B : Bx2 E own tb nL ret) (i : Nat) (h : tb[i]? = some (pc, .lmul, 1, nx)) (k : G2 E nL nx lv (.long (x * y) :: st) mm A dm) : G2 E nL pc lv (.long y :: .long x :: st) mm A dm := by
  obtain ⟨p, l, e, R, s, m, args, below, meth, c, Q, K, A0, res, mo, fA, fd⟩ := E
  obtain ⟨hd, hn⟩ := Bx2.dec B h
  subst hn
  intro H locs ls hg hP hS hl
  exact lv_lmul B.1 rfl hd (k H locs ls hg hP hS hl)
theorem w_lcmp {E : Ev2} {own : String} {tb : Tb} {nL : Nat} {ret : Option FieldType} {pc nx : Nat} {lv : Lv} {st : List Value} {mm : Mem} {A : AS} {dm : DM} {x y : Int64} (B : Bx2 E own tb nL ret) (i : Nat) (h : tb[i]? = some (pc, .lcmp, 1, nx)) (k : G2 E nL nx lv (.int (lg_cmp x y) :: st) mm A dm) : G2 E nL pc lv (.long y :: .long x :: st) mm A dm := by
  obtain ⟨p, l, e, R, s, m, args, below, meth, c, Q, K, A0, res, mo, fA, fd⟩ := E
  obtain ⟨hd, hn⟩ := Bx2.dec B h
  subst hn
  intro H locs ls hg hP hS hl
  exact W.lcmp B.1 rfl hd (k H locs ls hg hP hS hl)
theorem w_iconst {E : Ev2} {own : String} {tb : Tb} {nL : Nat} {ret : Option FieldType} {pc nx : Nat} {lv : Lv} {st : List Value} {mm : Mem} {A : AS} {dm : DM} {n : Int} (v : Int32) (B : Bx2 E own tb nL ret) (i : Nat) (h : tb[i]? = some (pc, .iconst n, 1, nx)) (hv : Int32.ofInt n = v) (k : G2 E nL nx lv (.int v :: st) mm A dm) : G2 E nL pc lv st mm A dm := by
  obtain ⟨p, l, e, R, s, m, args, below, meth, c, Q, K, A0, res, mo, fA, fd⟩ := E
  obtain ⟨hd, hn⟩ := Bx2.dec B h
  subst hn
  intro H locs ls hg hP hS hl
  exact lv_iconst B.1 rfl hd hv (k H locs ls hg hP hS hl)
theorem w_bipush {E : Ev2} {own : String} {tb : Tb} {nL : Nat} {ret : Option FieldType} {pc nx : Nat} {lv : Lv} {st : List Value} {mm : Mem} {A : AS} {dm : DM} {n : Int} (v : Int32) (B : Bx2 E own tb nL ret) (i : Nat) (h : tb[i]? = some (pc, .bipush n, 2, nx)) (hv : (Int8.ofInt n).toInt32 = v) (k : G2 E nL nx lv (.int v :: st) mm A dm) : G2 E nL pc lv st mm A dm := by
  obtain ⟨p, l, e, R, s, m, args, below, meth, c, Q, K, A0, res, mo, fA, fd⟩ := E
  obtain ⟨hd, hn⟩ := Bx2.dec B h
  subst hn
  intro H locs ls hg hP hS hl
  exact lv_bipush B.1 rfl hd hv (k H locs ls hg hP hS hl)
theorem w_sipush {E : Ev2} {own : String} {tb : Tb} {nL : Nat} {ret : Option FieldType} {pc nx : Nat} {lv : Lv} {st : List Value} {mm : Mem} {A : AS} {dm : DM} {n : Int} (v : Int32) (B : Bx2 E own tb nL ret) (i : Nat) (h : tb[i]? = some (pc, .sipush n, 3, nx)) (hv : (Int16.ofInt n).toInt32 = v) (k : G2 E nL nx lv (.int v :: st) mm A dm) : G2 E nL pc lv st mm A dm := by
  obtain ⟨p, l, e, R, s, m, args, below, meth, c, Q, K, A0, res, mo, fA, fd⟩ := E
  obtain ⟨hd, hn⟩ := Bx2.dec B h
  subst hn
  intro H locs ls hg hP hS hl
  exact lv_sipush B.1 rfl hd hv (k H locs ls hg hP hS hl)
theorem w_lconst {E : Ev2} {own : String} {tb : Tb} {nL : Nat} {ret : Option FieldType} {pc nx : Nat} {lv : Lv} {st : List Value} {mm : Mem} {A : AS} {dm : DM} {n : Fin 2} (v : Int64) (B : Bx2 E own tb nL ret) (i : Nat) (h : tb[i]? = some (pc, .lconst n, 1, nx)) (hv : Int64.ofNat (n : Nat) = v) (k : G2 E nL nx lv (.long v :: st) mm A dm) : G2 E nL pc lv st mm A dm := by
  obtain ⟨p, l, e, R, s, m, args, below, meth, c, Q, K, A0, res, mo, fA, fd⟩ := E
  obtain ⟨hd, hn⟩ := Bx2.dec B h
  subst hn
  intro H locs ls hg hP hS hl
  exact lv_lconst B.1 rfl hd hv (k H locs ls hg hP hS hl)
theorem w_ldc {E : Ev2} {own : String} {tb : Tb} {nL : Nat} {ret : Option FieldType} {pc nx : Nat} {lv : Lv} {st : List Value} {mm : Mem} {A : AS} {dm : DM} {n : Nat} (v : Int32) (B : Bx2 E own tb nL ret) (i : Nat) (h : tb[i]? = some (pc, .ldc n, 2, nx)) (hw : Cond.constant own n v ∈ TW) (k : G2 E nL nx lv (.int v :: st) mm A dm) : G2 E nL pc lv st mm A dm := by
  obtain ⟨p, l, e, R, s, m, args, below, meth, c, Q, K, A0, res, mo, fA, fd⟩ := E
  obtain ⟨hd, hn⟩ := Bx2.dec B h
  subst hn
  intro H locs ls hg hP hS hl
  exact lv_ldc B.1 rfl B.hown (B.tw _ hw) hd (k H locs ls hg hP hS hl)
theorem w_ldc2 {E : Ev2} {own : String} {tb : Tb} {nL : Nat} {ret : Option FieldType} {pc nx : Nat} {lv : Lv} {st : List Value} {mm : Mem} {A : AS} {dm : DM} {n : Nat} (v : Int64) (B : Bx2 E own tb nL ret) (i : Nat) (h : tb[i]? = some (pc, .ldc2_w n, 3, nx)) (hw : Cond.constantLong own n v ∈ TW) (k : G2 E nL nx lv (.long v :: st) mm A dm) : G2 E nL pc lv st mm A dm := by
  obtain ⟨p, l, e, R, s, m, args, below, meth, c, Q, K, A0, res, mo, fA, fd⟩ := E
  obtain ⟨hd, hn⟩ := Bx2.dec B h
  subst hn
  intro H locs ls hg hP hS hl
  exact lv_ldc2 B.1 rfl B.hown (B.tw _ hw) hd (k H locs ls hg hP hS hl)
theorem w_iload_n {E : Ev2} {own : String} {tb : Tb} {nL : Nat} {ret : Option FieldType} {pc nx : Nat} {lv : Lv} {st : List Value} {mm : Mem} {A : AS} {dm : DM} {x : Int32} {kk : Fin 4} (B : Bx2 E own tb nL ret) (i : Nat) (h : tb[i]? = some (pc, .iload_n kk, 1, nx)) (q j : Nat) (hq : (kk : Nat) = q) (hj : lv[j]? = some (q, .int x)) (k : G2 E nL nx lv (.int x :: st) mm A dm) : G2 E nL pc lv st mm A dm := by
  obtain ⟨p, l, e, R, s, m, args, below, meth, c, Q, K, A0, res, mo, fA, fd⟩ := E
  obtain ⟨hd, hn⟩ := Bx2.dec B h
  subst hn
  intro H locs ls hg hP hS hl
  exact lv_iload_n B.1 rfl hd hq (lv_at hl j (lvm hj)) (k H locs ls hg hP hS hl)
theorem w_iload {E : Ev2} {own : String} {tb : Tb} {nL : Nat} {ret : Option FieldType} {pc nx : Nat} {lv : Lv} {st : List Value} {mm : Mem} {A : AS} {dm : DM} {x : Int32} {q : Nat} (B : Bx2 E own tb nL ret) (i : Nat) (h : tb[i]? = some (pc, .iload q, 2, nx)) (j : Nat) (hj : lv[j]? = some (q, .int x)) (k : G2 E nL nx lv (.int x :: st) mm A dm) : G2 E nL pc lv st mm A dm := by
  obtain ⟨p, l, e, R, s, m, args, below, meth, c, Q, K, A0, res, mo, fA, fd⟩ := E
  obtain ⟨hd, hn⟩ := Bx2.dec B h
  subst hn
  intro H locs ls hg hP hS hl
  exact lv_iload B.1 rfl hd (lv_at hl j (lvm hj)) (k H locs ls hg hP hS hl)
theorem w_lload_n {E : Ev2} {own : String} {tb : Tb} {nL : Nat} {ret : Option FieldType} {pc nx : Nat} {lv : Lv} {st : List Value} {mm : Mem} {A : AS} {dm : DM} {x : Int64} {kk : Fin 4} (B : Bx2 E own tb nL ret) (i : Nat) (h : tb[i]? = some (pc, .lload_n kk, 1, nx)) (q j : Nat) (hq : (kk : Nat) = q) (hj : lv[j]? = some (q, .long x)) (k : G2 E nL nx lv (.long x :: st) mm A dm) : G2 E nL pc lv st mm A dm := by
  obtain ⟨p, l, e, R, s, m, args, below, meth, c, Q, K, A0, res, mo, fA, fd⟩ := E
  obtain ⟨hd, hn⟩ := Bx2.dec B h
  subst hn
  intro H locs ls hg hP hS hl
  exact lv_lload_n B.1 rfl hd hq (lv_at hl j (lvm hj)) (k H locs ls hg hP hS hl)
theorem w_lload {E : Ev2} {own : String} {tb : Tb} {nL : Nat} {ret : Option FieldType} {pc nx : Nat} {lv : Lv} {st : List Value} {mm : Mem} {A : AS} {dm : DM} {x : Int64} {q : Nat} (B : Bx2 E own tb nL ret) (i : Nat) (h : tb[i]? = some (pc, .lload q, 2, nx)) (j : Nat) (hj : lv[j]? = some (q, .long x)) (k : G2 E nL nx lv (.long x :: st) mm A dm) : G2 E nL pc lv st mm A dm := by
  obtain ⟨p, l, e, R, s, m, args, below, meth, c, Q, K, A0, res, mo, fA, fd⟩ := E
  obtain ⟨hd, hn⟩ := Bx2.dec B h
  subst hn
  intro H locs ls hg hP hS hl
  exact lv_lload B.1 rfl hd (lv_at hl j (lvm hj)) (k H locs ls hg hP hS hl)
theorem w_aload_n {E : Ev2} {own : String} {tb : Tb} {nL : Nat} {ret : Option FieldType} {pc nx : Nat} {lv : Lv} {st : List Value} {mm : Mem} {A : AS} {dm : DM} {x : Nat} {kk : Fin 4} (B : Bx2 E own tb nL ret) (i : Nat) (h : tb[i]? = some (pc, .aload_n kk, 1, nx)) (q j : Nat) (hq : (kk : Nat) = q) (hj : lv[j]? = some (q, .ref x)) (k : G2 E nL nx lv (.ref x :: st) mm A dm) : G2 E nL pc lv st mm A dm := by
  obtain ⟨p, l, e, R, s, m, args, below, meth, c, Q, K, A0, res, mo, fA, fd⟩ := E
  obtain ⟨hd, hn⟩ := Bx2.dec B h
  subst hn
  intro H locs ls hg hP hS hl
  exact lv_aload_n B.1 rfl hd hq (lv_at hl j (lvm hj)) (k H locs ls hg hP hS hl)
theorem w_aload {E : Ev2} {own : String} {tb : Tb} {nL : Nat} {ret : Option FieldType} {pc nx : Nat} {lv : Lv} {st : List Value} {mm : Mem} {A : AS} {dm : DM} {x : Nat} {q : Nat} (B : Bx2 E own tb nL ret) (i : Nat) (h : tb[i]? = some (pc, .aload q, 2, nx)) (j : Nat) (hj : lv[j]? = some (q, .ref x)) (k : G2 E nL nx lv (.ref x :: st) mm A dm) : G2 E nL pc lv st mm A dm := by
  obtain ⟨p, l, e, R, s, m, args, below, meth, c, Q, K, A0, res, mo, fA, fd⟩ := E
  obtain ⟨hd, hn⟩ := Bx2.dec B h
  subst hn
  intro H locs ls hg hP hS hl
  exact lv_aload B.1 rfl hd (lv_at hl j (lvm hj)) (k H locs ls hg hP hS hl)
theorem w_istore_n {E : Ev2} {own : String} {tb : Tb} {nL : Nat} {ret : Option FieldType} {pc nx : Nat} {lv : Lv} {st : List Value} {mm : Mem} {A : AS} {dm : DM} {x : Int32} {kk : Fin 4} (lv' : Lv) (B : Bx2 E own tb nL ret) (i : Nat) (h : tb[i]? = some (pc, .istore_n kk, 1, nx)) (q : Nat) (hq : (kk : Nat) = q) (hn : q < nL) (hl' : zs1 lv q (.int x) = lv') (k : G2 E nL nx lv' st mm A dm) : G2 E nL pc lv (.int x :: st) mm A dm := by
  subst hl'
  obtain ⟨p, l, e, R, s, m, args, below, meth, c, Q, K, A0, res, mo, fA, fd⟩ := E
  obtain ⟨hd, hn⟩ := Bx2.dec B h
  subst hn
  intro H locs ls hg hP hS hl
  exact lv_istore_n B.1 rfl hd hq hl hn (zs1_map (kc K) lv q (.int x)) (fun ls' hl' => k H locs ls' hg hP hS hl')
theorem w_istore {E : Ev2} {own : String} {tb : Tb} {nL : Nat} {ret : Option FieldType} {pc nx : Nat} {lv : Lv} {st : List Value} {mm : Mem} {A : AS} {dm : DM} {x : Int32} {q : Nat} (lv' : Lv) (B : Bx2 E own tb nL ret) (i : Nat) (h : tb[i]? = some (pc, .istore q, 2, nx)) (hn : q < nL) (hl' : zs1 lv q (.int x) = lv') (k : G2 E nL nx lv' st mm A dm) : G2 E nL pc lv (.int x :: st) mm A dm := by
  subst hl'
  obtain ⟨p, l, e, R, s, m, args, below, meth, c, Q, K, A0, res, mo, fA, fd⟩ := E
  obtain ⟨hd, hn⟩ := Bx2.dec B h
  subst hn
  intro H locs ls hg hP hS hl
  exact lv_istore B.1 rfl hd hl hn (zs1_map (kc K) lv q (.int x)) (fun ls' hl' => k H locs ls' hg hP hS hl')
theorem w_astore_n {E : Ev2} {own : String} {tb : Tb} {nL : Nat} {ret : Option FieldType} {pc nx : Nat} {lv : Lv} {st : List Value} {mm : Mem} {A : AS} {dm : DM} {x : Nat} {kk : Fin 4} (lv' : Lv) (B : Bx2 E own tb nL ret) (i : Nat) (h : tb[i]? = some (pc, .astore_n kk, 1, nx)) (q : Nat) (hq : (kk : Nat) = q) (hn : q < nL) (hl' : zs1 lv q (.ref x) = lv') (k : G2 E nL nx lv' st mm A dm) : G2 E nL pc lv (.ref x :: st) mm A dm := by
  subst hl'
  obtain ⟨p, l, e, R, s, m, args, below, meth, c, Q, K, A0, res, mo, fA, fd⟩ := E
  obtain ⟨hd, hn⟩ := Bx2.dec B h
  subst hn
  intro H locs ls hg hP hS hl
  exact lv_astore_n B.1 rfl hd hq hl hn (zs1_map (kc K) lv q (.ref x)) (fun ls' hl' => k H locs ls' hg hP hS hl')
theorem w_astore {E : Ev2} {own : String} {tb : Tb} {nL : Nat} {ret : Option FieldType} {pc nx : Nat} {lv : Lv} {st : List Value} {mm : Mem} {A : AS} {dm : DM} {x : Nat} {q : Nat} (lv' : Lv) (B : Bx2 E own tb nL ret) (i : Nat) (h : tb[i]? = some (pc, .astore q, 2, nx)) (hn : q < nL) (hl' : zs1 lv q (.ref x) = lv') (k : G2 E nL nx lv' st mm A dm) : G2 E nL pc lv (.ref x :: st) mm A dm := by
  subst hl'
  obtain ⟨p, l, e, R, s, m, args, below, meth, c, Q, K, A0, res, mo, fA, fd⟩ := E
  obtain ⟨hd, hn⟩ := Bx2.dec B h
  subst hn
  intro H locs ls hg hP hS hl
  exact lv_astore B.1 rfl hd hl hn (zs1_map (kc K) lv q (.ref x)) (fun ls' hl' => k H locs ls' hg hP hS hl')
theorem w_lstore_n {E : Ev2} {own : String} {tb : Tb} {nL : Nat} {ret : Option FieldType} {pc nx : Nat} {lv : Lv} {st : List Value} {mm : Mem} {A : AS} {dm : DM} {x : Int64} {kk : Fin 4} (lv' : Lv) (B : Bx2 E own tb nL ret) (i : Nat) (h : tb[i]? = some (pc, .lstore_n kk, 1, nx)) (q : Nat) (hq : (kk : Nat) = q) (hn : q + 1 < nL) (hl' : zs2 lv q (.long x) = lv') (k : G2 E nL nx lv' st mm A dm) : G2 E nL pc lv (.long x :: st) mm A dm := by
  subst hl'
  obtain ⟨p, l, e, R, s, m, args, below, meth, c, Q, K, A0, res, mo, fA, fd⟩ := E
  obtain ⟨hd, hn⟩ := Bx2.dec B h
  subst hn
  intro H locs ls hg hP hS hl
  exact lv_lstore_n B.1 rfl hd hq hl hn (zs2_map (kc K) lv q (.long x)) (fun ls' hl' => k H locs ls' hg hP hS hl')
theorem w_lstore {E : Ev2} {own : String} {tb : Tb} {nL : Nat} {ret : Option FieldType} {pc nx : Nat} {lv : Lv} {st : List Value} {mm : Mem} {A : AS} {dm : DM} {x : Int64} {q : Nat} (lv' : Lv) (B : Bx2 E own tb nL ret) (i : Nat) (h : tb[i]? = some (pc, .lstore q, 2, nx)) (hn : q + 1 < nL) (hl' : zs2 lv q (.long x) = lv') (k : G2 E nL nx lv' st mm A dm) : G2 E nL pc lv (.long x :: st) mm A dm := by
  subst hl'
  obtain ⟨p, l, e, R, s, m, args, below, meth, c, Q, K, A0, res, mo, fA, fd⟩ := E
  obtain ⟨hd, hn⟩ := Bx2.dec B h
  subst hn
  intro H locs ls hg hP hS hl
  exact lv_lstore B.1 rfl hd hl hn (zs2_map (kc K) lv q (.long x)) (fun ls' hl' => k H locs ls' hg hP hS hl')
theorem w_iinc {E : Ev2} {own : String} {tb : Tb} {nL : Nat} {ret : Option FieldType} {pc nx : Nat} {lv : Lv} {st : List Value} {mm : Mem} {A : AS} {dm : DM} {x : Int32} {q : Nat} {n : Int} (v : Int32) (lv' : Lv) (B : Bx2 E own tb nL ret) (i : Nat) (h : tb[i]? = some (pc, .iinc q n, 3, nx)) (j : Nat) (hj : lv[j]? = some (q, .int x)) (hv : x + Int32.ofInt n = v) (hn : q < nL) (hl' : zs1 lv q (.int v) = lv') (k : G2 E nL nx lv' st mm A dm) : G2 E nL pc lv st mm A dm := by
  subst hl'
  obtain ⟨p, l, e, R, s, m, args, below, meth, c, Q, K, A0, res, mo, fA, fd⟩ := E
  obtain ⟨hd, hn⟩ := Bx2.dec B h
  subst hn
  intro H locs ls hg hP hS hl
  exact lv_iinc B.1 rfl hd hl (lvm hj) hv hn (zs1_map (kc K) lv q (.int v)) (fun ls' hl' => k H locs ls' hg hP hS hl')
theorem w_pop {E : Ev2} {own : String} {tb : Tb} {nL : Nat} {ret : Option FieldType} {pc nx : Nat} {lv : Lv} {st : List Value} {mm : Mem} {A : AS} {dm : DM} {v : Value} (B : Bx2 E own tb nL ret) (i : Nat) (h : tb[i]? = some (pc, .pop, 1, nx)) (hv : v.category = 1) (k : G2 E nL nx lv st mm A dm) : G2 E nL pc lv (v :: st) mm A dm := by
  obtain ⟨p, l, e, R, s, m, args, below, meth, c, Q, K, A0, res, mo, fA, fd⟩ := E
  obtain ⟨hd, hn⟩ := Bx2.dec B h
  subst hn
  intro H locs ls hg hP hS hl
  exact lv_pop B.1 rfl hd ((cvv_cat (kc K) v).trans hv) (k H locs ls hg hP hS hl)
theorem w_dup2 {E : Ev2} {own : String} {tb : Tb} {nL : Nat} {ret : Option FieldType} {pc nx : Nat} {lv : Lv} {st : List Value} {mm : Mem} {A : AS} {dm : DM} {v w : Value} (B : Bx2 E own tb nL ret) (i : Nat) (h : tb[i]? = some (pc, .dup2, 1, nx)) (hv : v.category = 1) (hw : w.category = 1) (k : G2 E nL nx lv (v :: w :: v :: w :: st) mm A dm) : G2 E nL pc lv (v :: w :: st) mm A dm := by
  obtain ⟨p, l, e, R, s, m, args, below, meth, c, Q, K, A0, res, mo, fA, fd⟩ := E
  obtain ⟨hd, hn⟩ := Bx2.dec B h
  subst hn
  intro H locs ls hg hP hS hl
  exact lv_dup2_11 B.1 rfl hd ((cvv_cat (kc K) v).trans hv) ((cvv_cat (kc K) w).trans hw) (k H locs ls hg hP hS hl)
theorem w_goto {E : Ev2} {own : String} {tb : Tb} {nL : Nat} {ret : Option FieldType} {pc nx : Nat} {lv : Lv} {st : List Value} {mm : Mem} {A : AS} {dm : DM} {off : Int} (B : Bx2 E own tb nL ret) (i : Nat) (h : tb[i]? = some (pc, .goto off, 3, nx)) (tgt : Nat) (ht : (pc : Int) + off = (tgt : Int)) (k : G2 E nL tgt lv st mm A dm) : G2 E nL pc lv st mm A dm := by
  obtain ⟨p, l, e, R, s, m, args, below, meth, c, Q, K, A0, res, mo, fA, fd⟩ := E
  obtain ⟨hd, hn⟩ := Bx2.dec B h
  subst hn
  intro H locs ls hg hP hS hl
  exact lv_goto B.1 rfl hd ht (k H locs ls hg hP hS hl)
theorem w_if_eq_t {E : Ev2} {own : String} {tb : Tb} {nL : Nat} {ret : Option FieldType} {pc nx : Nat} {lv : Lv} {st : List Value} {mm : Mem} {A : AS} {dm : DM} {x : Int32} {off : Int} (B : Bx2 E own tb nL ret) (i : Nat) (h : tb[i]? = some (pc, .ifCond .eq off, 3, nx)) (tgt : Nat) (ht : (pc : Int) + off = (tgt : Int)) (hc : x = 0) (k : G2 E nL tgt lv st mm A dm) : G2 E nL pc lv (.int x :: st) mm A dm := by
  obtain ⟨p, l, e, R, s, m, args, below, meth, c, Q, K, A0, res, mo, fA, fd⟩ := E
  obtain ⟨hd, hn⟩ := Bx2.dec B h
  subst hn
  intro H locs ls hg hP hS hl
  exact lv_if_eq B.1 rfl hd ht (fun _ => k H locs ls hg hP hS hl) (fun q => absurd (hc) q)
theorem w_if_eq_f {E : Ev2} {own : String} {tb : Tb} {nL : Nat} {ret : Option FieldType} {pc nx : Nat} {lv : Lv} {st : List Value} {mm : Mem} {A : AS} {dm : DM} {x : Int32} {off : Int} (B : Bx2 E own tb nL ret) (i : Nat) (h : tb[i]? = some (pc, .ifCond .eq off, 3, nx)) (tgt : Nat) (ht : (pc : Int) + off = (tgt : Int)) (hc : ¬ x = 0) (k : G2 E nL nx lv st mm A dm) : G2 E nL pc lv (.int x :: st) mm A dm := by
  obtain ⟨p, l, e, R, s, m, args, below, meth, c, Q, K, A0, res, mo, fA, fd⟩ := E
  obtain ⟨hd, hn⟩ := Bx2.dec B h
  subst hn
  intro H locs ls hg hP hS hl
  exact lv_if_eq B.1 rfl hd ht (fun q => absurd q (hc)) (fun _ => k H locs ls hg hP hS hl)
theorem w_icmp_eq_t {E : Ev2} {own : String} {tb : Tb} {nL : Nat} {ret : Option FieldType} {pc nx : Nat} {lv : Lv} {st : List Value} {mm : Mem} {A : AS} {dm : DM} {x y : Int32} {off : Int} (B : Bx2 E own tb nL ret) (i : Nat) (h : tb[i]? = some (pc, .if_icmp .eq off, 3, nx)) (tgt : Nat) (ht : (pc : Int) + off = (tgt : Int)) (hc : x = y) (k : G2 E nL tgt lv st mm A dm) : G2 E nL pc lv (.int y :: .int x :: st) mm A dm := by
  obtain ⟨p, l, e, R, s, m, args, below, meth, c, Q, K, A0, res, mo, fA, fd⟩ := E
  obtain ⟨hd, hn⟩ := Bx2.dec B h
  subst hn
  intro H locs ls hg hP hS hl
  exact lv_icmp_eq B.1 rfl hd ht (fun _ => k H locs ls hg hP hS hl) (fun q => absurd (hc) q)
theorem w_icmp_eq_f {E : Ev2} {own : String} {tb : Tb} {nL : Nat} {ret : Option FieldType} {pc nx : Nat} {lv : Lv} {st : List Value} {mm : Mem} {A : AS} {dm : DM} {x y : Int32} {off : Int} (B : Bx2 E own tb nL ret) (i : Nat) (h : tb[i]? = some (pc, .if_icmp .eq off, 3, nx)) (tgt : Nat) (ht : (pc : Int) + off = (tgt : Int)) (hc : ¬ x = y) (k : G2 E nL nx lv st mm A dm) : G2 E nL pc lv (.int y :: .int x :: st) mm A dm := by
  obtain ⟨p, l, e, R, s, m, args, below, meth, c, Q, K, A0, res, mo, fA, fd⟩ := E
  obtain ⟨hd, hn⟩ := Bx2.dec B h
  subst hn
  intro H locs ls hg hP hS hl
  exact lv_icmp_eq B.1 rfl hd ht (fun q => absurd q (hc)) (fun _ => k H locs ls hg hP hS hl)
theorem w_if_ne_t {E : Ev2} {own : String} {tb : Tb} {nL : Nat} {ret : Option FieldType} {pc nx : Nat} {lv : Lv} {st : List Value} {mm : Mem} {A : AS} {dm : DM} {x : Int32} {off : Int} (B : Bx2 E own tb nL ret) (i : Nat) (h : tb[i]? = some (pc, .ifCond .ne off, 3, nx)) (tgt : Nat) (ht : (pc : Int) + off = (tgt : Int)) (hc : ¬ x = 0) (k : G2 E nL tgt lv st mm A dm) : G2 E nL pc lv (.int x :: st) mm A dm := by
  obtain ⟨p, l, e, R, s, m, args, below, meth, c, Q, K, A0, res, mo, fA, fd⟩ := E
  obtain ⟨hd, hn⟩ := Bx2.dec B h
  subst hn
  intro H locs ls hg hP hS hl
  exact lv_if_ne B.1 rfl hd ht (fun _ => k H locs ls hg hP hS hl) (fun q => absurd q hc)
theorem w_if_ne_f {E : Ev2} {own : String} {tb : Tb} {nL : Nat} {ret : Option FieldType} {pc nx : Nat} {lv : Lv} {st : List Value} {mm : Mem} {A : AS} {dm : DM} {x : Int32} {off : Int} (B : Bx2 E own tb nL ret) (i : Nat) (h : tb[i]? = some (pc, .ifCond .ne off, 3, nx)) (tgt : Nat) (ht : (pc : Int) + off = (tgt : Int)) (hc : x = 0) (k : G2 E nL nx lv st mm A dm) : G2 E nL pc lv (.int x :: st) mm A dm := by
  obtain ⟨p, l, e, R, s, m, args, below, meth, c, Q, K, A0, res, mo, fA, fd⟩ := E
  obtain ⟨hd, hn⟩ := Bx2.dec B h
  subst hn
  intro H locs ls hg hP hS hl
  exact lv_if_ne B.1 rfl hd ht (fun q => absurd q (fun z => z hc)) (fun _ => k H locs ls hg hP hS hl)
theorem w_icmp_ne_t {E : Ev2} {own : String} {tb : Tb} {nL : Nat} {ret : Option FieldType} {pc nx : Nat} {lv : Lv} {st : List Value} {mm : Mem} {A : AS} {dm : DM} {x y : Int32} {off : Int} (B : Bx2 E own tb nL ret) (i : Nat) (h : tb[i]? = some (pc, .if_icmp .ne off, 3, nx)) (tgt : Nat) (ht : (pc : Int) + off = (tgt : Int)) (hc : ¬ x = y) (k : G2 E nL tgt lv st mm A dm) : G2 E nL pc lv (.int y :: .int x :: st) mm A dm := by
  obtain ⟨p, l, e, R, s, m, args, below, meth, c, Q, K, A0, res, mo, fA, fd⟩ := E
  obtain ⟨hd, hn⟩ := Bx2.dec B h
  subst hn
  intro H locs ls hg hP hS hl
  exact lv_icmp_ne B.1 rfl hd ht (fun _ => k H locs ls hg hP hS hl) (fun q => absurd q hc)
theorem w_icmp_ne_f {E : Ev2} {own : String} {tb : Tb} {nL : Nat} {ret : Option FieldType} {pc nx : Nat} {lv : Lv} {st : List Value} {mm : Mem} {A : AS} {dm : DM} {x y : Int32} {off : Int} (B : Bx2 E own tb nL ret) (i : Nat) (h : tb[i]? = some (pc, .if_icmp .ne off, 3, nx)) (tgt : Nat) (ht : (pc : Int) + off = (tgt : Int)) (hc : x = y) (k : G2 E nL nx lv st mm A dm) : G2 E nL pc lv (.int y :: .int x :: st) mm A dm := by
  obtain ⟨p, l, e, R, s, m, args, below, meth, c, Q, K, A0, res, mo, fA, fd⟩ := E
  obtain ⟨hd, hn⟩ := Bx2.dec B h
  subst hn
  intro H locs ls hg hP hS hl
  exact lv_icmp_ne B.1 rfl hd ht (fun q => absurd q (fun z => z hc)) (fun _ => k H locs ls hg hP hS hl)
theorem w_if_lt_t {E : Ev2} {own : String} {tb : Tb} {nL : Nat} {ret : Option FieldType} {pc nx : Nat} {lv : Lv} {st : List Value} {mm : Mem} {A : AS} {dm : DM} {x : Int32} {off : Int} (B : Bx2 E own tb nL ret) (i : Nat) (h : tb[i]? = some (pc, .ifCond .lt off, 3, nx)) (tgt : Nat) (ht : (pc : Int) + off = (tgt : Int)) (hc : x < 0) (k : G2 E nL tgt lv st mm A dm) : G2 E nL pc lv (.int x :: st) mm A dm := by
  obtain ⟨p, l, e, R, s, m, args, below, meth, c, Q, K, A0, res, mo, fA, fd⟩ := E
  obtain ⟨hd, hn⟩ := Bx2.dec B h
  subst hn
  intro H locs ls hg hP hS hl
  exact lv_if_lt B.1 rfl hd ht (fun _ => k H locs ls hg hP hS hl) (fun q => absurd (hc) q)
theorem w_if_lt_f {E : Ev2} {own : String} {tb : Tb} {nL : Nat} {ret : Option FieldType} {pc nx : Nat} {lv : Lv} {st : List Value} {mm : Mem} {A : AS} {dm : DM} {x : Int32} {off : Int} (B : Bx2 E own tb nL ret) (i : Nat) (h : tb[i]? = some (pc, .ifCond .lt off, 3, nx)) (tgt : Nat) (ht : (pc : Int) + off = (tgt : Int)) (hc : ¬ x < 0) (k : G2 E nL nx lv st mm A dm) : G2 E nL pc lv (.int x :: st) mm A dm := by
  obtain ⟨p, l, e, R, s, m, args, below, meth, c, Q, K, A0, res, mo, fA, fd⟩ := E
  obtain ⟨hd, hn⟩ := Bx2.dec B h
  subst hn
  intro H locs ls hg hP hS hl
  exact lv_if_lt B.1 rfl hd ht (fun q => absurd q (hc)) (fun _ => k H locs ls hg hP hS hl)
theorem w_icmp_lt_t {E : Ev2} {own : String} {tb : Tb} {nL : Nat} {ret : Option FieldType} {pc nx : Nat} {lv : Lv} {st : List Value} {mm : Mem} {A : AS} {dm : DM} {x y : Int32} {off : Int} (B : Bx2 E own tb nL ret) (i : Nat) (h : tb[i]? = some (pc, .if_icmp .lt off, 3, nx)) (tgt : Nat) (ht : (pc : Int) + off = (tgt : Int)) (hc : x < y) (k : G2 E nL tgt lv st mm A dm) : G2 E nL pc lv (.int y :: .int x :: st) mm A dm := by
  obtain ⟨p, l, e, R, s, m, args, below, meth, c, Q, K, A0, res, mo, fA, fd⟩ := E
  obtain ⟨hd, hn⟩ := Bx2.dec B h
  subst hn
  intro H locs ls hg hP hS hl
  exact lv_icmp_lt B.1 rfl hd ht (fun _ => k H locs ls hg hP hS hl) (fun q => absurd (hc) q)
theorem w_icmp_lt_f {E : Ev2} {own : String} {tb : Tb} {nL : Nat} {ret : Option FieldType} {pc nx : Nat} {lv : Lv} {st : List Value} {mm : Mem} {A : AS} {dm : DM} {x y : Int32} {off : Int} (B : Bx2 E own tb nL ret) (i : Nat) (h : tb[i]? = some (pc, .if_icmp .lt off, 3, nx)) (tgt : Nat) (ht : (pc : Int) + off = (tgt : Int)) (hc : ¬ x < y) (k : G2 E nL nx lv st mm A dm) : G2 E nL pc lv (.int y :: .int x :: st) mm A dm := by
  obtain ⟨p, l, e, R, s, m, args, below, meth, c, Q, K, A0, res, mo, fA, fd⟩ := E
  obtain ⟨hd, hn⟩ := Bx2.dec B h
  subst hn
  intro H locs ls hg hP hS hl
  exact lv_icmp_lt B.1 rfl hd ht (fun q => absurd q (hc)) (fun _ => k H locs ls hg hP hS hl)
theorem w_if_ge_t {E : Ev2} {own : String} {tb : Tb} {nL : Nat} {ret : Option FieldType} {pc nx : Nat} {lv : Lv} {st : List Value} {mm : Mem} {A : AS} {dm : DM} {x : Int32} {off : Int} (B : Bx2 E own tb nL ret) (i : Nat) (h : tb[i]? = some (pc, .ifCond .ge off, 3, nx)) (tgt : Nat) (ht : (pc : Int) + off = (tgt : Int)) (hc : ¬ x < 0) (k : G2 E nL tgt lv st mm A dm) : G2 E nL pc lv (.int x :: st) mm A dm := by
  obtain ⟨p, l, e, R, s, m, args, below, meth, c, Q, K, A0, res, mo, fA, fd⟩ := E
  obtain ⟨hd, hn⟩ := Bx2.dec B h
  subst hn
  intro H locs ls hg hP hS hl
  exact lv_if_ge B.1 rfl hd ht (fun _ => k H locs ls hg hP hS hl) (fun q => absurd (i32_nlt hc) q)
theorem w_if_ge_f {E : Ev2} {own : String} {tb : Tb} {nL : Nat} {ret : Option FieldType} {pc nx : Nat} {lv : Lv} {st : List Value} {mm : Mem} {A : AS} {dm : DM} {x : Int32} {off : Int} (B : Bx2 E own tb nL ret) (i : Nat) (h : tb[i]? = some (pc, .ifCond .ge off, 3, nx)) (tgt : Nat) (ht : (pc : Int) + off = (tgt : Int)) (hc : x < 0) (k : G2 E nL nx lv st mm A dm) : G2 E nL pc lv (.int x :: st) mm A dm := by
  obtain ⟨p, l, e, R, s, m, args, below, meth, c, Q, K, A0, res, mo, fA, fd⟩ := E
  obtain ⟨hd, hn⟩ := Bx2.dec B h
  subst hn
  intro H locs ls hg hP hS hl
  exact lv_if_ge B.1 rfl hd ht (fun q => absurd q (fun z => absurd hc (i32_nlt2 z))) (fun _ => k H locs ls hg hP hS hl)
theorem w_icmp_ge_t {E : Ev2} {own : String} {tb : Tb} {nL : Nat} {ret : Option FieldType} {pc nx : Nat} {lv : Lv} {st : List Value} {mm : Mem} {A : AS} {dm : DM} {x y : Int32} {off : Int} (B : Bx2 E own tb nL ret) (i : Nat) (h : tb[i]? = some (pc, .if_icmp .ge off, 3, nx)) (tgt : Nat) (ht : (pc : Int) + off = (tgt : Int)) (hc : ¬ x < y) (k : G2 E nL tgt lv st mm A dm) : G2 E nL pc lv (.int y :: .int x :: st) mm A dm := by
  obtain ⟨p, l, e, R, s, m, args, below, meth, c, Q, K, A0, res, mo, fA, fd⟩ := E
  obtain ⟨hd, hn⟩ := Bx2.dec B h
  subst hn
  intro H locs ls hg hP hS hl
  exact lv_icmp_ge B.1 rfl hd ht (fun _ => k H locs ls hg hP hS hl) (fun q => absurd (i32_nlt hc) q)
theorem w_icmp_ge_f {E : Ev2} {own : String} {tb : Tb} {nL : Nat} {ret : Option FieldType} {pc nx : Nat} {lv : Lv} {st : List Value} {mm : Mem} {A : AS} {dm : DM} {x y : Int32} {off : Int} (B : Bx2 E own tb nL ret) (i : Nat) (h : tb[i]? = some (pc, .if_icmp .ge off, 3, nx)) (tgt : Nat) (ht : (pc : Int) + off = (tgt : Int)) (hc : x < y) (k : G2 E nL nx lv st mm A dm) : G2 E nL pc lv (.int y :: .int x :: st) mm A dm := by
  obtain ⟨p, l, e, R, s, m, args, below, meth, c, Q, K, A0, res, mo, fA, fd⟩ := E
  obtain ⟨hd, hn⟩ := Bx2.dec B h
  subst hn
  intro H locs ls hg hP hS hl
  exact lv_icmp_ge B.1 rfl hd ht (fun q => absurd q (fun z => absurd hc (i32_nlt2 z))) (fun _ => k H locs ls hg hP hS hl)
theorem w_if_gt_t {E : Ev2} {own : String} {tb : Tb} {nL : Nat} {ret : Option FieldType} {pc nx : Nat} {lv : Lv} {st : List Value} {mm : Mem} {A : AS} {dm : DM} {x : Int32} {off : Int} (B : Bx2 E own tb nL ret) (i : Nat) (h : tb[i]? = some (pc, .ifCond .gt off, 3, nx)) (tgt : Nat) (ht : (pc : Int) + off = (tgt : Int)) (hc : 0 < x) (k : G2 E nL tgt lv st mm A dm) : G2 E nL pc lv (.int x :: st) mm A dm := by
  obtain ⟨p, l, e, R, s, m, args, below, meth, c, Q, K, A0, res, mo, fA, fd⟩ := E
  obtain ⟨hd, hn⟩ := Bx2.dec B h
  subst hn
  intro H locs ls hg hP hS hl
  exact lv_if_gt B.1 rfl hd ht (fun _ => k H locs ls hg hP hS hl) (fun q => absurd (hc) q)
theorem w_if_gt_f {E : Ev2} {own : String} {tb : Tb} {nL : Nat} {ret : Option FieldType} {pc nx : Nat} {lv : Lv} {st : List Value} {mm : Mem} {A : AS} {dm : DM} {x : Int32} {off : Int} (B : Bx2 E own tb nL ret) (i : Nat) (h : tb[i]? = some (pc, .ifCond .gt off, 3, nx)) (tgt : Nat) (ht : (pc : Int) + off = (tgt : Int)) (hc : ¬ 0 < x) (k : G2 E nL nx lv st mm A dm) : G2 E nL pc lv (.int x :: st) mm A dm := by
  obtain ⟨p, l, e, R, s, m, args, below, meth, c, Q, K, A0, res, mo, fA, fd⟩ := E
  obtain ⟨hd, hn⟩ := Bx2.dec B h
  subst hn
  intro H locs ls hg hP hS hl
  exact lv_if_gt B.1 rfl hd ht (fun q => absurd q (hc)) (fun _ => k H locs ls hg hP hS hl)
theorem w_icmp_gt_t {E : Ev2} {own : String} {tb : Tb} {nL : Nat} {ret : Option FieldType} {pc nx : Nat} {lv : Lv} {st : List Value} {mm : Mem} {A : AS} {dm : DM} {x y : Int32} {off : Int} (B : Bx2 E own tb nL ret) (i : Nat) (h : tb[i]? = some (pc, .if_icmp .gt off, 3, nx)) (tgt : Nat) (ht : (pc : Int) + off = (tgt : Int)) (hc : y < x) (k : G2 E nL tgt lv st mm A dm) : G2 E nL pc lv (.int y :: .int x :: st) mm A dm := by
  obtain ⟨p, l, e, R, s, m, args, below, meth, c, Q, K, A0, res, mo, fA, fd⟩ := E
  obtain ⟨hd, hn⟩ := Bx2.dec B h
  subst hn
  intro H locs ls hg hP hS hl
  exact lv_icmp_gt B.1 rfl hd ht (fun _ => k H locs ls hg hP hS hl) (fun q => absurd (hc) q)
theorem w_icmp_gt_f {E : Ev2} {own : String} {tb : Tb} {nL : Nat} {ret : Option FieldType} {pc nx : Nat} {lv : Lv} {st : List Value} {mm : Mem} {A : AS} {dm : DM} {x y : Int32} {off : Int} (B : Bx2 E own tb nL ret) (i : Nat) (h : tb[i]? = some (pc, .if_icmp .gt off, 3, nx)) (tgt : Nat) (ht : (pc : Int) + off = (tgt : Int)) (hc : ¬ y < x) (k : G2 E nL nx lv st mm A dm) : G2 E nL pc lv (.int y :: .int x :: st) mm A dm := by
  obtain ⟨p, l, e, R, s, m, args, below, meth, c, Q, K, A0, res, mo, fA, fd⟩ := E
  obtain ⟨hd, hn⟩ := Bx2.dec B h
  subst hn
  intro H locs ls hg hP hS hl
  exact lv_icmp_gt B.1 rfl hd ht (fun q => absurd q (hc)) (fun _ => k H locs ls hg hP hS hl)
theorem w_if_le_t {E : Ev2} {own : String} {tb : Tb} {nL : Nat} {ret : Option FieldType} {pc nx : Nat} {lv : Lv} {st : List Value} {mm : Mem} {A : AS} {dm : DM} {x : Int32} {off : Int} (B : Bx2 E own tb nL ret) (i : Nat) (h : tb[i]? = some (pc, .ifCond .le off, 3, nx)) (tgt : Nat) (ht : (pc : Int) + off = (tgt : Int)) (hc : ¬ 0 < x) (k : G2 E nL tgt lv st mm A dm) : G2 E nL pc lv (.int x :: st) mm A dm := by
  obtain ⟨p, l, e, R, s, m, args, below, meth, c, Q, K, A0, res, mo, fA, fd⟩ := E
  obtain ⟨hd, hn⟩ := Bx2.dec B h
  subst hn
  intro H locs ls hg hP hS hl
  exact lv_if_le B.1 rfl hd ht (fun _ => k H locs ls hg hP hS hl) (fun q => absurd (i32_nlt hc) q)
theorem w_if_le_f {E : Ev2} {own : String} {tb : Tb} {nL : Nat} {ret : Option FieldType} {pc nx : Nat} {lv : Lv} {st : List Value} {mm : Mem} {A : AS} {dm : DM} {x : Int32} {off : Int} (B : Bx2 E own tb nL ret) (i : Nat) (h : tb[i]? = some (pc, .ifCond .le off, 3, nx)) (tgt : Nat) (ht : (pc : Int) + off = (tgt : Int)) (hc : 0 < x) (k : G2 E nL nx lv st mm A dm) : G2 E nL pc lv (.int x :: st) mm A dm := by
  obtain ⟨p, l, e, R, s, m, args, below, meth, c, Q, K, A0, res, mo, fA, fd⟩ := E
  obtain ⟨hd, hn⟩ := Bx2.dec B h
  subst hn
  intro H locs ls hg hP hS hl
  exact lv_if_le B.1 rfl hd ht (fun q => absurd q (fun z => absurd hc (i32_nlt2 z))) (fun _ => k H locs ls hg hP hS hl)
theorem w_icmp_le_t {E : Ev2} {own : String} {tb : Tb} {nL : Nat} {ret : Option FieldType} {pc nx : Nat} {lv : Lv} {st : List Value} {mm : Mem} {A : AS} {dm : DM} {x y : Int32} {off : Int} (B : Bx2 E own tb nL ret) (i : Nat) (h : tb[i]? = some (pc, .if_icmp .le off, 3, nx)) (tgt : Nat) (ht : (pc : Int) + off = (tgt : Int)) (hc : ¬ y < x) (k : G2 E nL tgt lv st mm A dm) : G2 E nL pc lv (.int y :: .int x :: st) mm A dm := by
  obtain ⟨p, l, e, R, s, m, args, below, meth, c, Q, K, A0, res, mo, fA, fd⟩ := E
  obtain ⟨hd, hn⟩ := Bx2.dec B h
  subst hn
  intro H locs ls hg hP hS hl
  exact lv_icmp_le B.1 rfl hd ht (fun _ => k H locs ls hg hP hS hl) (fun q => absurd (i32_nlt hc) q)
theorem w_icmp_le_f {E : Ev2} {own : String} {tb : Tb} {nL : Nat} {ret : Option FieldType} {pc nx : Nat} {lv : Lv} {st : List Value} {mm : Mem} {A : AS} {dm : DM} {x y : Int32} {off : Int} (B : Bx2 E own tb nL ret) (i : Nat) (h : tb[i]? = some (pc, .if_icmp .le off, 3, nx)) (tgt : Nat) (ht : (pc : Int) + off = (tgt : Int)) (hc : y < x) (k : G2 E nL nx lv st mm A dm) : G2 E nL pc lv (.int y :: .int x :: st) mm A dm := by
  obtain ⟨p, l, e, R, s, m, args, below, meth, c, Q, K, A0, res, mo, fA, fd⟩ := E
  obtain ⟨hd, hn⟩ := Bx2.dec B h
  subst hn
  intro H locs ls hg hP hS hl
  exact lv_icmp_le B.1 rfl hd ht (fun q => absurd q (fun z => absurd hc (i32_nlt2 z))) (fun _ => k H locs ls hg hP hS hl)
theorem w_ifnonnull {E : Ev2} {own : String} {tb : Tb} {nL : Nat} {ret : Option FieldType} {pc nx : Nat} {lv : Lv} {st : List Value} {mm : Mem} {A : AS} {dm : DM} {x : Nat} {off : Int} (B : Bx2 E own tb nL ret) (i : Nat) (h : tb[i]? = some (pc, .ifnonnull off, 3, nx)) (tgt : Nat) (ht : (pc : Int) + off = (tgt : Int)) (k : G2 E nL tgt lv st mm A dm) : G2 E nL pc lv (.ref x :: st) mm A dm := by
  obtain ⟨p, l, e, R, s, m, args, below, meth, c, Q, K, A0, res, mo, fA, fd⟩ := E
  obtain ⟨hd, hn⟩ := Bx2.dec B h
  subst hn
  intro H locs ls hg hP hS hl
  exact lv_ifnonnull B.1 rfl hd ht (k H locs ls hg hP hS hl)
theorem w_ifnull {E : Ev2} {own : String} {tb : Tb} {nL : Nat} {ret : Option FieldType} {pc nx : Nat} {lv : Lv} {st : List Value} {mm : Mem} {A : AS} {dm : DM} {x : Nat} {off : Int} (B : Bx2 E own tb nL ret) (i : Nat) (h : tb[i]? = some (pc, .ifnull off, 3, nx)) (k : G2 E nL nx lv st mm A dm) : G2 E nL pc lv (.ref x :: st) mm A dm := by
  obtain ⟨p, l, e, R, s, m, args, below, meth, c, Q, K, A0, res, mo, fA, fd⟩ := E
  obtain ⟨hd, hn⟩ := Bx2.dec B h
  subst hn
  intro H locs ls hg hP hS hl
  exact lv_ifnull B.1 rfl hd (k H locs ls hg hP hS hl)
theorem w_tswi {E : Ev2} {own : String} {tb : Tb} {nL : Nat} {ret : Option FieldType} {pc nx : Nat} {lv : Lv} {st : List Value} {mm : Mem} {A : AS} {dm : DM} {dflt lo hi : Int} {offs : Array Int} {len : Nat} {x : Int32} (B : Bx2 E own tb nL ret) (i : Nat) (h : tb[i]? = some (pc, .tableswitch dflt lo hi offs, len, nx)) (n : Int) (off : Int) (tgt : Nat) (hx : x.toInt = n) (h1 : lo ≤ n ∧ n ≤ hi) (ho : offs[(n - lo).toNat]? = some off) (ht : (pc : Int) + off = (tgt : Int)) (k : G2 E nL tgt lv st mm A dm) : G2 E nL pc lv (.int x :: st) mm A dm := by
  obtain ⟨p, l, e, R, s, m, args, below, meth, c, Q, K, A0, res, mo, fA, fd⟩ := E
  obtain ⟨hd, hn⟩ := Bx2.dec B h
  subst hn
  intro H locs ls hg hP hS hl
  subst hx
  exact lv_tableIn B.1 rfl hd (by omega) (by omega) ho ht (k H locs ls hg hP hS hl)
theorem w_tswo {E : Ev2} {own : String} {tb : Tb} {nL : Nat} {ret : Option FieldType} {pc nx : Nat} {lv : Lv} {st : List Value} {mm : Mem} {A : AS} {dm : DM} {dflt lo hi : Int} {offs : Array Int} {len : Nat} {x : Int32} (B : Bx2 E own tb nL ret) (i : Nat) (h : tb[i]? = some (pc, .tableswitch dflt lo hi offs, len, nx)) (tgt : Nat) (hx : x.toInt < lo ∨ hi < x.toInt) (ht : (pc : Int) + dflt = (tgt : Int)) (k : G2 E nL tgt lv st mm A dm) : G2 E nL pc lv (.int x :: st) mm A dm := by
  obtain ⟨p, l, e, R, s, m, args, below, meth, c, Q, K, A0, res, mo, fA, fd⟩ := E
  obtain ⟨hd, hn⟩ := Bx2.dec B h
  subst hn
  intro H locs ls hg hP hS hl
  exact lv_tableOut B.1 rfl hd hx ht (k H locs ls hg hP hS hl)
theorem w_dup {E : Ev2} {own : String} {tb : Tb} {nL : Nat} {ret : Option FieldType} {pc nx : Nat} {lv : Lv} {st : List Value} {mm : Mem} {A : AS} {dm : DM} {v : Value} (B : Bx2 E own tb nL ret) (i : Nat) (h : tb[i]? = some (pc, .dup, 1, nx)) (hv : v.category = 1) (k : G2 E nL nx lv (v :: v :: st) mm A dm) : G2 E nL pc lv (v :: st) mm A dm := by
  obtain ⟨p, l, e, R, s, m, args, below, meth, c, Q, K, A0, res, mo, fA, fd⟩ := E
  obtain ⟨hd, hn⟩ := Bx2.dec B h
  subst hn
  intro H locs ls hg hP hS hl
  exact lv_dup B.1 rfl hd ((cvv_cat (kc K) v).trans hv) (k H locs ls hg hP hS hl)
theorem w_dup_x1 {E : Ev2} {own : String} {tb : Tb} {nL : Nat} {ret : Option FieldType} {pc nx : Nat} {lv : Lv} {st : List Value} {mm : Mem} {A : AS} {dm : DM} {v w : Value} (B : Bx2 E own tb nL ret) (i : Nat) (h : tb[i]? = some (pc, .dup_x1, 1, nx)) (hv : v.category = 1) (hw : w.category = 1) (k : G2 E nL nx lv (v :: w :: v :: st) mm A dm) : G2 E nL pc lv (v :: w :: st) mm A dm := by
  obtain ⟨p, l, e, R, s, m, args, below, meth, c, Q, K, A0, res, mo, fA, fd⟩ := E
  obtain ⟨hd, hn⟩ := Bx2.dec B h
  subst hn
  intro H locs ls hg hP hS hl
  exact lv_dup_x1 B.1 rfl hd ((cvv_cat (kc K) v).trans hv) ((cvv_cat (kc K) w).trans hw) (k H locs ls hg hP hS hl)
theorem w_irem {E : Ev2} {own : String} {tb : Tb} {nL : Nat} {ret : Option FieldType} {pc nx : Nat} {lv : Lv} {st : List Value} {mm : Mem} {A : AS} {dm : DM} {x y : Int32} (B : Bx2 E own tb nL ret) (i : Nat) (h : tb[i]? = some (pc, .irem, 1, nx)) (hy : ¬ y = 0) (k : G2 E nL nx lv (.int (x - x / y * y) :: st) mm A dm) : G2 E nL pc lv (.int y :: .int x :: st) mm A dm := by
  obtain ⟨p, l, e, R, s, m, args, below, meth, c, Q, K, A0, res, mo, fA, fd⟩ := E
  obtain ⟨hd, hn⟩ := Bx2.dec B h
  subst hn
  intro H locs ls hg hP hS hl
  exact lv_irem B.1 rfl hd hy (k H locs ls hg hP hS hl)
theorem w_null {E : Ev2} {own : String} {tb : Tb} {nL : Nat} {ret : Option FieldType} {pc nx : Nat} {lv : Lv} {st : List Value} {mm : Mem} {A : AS} {dm : DM} (B : Bx2 E own tb nL ret) (i : Nat) (h : tb[i]? = some (pc, .aconst_null, 1, nx)) (k : G2 E nL nx lv (.null :: st) mm A dm) : G2 E nL pc lv st mm A dm := by
  obtain ⟨p, l, e, R, s, m, args, below, meth, c, Q, K, A0, res, mo, fA, fd⟩ := E
  obtain ⟨hd, hn⟩ := Bx2.dec B h
  subst hn
  intro H locs ls hg hP hS hl
  exact lv_null B.1 rfl hd (k H locs ls hg hP hS hl)
theorem w_aloadN_n {E : Ev2} {own : String} {tb : Tb} {nL : Nat} {ret : Option FieldType} {pc nx : Nat} {lv : Lv} {st : List Value} {mm : Mem} {A : AS} {dm : DM} {kk : Fin 4} (B : Bx2 E own tb nL ret) (i : Nat) (h : tb[i]? = some (pc, .aload_n kk, 1, nx)) (q j : Nat) (hq : (kk : Nat) = q) (hj : lv[j]? = some (q, .null)) (k : G2 E nL nx lv (.null :: st) mm A dm) : G2 E nL pc lv st mm A dm := by
  obtain ⟨p, l, e, R, s, m, args, below, meth, c, Q, K, A0, res, mo, fA, fd⟩ := E
  obtain ⟨hd, hn⟩ := Bx2.dec B h
  subst hn
  intro H locs ls hg hP hS hl
  exact lv_aload_nN B.1 rfl hd hq (lv_at hl j (lvm hj)) (k H locs ls hg hP hS hl)
theorem w_aloadN {E : Ev2} {own : String} {tb : Tb} {nL : Nat} {ret : Option FieldType} {pc nx : Nat} {lv : Lv} {st : List Value} {mm : Mem} {A : AS} {dm : DM} {q : Nat} (B : Bx2 E own tb nL ret) (i : Nat) (h : tb[i]? = some (pc, .aload q, 2, nx)) (j : Nat) (hj : lv[j]? = some (q, .null)) (k : G2 E nL nx lv (.null :: st) mm A dm) : G2 E nL pc lv st mm A dm := by
  obtain ⟨p, l, e, R, s, m, args, below, meth, c, Q, K, A0, res, mo, fA, fd⟩ := E
  obtain ⟨hd, hn⟩ := Bx2.dec B h
  subst hn
  intro H locs ls hg hP hS hl
  exact lv_aloadN B.1 rfl hd (lv_at hl j (lvm hj)) (k H locs ls hg hP hS hl)
theorem w_ifnullN {E : Ev2} {own : String} {tb : Tb} {nL : Nat} {ret : Option FieldType} {pc nx : Nat} {lv : Lv} {st : List Value} {mm : Mem} {A : AS} {dm : DM} {off : Int} (B : Bx2 E own tb nL ret) (i : Nat) (h : tb[i]? = some (pc, .ifnull off, 3, nx)) (tgt : Nat) (ht : (pc : Int) + off = (tgt : Int)) (k : G2 E nL tgt lv st mm A dm) : G2 E nL pc lv (.null :: st) mm A dm := by
  obtain ⟨p, l, e, R, s, m, args, below, meth, c, Q, K, A0, res, mo, fA, fd⟩ := E
  obtain ⟨hd, hn⟩ := Bx2.dec B h
  subst hn
  intro H locs ls hg hP hS hl
  exact lv_ifnullN B.1 rfl hd ht (k H locs ls hg hP hS hl)
theorem w_ifnonnullN {E : Ev2} {own : String} {tb : Tb} {nL : Nat} {ret : Option FieldType} {pc nx : Nat} {lv : Lv} {st : List Value} {mm : Mem} {A : AS} {dm : DM} {off : Int} (B : Bx2 E own tb nL ret) (i : Nat) (h : tb[i]? = some (pc, .ifnonnull off, 3, nx)) (k : G2 E nL nx lv st mm A dm) : G2 E nL pc lv (.null :: st) mm A dm := by
  obtain ⟨p, l, e, R, s, m, args, below, meth, c, Q, K, A0, res, mo, fA, fd⟩ := E
  obtain ⟨hd, hn⟩ := Bx2.dec B h
  subst hn
  intro H locs ls hg hP hS hl
  exact lv_ifnonnullN B.1 rfl hd (k H locs ls hg hP hS hl)
theorem w_acmp_eq_t {E : Ev2} {own : String} {tb : Tb} {nL : Nat} {ret : Option FieldType} {pc nx : Nat} {lv : Lv} {st : List Value} {mm : Mem} {A : AS} {dm : DM} {a b : Nat} {off : Int} (B : Bx2 E own tb nL ret) (i : Nat) (h : tb[i]? = some (pc, .if_acmp .eq off, 3, nx)) (tgt : Nat) (ht : (pc : Int) + off = (tgt : Int)) (hc : a = b) (k : G2 E nL tgt lv st mm A dm) : G2 E nL pc lv (.ref b :: .ref a :: st) mm A dm := by
  obtain ⟨p, l, e, R, s, m, args, below, meth, c, Q, K, A0, res, mo, fA, fd⟩ := E
  obtain ⟨hd, hn⟩ := Bx2.dec B h
  subst hn
  intro H locs ls hg hP hS hl
  have hlt : K.2.1 < K.1 := Nat.lt_of_not_le B.sx.2.2.2.2.2.2.2
  have hinj : adr K a = adr K b → a = b := by
    unfold adr
    intro h9
    split at h9 <;> split at h9 <;> omega
  exact lv_acmp_eq (rx := some (adr K a)) (ry := some (adr K b)) B.1 rfl hd ht (fun _ => k H locs ls hg hP hS hl) (fun q => absurd (congrArg (fun z => some (adr K z)) hc) q)
theorem w_acmp_eq_f {E : Ev2} {own : String} {tb : Tb} {nL : Nat} {ret : Option FieldType} {pc nx : Nat} {lv : Lv} {st : List Value} {mm : Mem} {A : AS} {dm : DM} {a b : Nat} {off : Int} (B : Bx2 E own tb nL ret) (i : Nat) (h : tb[i]? = some (pc, .if_acmp .eq off, 3, nx)) (tgt : Nat) (ht : (pc : Int) + off = (tgt : Int)) (hc : ¬ a = b) (k : G2 E nL nx lv st mm A dm) : G2 E nL pc lv (.ref b :: .ref a :: st) mm A dm := by
  obtain ⟨p, l, e, R, s, m, args, below, meth, c, Q, K, A0, res, mo, fA, fd⟩ := E
  obtain ⟨hd, hn⟩ := Bx2.dec B h
  subst hn
  intro H locs ls hg hP hS hl
  have hlt : K.2.1 < K.1 := Nat.lt_of_not_le B.sx.2.2.2.2.2.2.2
  have hinj : adr K a = adr K b → a = b := by
    unfold adr
    intro h9
    split at h9 <;> split at h9 <;> omega
  exact lv_acmp_eq (rx := some (adr K a)) (ry := some (adr K b)) B.1 rfl hd ht (fun q => absurd (hinj (Option.some.inj q)) hc) (fun _ => k H locs ls hg hP hS hl)
theorem w_empty {E : Ev2} {own : String} {tb : Tb} {nL : Nat} {ret : Option FieldType} {pc nx : Nat} {lv : Lv} {st : List Value} {mm : Mem} {A : AS} {dm : DM} {n : Nat} (B : Bx2 E own tb nL ret) (i : Nat) (h : tb[i]? = some (pc, .getstatic n, 3, nx)) (hw : Cond.fieldLink own n alN alE alD ∈ TW) (k : G2 E nL nx lv (.ref 0 :: st) mm A dm) : G2 E nL pc lv st mm A dm := by
  obtain ⟨p, l, e, R, s, m, args, below, meth, c, Q, K, A0, res, mo, fA, fd⟩ := E
  obtain ⟨hd, hn⟩ := Bx2.dec B h
  subst hn
  intro H locs ls hg hP hS hl
  exact va_gets B.1 rfl B.sx.2.2.2.2.2.1 hS B.hown (B.tw _ hw) (fun _ h => h) hd (k H locs ls hg hP hS hl)
theorem w_geti {E : Ev2} {own : String} {tb : Tb} {nL : Nat} {ret : Option FieldType} {pc nx : Nat} {lv : Lv} {st : List Value} {mm : Mem} {A : AS} {dm : DM} {n : Nat} {v : Int32} {rn nm d rf : String} (B : Bx2 E own tb nL ret) (i : Nat) (h : tb[i]? = some (pc, .getfield n, 3, nx)) (ci kf q : Nat) (hci : ci ≠ 0) (hq : okd A q ci) (hf : bfl ci kf = some (rn, nm, d)) (hw : Cond.fieldLink own n rf nm d ∈ TW) (hsf : rn = rf ∨ Cond.sameField rf rn nm d ∈ TW) (hv : dm q kf = .int v) (k : G2 E nL nx lv (.int v :: st) mm A dm) : G2 E nL pc lv (.ref q :: st) mm A dm := by
  obtain ⟨p, l, e, R, s, m, args, below, meth, c, Q, K, A0, res, mo, fA, fd⟩ := E
  obtain ⟨hd, hn⟩ := Bx2.dec B h
  subst hn
  intro H locs ls hg hP hS hl
  obtain ⟨⟨Cn, T, N⟩, hx, hkN, rfl, rfl, rfl⟩ := bfl_spec hf
  obtain ⟨hws, hN, hty, hnm⟩ := zcls_ok hx
  have hc11 := zcls_lt hx
  obtain ⟨j, hj1, hj2⟩ := ow_at A (okd_liv hq hci)
  have hg1 := hj1 K mm dm
  rw [cld_obj hc11 hq] at hg1
  refine va_get (C := Cn) (T := T) (N := N) (fs := (List.range (nfl ci)).map (fun k => cvv (kc K) (dm q k))) B.1 rfl B.tw hws B.hown B.kk hP j hg1 hx kf hkN (B.tw _ hw) (fun x hx9 => hsf.elim (fun e9 => e9 ▸ hx9) (fun w9 => u_same (B.tw _ w9) x hx9)) (v := cvv (kc K) (.int v)) ?_ hd (k H locs ls hg hP hS hl)
  rw [List.getElem?_map, List.getElem?_range (by rw [← hN]; exact hkN), Option.map_some, hv]
theorem w_getiN {E : Ev2} {own : String} {tb : Tb} {nL : Nat} {ret : Option FieldType} {pc nx : Nat} {lv : Lv} {st : List Value} {mm : Mem} {A : AS} {dm : DM} {n : Nat} {v : Int32} {rn nm d rf : String} {host : String} (B : Bx2 E own tb nL ret) (i : Nat) (h : tb[i]? = some (pc, .getfield n, 3, nx)) (ci kf q : Nat) (hci : ci ≠ 0) (hq : okd A q ci) (hf : bfl ci kf = some (rn, nm, d)) (hw : (own, n, rf, nm, d, host) ∈ fns) (hsf : rn = rf ∨ Cond.sameField rf rn nm d ∈ TW) (hv : dm q kf = .int v) (k : G2 E nL nx lv (.int v :: st) mm A dm) : G2 E nL pc lv (.ref q :: st) mm A dm := by
  obtain ⟨p, l, e, R, s, m, args, below, meth, c, Q, K, A0, res, mo, fA, fd⟩ := E
  obtain ⟨hd, hn⟩ := Bx2.dec B h
  subst hn
  intro H locs ls hg hP hS hl
  obtain ⟨⟨Cn, T, N⟩, hx, hkN, rfl, rfl, rfl⟩ := bfl_spec hf
  obtain ⟨hws, hN, hty, hnm⟩ := zcls_ok hx
  have hc11 := zcls_lt hx
  obtain ⟨j, hj1, hj2⟩ := ow_at A (okd_liv hq hci)
  have hg1 := hj1 K mm dm
  rw [cld_obj hc11 hq] at hg1
  refine va_getN (C := Cn) (T := T) (N := N) (fs := (List.range (nfl ci)).map (fun k => cvv (kc K) (dm q k))) B.1 rfl B.tw hws B.hown B.kk hP j hg1 hx kf hkN (va_Nw.use rfl (B.sx.2.2.1 _ hw)) (fun x hx9 => hsf.elim (fun e9 => e9 ▸ hx9) (fun w9 => u_same (B.tw _ w9) x hx9)) (v := cvv (kc K) (.int v)) ?_ hd (k H locs ls hg hP hS hl)
  rw [List.getElem?_map, List.getElem?_range (by rw [← hN]; exact hkN), Option.map_some, hv]
theorem w_getr {E : Ev2} {own : String} {tb : Tb} {nL : Nat} {ret : Option FieldType} {pc nx : Nat} {lv : Lv} {st : List Value} {mm : Mem} {A : AS} {dm : DM} {n : Nat} {v : Nat} {rn nm d rf : String} (B : Bx2 E own tb nL ret) (i : Nat) (h : tb[i]? = some (pc, .getfield n, 3, nx)) (ci kf q : Nat) (hci : ci ≠ 0) (hq : okd A q ci) (hf : bfl ci kf = some (rn, nm, d)) (hw : Cond.fieldLink own n rf nm d ∈ TW) (hsf : rn = rf ∨ Cond.sameField rf rn nm d ∈ TW) (hv : dm q kf = .ref v) (k : G2 E nL nx lv (.ref v :: st) mm A dm) : G2 E nL pc lv (.ref q :: st) mm A dm := by
  obtain ⟨p, l, e, R, s, m, args, below, meth, c, Q, K, A0, res, mo, fA, fd⟩ := E
  obtain ⟨hd, hn⟩ := Bx2.dec B h
  subst hn
  intro H locs ls hg hP hS hl
  obtain ⟨⟨Cn, T, N⟩, hx, hkN, rfl, rfl, rfl⟩ := bfl_spec hf
  obtain ⟨hws, hN, hty, hnm⟩ := zcls_ok hx
  have hc11 := zcls_lt hx
  obtain ⟨j, hj1, hj2⟩ := ow_at A (okd_liv hq hci)
  have hg1 := hj1 K mm dm
  rw [cld_obj hc11 hq] at hg1
  refine va_get (C := Cn) (T := T) (N := N) (fs := (List.range (nfl ci)).map (fun k => cvv (kc K) (dm q k))) B.1 rfl B.tw hws B.hown B.kk hP j hg1 hx kf hkN (B.tw _ hw) (fun x hx9 => hsf.elim (fun e9 => e9 ▸ hx9) (fun w9 => u_same (B.tw _ w9) x hx9)) (v := cvv (kc K) (.ref v)) ?_ hd (k H locs ls hg hP hS hl)
  rw [List.getElem?_map, List.getElem?_range (by rw [← hN]; exact hkN), Option.map_some, hv]
theorem w_getrN {E : Ev2} {own : String} {tb : Tb} {nL : Nat} {ret : Option FieldType} {pc nx : Nat} {lv : Lv} {st : List Value} {mm : Mem} {A : AS} {dm : DM} {n : Nat} {v : Nat} {rn nm d rf : String} {host : String} (B : Bx2 E own tb nL ret) (i : Nat) (h : tb[i]? = some (pc, .getfield n, 3, nx)) (ci kf q : Nat) (hci : ci ≠ 0) (hq : okd A q ci) (hf : bfl ci kf = some (rn, nm, d)) (hw : (own, n, rf, nm, d, host) ∈ fns) (hsf : rn = rf ∨ Cond.sameField rf rn nm d ∈ TW) (hv : dm q kf = .ref v) (k : G2 E nL nx lv (.ref v :: st) mm A dm) : G2 E nL pc lv (.ref q :: st) mm A dm := by
  obtain ⟨p, l, e, R, s, m, args, below, meth, c, Q, K, A0, res, mo, fA, fd⟩ := E
  obtain ⟨hd, hn⟩ := Bx2.dec B h
  subst hn
  intro H locs ls hg hP hS hl
  obtain ⟨⟨Cn, T, N⟩, hx, hkN, rfl, rfl, rfl⟩ := bfl_spec hf
  obtain ⟨hws, hN, hty, hnm⟩ := zcls_ok hx
  have hc11 := zcls_lt hx
  obtain ⟨j, hj1, hj2⟩ := ow_at A (okd_liv hq hci)
  have hg1 := hj1 K mm dm
  rw [cld_obj hc11 hq] at hg1
  refine va_getN (C := Cn) (T := T) (N := N) (fs := (List.range (nfl ci)).map (fun k => cvv (kc K) (dm q k))) B.1 rfl B.tw hws B.hown B.kk hP j hg1 hx kf hkN (va_Nw.use rfl (B.sx.2.2.1 _ hw)) (fun x hx9 => hsf.elim (fun e9 => e9 ▸ hx9) (fun w9 => u_same (B.tw _ w9) x hx9)) (v := cvv (kc K) (.ref v)) ?_ hd (k H locs ls hg hP hS hl)
  rw [List.getElem?_map, List.getElem?_range (by rw [← hN]; exact hkN), Option.map_some, hv]
theorem w_puti {E : Ev2} {own : String} {tb : Tb} {nL : Nat} {ret : Option FieldType} {pc nx : Nat} {lv : Lv} {st : List Value} {mm : Mem} {A : AS} {dm : DM} {n : Nat} {v : Int32} {rn nm d rf : String} {ty : FieldType} (B : Bx2 E own tb nL ret) (i : Nat) (h : tb[i]? = some (pc, .putfield n, 3, nx)) (ci kf q : Nat) (hci : ci ≠ 0) (hq : okd A q ci) (hf : bfl ci kf = some (rn, nm, d)) (hw : Cond.fieldLink own n rf nm d ∈ TW) (hsf : rn = rf ∨ Cond.sameField rf rn nm d ∈ TW) (hfin : zfin ci kf = false) (hd0 : parseFieldDescriptor d = some ty) (hnar : narrow ty (.int v) = .int v ∧ fits ty (.int v) = true) (k : G2 E nL nx lv st mm A (up3 dm q kf (.int v))) : G2 E nL pc lv (.int v :: .ref q :: st) mm A dm := by
  obtain ⟨p, l, e, R, s, m, args, below, meth, c, Q, K, A0, res, mo, fA, fd⟩ := E
  obtain ⟨hd, hn⟩ := Bx2.dec B h
  subst hn
  intro H locs ls hg hP hS hl
  obtain ⟨⟨Cn, T, N⟩, hx, hkN, rfl, rfl, rfl⟩ := bfl_spec hf
  obtain ⟨hws, hN, hty, hnm⟩ := zcls_ok hx
  have hc11 := zcls_lt hx
  obtain ⟨j, hj1, hj2⟩ := ow_at A (okd_liv hq hci)
  have hg1 := hj1 K mm dm
  rw [cld_obj hc11 hq] at hg1
  have hfin' : (T kf).2.2.2 = false := by unfold zfin at hfin; rw [hx] at hfin; exact hfin
  refine va_put (C := Cn) (T := T) (N := N) (ty := ty) (v := cvv (kc K) (.int v)) (fs := (List.range (nfl ci)).map (fun k => cvv (kc K) (dm q k))) B.1 rfl B.tw hws (tyA ci) hty hnm B.hown B.kk hP (w2_D hg.1) hS j hg1 hx kf hkN (B.tw _ hw) (fun x hx9 => hsf.elim (fun e9 => e9 ▸ hx9) (fun w9 => u_same (B.tw _ w9) x hx9)) hfin' hd0 hnar.1 hnar.2 (by rw [List.length_map, List.length_range, ← hN]; exact hkN) hd (fun H1 locs1 hP1 _ hS1 => ?_)
  have h5 := hj2 K mm dm (up3 dm q kf (.int v)) (fun a ha => up3_ne ha)
  rw [cld_obj hc11 hq, ← fset_up3] at h5
  rw [h5] at hP1
  exact k H1 locs1 ls hg hP1 hS1 hl
theorem w_putiN {E : Ev2} {own : String} {tb : Tb} {nL : Nat} {ret : Option FieldType} {pc nx : Nat} {lv : Lv} {st : List Value} {mm : Mem} {A : AS} {dm : DM} {n : Nat} {v : Int32} {rn nm d rf : String} {ty : FieldType} {host : String} (B : Bx2 E own tb nL ret) (i : Nat) (h : tb[i]? = some (pc, .putfield n, 3, nx)) (ci kf q : Nat) (hci : ci ≠ 0) (hq : okd A q ci) (hf : bfl ci kf = some (rn, nm, d)) (hw : (own, n, rf, nm, d, host) ∈ fns) (hsf : rn = rf ∨ Cond.sameField rf rn nm d ∈ TW) (hfin : zfin ci kf = false) (hd0 : parseFieldDescriptor d = some ty) (hnar : narrow ty (.int v) = .int v ∧ fits ty (.int v) = true) (k : G2 E nL nx lv st mm A (up3 dm q kf (.int v))) : G2 E nL pc lv (.int v :: .ref q :: st) mm A dm := by
  obtain ⟨p, l, e, R, s, m, args, below, meth, c, Q, K, A0, res, mo, fA, fd⟩ := E
  obtain ⟨hd, hn⟩ := Bx2.dec B h
  subst hn
  intro H locs ls hg hP hS hl
  obtain ⟨⟨Cn, T, N⟩, hx, hkN, rfl, rfl, rfl⟩ := bfl_spec hf
  obtain ⟨hws, hN, hty, hnm⟩ := zcls_ok hx
  have hc11 := zcls_lt hx
  obtain ⟨j, hj1, hj2⟩ := ow_at A (okd_liv hq hci)
  have hg1 := hj1 K mm dm
  rw [cld_obj hc11 hq] at hg1
  have hfin' : (T kf).2.2.2 = false := by unfold zfin at hfin; rw [hx] at hfin; exact hfin
  refine va_putN (C := Cn) (T := T) (N := N) (ty := ty) (v := cvv (kc K) (.int v)) (fs := (List.range (nfl ci)).map (fun k => cvv (kc K) (dm q k))) B.1 rfl B.tw hws (tyA ci) hty hnm B.hown B.kk hP (w2_D hg.1) hS j hg1 hx kf hkN (va_Nw.use rfl (B.sx.2.2.1 _ hw)) (fun x hx9 => hsf.elim (fun e9 => e9 ▸ hx9) (fun w9 => u_same (B.tw _ w9) x hx9)) hfin' hd0 hnar.1 hnar.2 (by rw [List.length_map, List.length_range, ← hN]; exact hkN) hd (fun H1 locs1 hP1 _ hS1 => ?_)
  have h5 := hj2 K mm dm (up3 dm q kf (.int v)) (fun a ha => up3_ne ha)
  rw [cld_obj hc11 hq, ← fset_up3] at h5
  rw [h5] at hP1
  exact k H1 locs1 ls hg hP1 hS1 hl
theorem w_putiF {E : Ev2} {own : String} {tb : Tb} {nL : Nat} {ret : Option FieldType} {pc nx : Nat} {lv : Lv} {st : List Value} {mm : Mem} {A : AS} {dm : DM} {n : Nat} {v : Int32} {rn nm d rf : String} {ty : FieldType} (B : Bx2 E own tb nL ret) (i : Nat) (h : tb[i]? = some (pc, .putfield n, 3, nx)) (ci kf q : Nat) (hci : ci ≠ 0) (hq : okd A q ci) (hf : bfl ci kf = some (rn, nm, d)) (hw : Cond.fieldLink own n rf nm d ∈ TW) (hsf : rn = rf ∨ Cond.sameField rf rn nm d ∈ TW) (hfin : zfin ci kf = true) (hI : In2 E) (hdecl : rn = own) (hd0 : parseFieldDescriptor d = some ty) (hnar : narrow ty (.int v) = .int v ∧ fits ty (.int v) = true) (k : G2 E nL nx lv st mm A (up3 dm q kf (.int v))) : G2 E nL pc lv (.int v :: .ref q :: st) mm A dm := by
  obtain ⟨p, l, e, R, s, m, args, below, meth, c, Q, K, A0, res, mo, fA, fd⟩ := E
  obtain ⟨hd, hn⟩ := Bx2.dec B h
  subst hn
  intro H locs ls hg hP hS hl
  obtain ⟨⟨Cn, T, N⟩, hx, hkN, rfl, rfl, rfl⟩ := bfl_spec hf
  obtain ⟨hws, hN, hty, hnm⟩ := zcls_ok hx
  have hc11 := zcls_lt hx
  obtain ⟨j, hj1, hj2⟩ := ow_at A (okd_liv hq hci)
  have hg1 := hj1 K mm dm
  rw [cld_obj hc11 hq] at hg1
  have hfin' : (T kf).2.2.2 = true := by unfold zfin at hfin; rw [hx] at hfin; exact hfin
  refine va_putF (C := Cn) (T := T) (N := N) (ty := ty) (v := cvv (kc K) (.int v)) (fs := (List.range (nfl ci)).map (fun k => cvv (kc K) (dm q k))) B.1 rfl B.tw hws (tyA ci) hty hnm B.hown B.kk hP (w2_D hg.1) hS j hg1 hx kf hkN (B.tw _ hw) (fun x hx9 => hsf.elim (fun e9 => e9 ▸ hx9) (fun w9 => u_same (B.tw _ w9) x hx9)) hfin' hI hdecl hd0 hnar.1 hnar.2 (by rw [List.length_map, List.length_range, ← hN]; exact hkN) hd (fun H1 locs1 hP1 _ hS1 => ?_)
  have h5 := hj2 K mm dm (up3 dm q kf (.int v)) (fun a ha => up3_ne ha)
  rw [cld_obj hc11 hq, ← fset_up3] at h5
  rw [h5] at hP1
  exact k H1 locs1 ls hg hP1 hS1 hl
theorem w_putr {E : Ev2} {own : String} {tb : Tb} {nL : Nat} {ret : Option FieldType} {pc nx : Nat} {lv : Lv} {st : List Value} {mm : Mem} {A : AS} {dm : DM} {n : Nat} {v : Nat} {rn nm d rf : String} {ty : FieldType} (B : Bx2 E own tb nL ret) (i : Nat) (h : tb[i]? = some (pc, .putfield n, 3, nx)) (ci kf q : Nat) (hci : ci ≠ 0) (hq : okd A q ci) (hf : bfl ci kf = some (rn, nm, d)) (hw : Cond.fieldLink own n rf nm d ∈ TW) (hsf : rn = rf ∨ Cond.sameField rf rn nm d ∈ TW) (hfin : zfin ci kf = false) (hd0 : parseFieldDescriptor d = some ty) (hnar : ∀ z : Nat, narrow ty (.ref z) = .ref z ∧ fits ty (.ref z) = true) (k : G2 E nL nx lv st mm A (up3 dm q kf (.ref v))) : G2 E nL pc lv (.ref v :: .ref q :: st) mm A dm := by
  obtain ⟨p, l, e, R, s, m, args, below, meth, c, Q, K, A0, res, mo, fA, fd⟩ := E
  obtain ⟨hd, hn⟩ := Bx2.dec B h
  subst hn
  intro H locs ls hg hP hS hl
  obtain ⟨⟨Cn, T, N⟩, hx, hkN, rfl, rfl, rfl⟩ := bfl_spec hf
  obtain ⟨hws, hN, hty, hnm⟩ := zcls_ok hx
  have hc11 := zcls_lt hx
  obtain ⟨j, hj1, hj2⟩ := ow_at A (okd_liv hq hci)
  have hg1 := hj1 K mm dm
  rw [cld_obj hc11 hq] at hg1
  have hfin' : (T kf).2.2.2 = false := by unfold zfin at hfin; rw [hx] at hfin; exact hfin
  refine va_put (C := Cn) (T := T) (N := N) (ty := ty) (v := cvv (kc K) (.ref v)) (fs := (List.range (nfl ci)).map (fun k => cvv (kc K) (dm q k))) B.1 rfl B.tw hws (tyA ci) hty hnm B.hown B.kk hP (w2_D hg.1) hS j hg1 hx kf hkN (B.tw _ hw) (fun x hx9 => hsf.elim (fun e9 => e9 ▸ hx9) (fun w9 => u_same (B.tw _ w9) x hx9)) hfin' hd0 (hnar _).1 (hnar _).2 (by rw [List.length_map, List.length_range, ← hN]; exact hkN) hd (fun H1 locs1 hP1 _ hS1 => ?_)
  have h5 := hj2 K mm dm (up3 dm q kf (.ref v)) (fun a ha => up3_ne ha)
  rw [cld_obj hc11 hq, ← fset_up3] at h5
  rw [h5] at hP1
  exact k H1 locs1 ls hg hP1 hS1 hl
theorem w_putrN {E : Ev2} {own : String} {tb : Tb} {nL : Nat} {ret : Option FieldType} {pc nx : Nat} {lv : Lv} {st : List Value} {mm : Mem} {A : AS} {dm : DM} {n : Nat} {v : Nat} {rn nm d rf : String} {ty : FieldType} {host : String} (B : Bx2 E own tb nL ret) (i : Nat) (h : tb[i]? = some (pc, .putfield n, 3, nx)) (ci kf q : Nat) (hci : ci ≠ 0) (hq : okd A q ci) (hf : bfl ci kf = some (rn, nm, d)) (hw : (own, n, rf, nm, d, host) ∈ fns) (hsf : rn = rf ∨ Cond.sameField rf rn nm d ∈ TW) (hfin : zfin ci kf = false) (hd0 : parseFieldDescriptor d = some ty) (hnar : ∀ z : Nat, narrow ty (.ref z) = .ref z ∧ fits ty (.ref z) = true) (k : G2 E nL nx lv st mm A (up3 dm q kf (.ref v))) : G2 E nL pc lv (.ref v :: .ref q :: st) mm A dm := by
  obtain ⟨p, l, e, R, s, m, args, below, meth, c, Q, K, A0, res, mo, fA, fd⟩ := E
  obtain ⟨hd, hn⟩ := Bx2.dec B h
  subst hn
  intro H locs ls hg hP hS hl
  obtain ⟨⟨Cn, T, N⟩, hx, hkN, rfl, rfl, rfl⟩ := bfl_spec hf
  obtain ⟨hws, hN, hty, hnm⟩ := zcls_ok hx
  have hc11 := zcls_lt hx
  obtain ⟨j, hj1, hj2⟩ := ow_at A (okd_liv hq hci)
  have hg1 := hj1 K mm dm
  rw [cld_obj hc11 hq] at hg1
  have hfin' : (T kf).2.2.2 = false := by unfold zfin at hfin; rw [hx] at hfin; exact hfin
  refine va_putN (C := Cn) (T := T) (N := N) (ty := ty) (v := cvv (kc K) (.ref v)) (fs := (List.range (nfl ci)).map (fun k => cvv (kc K) (dm q k))) B.1 rfl B.tw hws (tyA ci) hty hnm B.hown B.kk hP (w2_D hg.1) hS j hg1 hx kf hkN (va_Nw.use rfl (B.sx.2.2.1 _ hw)) (fun x hx9 => hsf.elim (fun e9 => e9 ▸ hx9) (fun w9 => u_same (B.tw _ w9) x hx9)) hfin' hd0 (hnar _).1 (hnar _).2 (by rw [List.length_map, List.length_range, ← hN]; exact hkN) hd (fun H1 locs1 hP1 _ hS1 => ?_)
  have h5 := hj2 K mm dm (up3 dm q kf (.ref v)) (fun a ha => up3_ne ha)
  rw [cld_obj hc11 hq, ← fset_up3] at h5
  rw [h5] at hP1
  exact k H1 locs1 ls hg hP1 hS1 hl
theorem w_putrF {E : Ev2} {own : String} {tb : Tb} {nL : Nat} {ret : Option FieldType} {pc nx : Nat} {lv : Lv} {st : List Value} {mm : Mem} {A : AS} {dm : DM} {n : Nat} {v : Nat} {rn nm d rf : String} {ty : FieldType} (B : Bx2 E own tb nL ret) (i : Nat) (h : tb[i]? = some (pc, .putfield n, 3, nx)) (ci kf q : Nat) (hci : ci ≠ 0) (hq : okd A q ci) (hf : bfl ci kf = some (rn, nm, d)) (hw : Cond.fieldLink own n rf nm d ∈ TW) (hsf : rn = rf ∨ Cond.sameField rf rn nm d ∈ TW) (hfin : zfin ci kf = true) (hI : In2 E) (hdecl : rn = own) (hd0 : parseFieldDescriptor d = some ty) (hnar : ∀ z : Nat, narrow ty (.ref z) = .ref z ∧ fits ty (.ref z) = true) (k : G2 E nL nx lv st mm A (up3 dm q kf (.ref v))) : G2 E nL pc lv (.ref v :: .ref q :: st) mm A dm := by
  obtain ⟨p, l, e, R, s, m, args, below, meth, c, Q, K, A0, res, mo, fA, fd⟩ := E
  obtain ⟨hd, hn⟩ := Bx2.dec B h
  subst hn
  intro H locs ls hg hP hS hl
  obtain ⟨⟨Cn, T, N⟩, hx, hkN, rfl, rfl, rfl⟩ := bfl_spec hf
  obtain ⟨hws, hN, hty, hnm⟩ := zcls_ok hx
  have hc11 := zcls_lt hx
  obtain ⟨j, hj1, hj2⟩ := ow_at A (okd_liv hq hci)
  have hg1 := hj1 K mm dm
  rw [cld_obj hc11 hq] at hg1
  have hfin' : (T kf).2.2.2 = true := by unfold zfin at hfin; rw [hx] at hfin; exact hfin
  refine va_putF (C := Cn) (T := T) (N := N) (ty := ty) (v := cvv (kc K) (.ref v)) (fs := (List.range (nfl ci)).map (fun k => cvv (kc K) (dm q k))) B.1 rfl B.tw hws (tyA ci) hty hnm B.hown B.kk hP (w2_D hg.1) hS j hg1 hx kf hkN (B.tw _ hw) (fun x hx9 => hsf.elim (fun e9 => e9 ▸ hx9) (fun w9 => u_same (B.tw _ w9) x hx9)) hfin' hI hdecl hd0 (hnar _).1 (hnar _).2 (by rw [List.length_map, List.length_range, ← hN]; exact hkN) hd (fun H1 locs1 hP1 _ hS1 => ?_)
  have h5 := hj2 K mm dm (up3 dm q kf (.ref v)) (fun a ha => up3_ne ha)
  rw [cld_obj hc11 hq, ← fset_up3] at h5
  rw [h5] at hP1
  exact k H1 locs1 ls hg hP1 hS1 hl
theorem w_iald {E : Ev2} {own : String} {tb : Tb} {nL : Nat} {ret : Option FieldType} {pc nx : Nat} {lv : Lv} {st : List Value} {mm : Mem} {A : AS} {dm : DM} {q : Nat} {x v : Int32} (B : Bx2 E own tb nL ret) (i : Nat) (h : tb[i]? = some (pc, .iaload, 1, nx)) (hq : okd A q 20) (hx : inb x (A.2.2.1 q).2 = true) (hv : dm q x.toNatClampNeg = .int v) (k : G2 E nL nx lv (.int v :: st) mm A dm) : G2 E nL pc lv (.int x :: .ref q :: st) mm A dm := by
  obtain ⟨p, l, e, R, s, m, args, below, meth, c, Q, K, A0, res, mo, fA, fd⟩ := E
  obtain ⟨hd, hn⟩ := Bx2.dec B h
  subst hn
  intro H locs ls hg hP hS hl
  obtain ⟨j, hj1, hj2⟩ := ow_at A (okd_liv hq (by decide))
  have hg1 := hj1 K mm dm
  rw [cld_int hq] at hg1
  have h6 : vint (dm q x.toNatClampNeg) = v := by rw [hv]; rfl
  refine va_iald B.1 rfl B.kk hP j 0 hg1 rfl (inb_in hx) hd ?_
  have := k H locs ls hg hP hS hl
  rw [h6]
  exact this
theorem w_iast {E : Ev2} {own : String} {tb : Tb} {nL : Nat} {ret : Option FieldType} {pc nx : Nat} {lv : Lv} {st : List Value} {mm : Mem} {A : AS} {dm : DM} {q : Nat} {x v : Int32} (B : Bx2 E own tb nL ret) (i : Nat) (h : tb[i]? = some (pc, .iastore, 1, nx)) (hq : okd A q 20) (hx : inb x (A.2.2.1 q).2 = true) (k : G2 E nL nx lv st mm A (up3 dm q x.toNatClampNeg (.int v))) : G2 E nL pc lv (.int v :: .int x :: .ref q :: st) mm A dm := by
  obtain ⟨p, l, e, R, s, m, args, below, meth, c, Q, K, A0, res, mo, fA, fd⟩ := E
  obtain ⟨hd, hn⟩ := Bx2.dec B h
  subst hn
  intro H locs ls hg hP hS hl
  obtain ⟨j, hj1, hj2⟩ := ow_at A (okd_liv hq (by decide))
  have hg1 := hj1 K mm dm
  rw [cld_int hq] at hg1
  refine va_iast B.1 rfl B.kk hP (w2_D hg.1) hS j 0 hg1 rfl (inb_in hx) hd (fun H1 locs1 hP1 _ hS1 => ?_)
  have h5 := hj2 K mm dm (up3 dm q x.toNatClampNeg (.int v)) (fun a ha => up3_ne ha)
  rw [cld_int hq, vint_up] at h5
  have hP2 : va_P K.2.2.1 zcls _ H1 := hP1
  rw [h5] at hP2
  exact k H1 locs1 ls hg hP2 hS1 hl
theorem w_rald {E : Ev2} {own : String} {tb : Tb} {nL : Nat} {ret : Option FieldType} {pc nx : Nat} {lv : Lv} {st : List Value} {mm : Mem} {A : AS} {dm : DM} {q v : Nat} {x : Int32} (B : Bx2 E own tb nL ret) (i : Nat) (h : tb[i]? = some (pc, .aaload, 1, nx)) (hq : okd A q 21) (hx : inb x (A.2.2.1 q).2 = true) (hv : dm q x.toNatClampNeg = .ref v) (k : G2 E nL nx lv (.ref v :: st) mm A dm) : G2 E nL pc lv (.int x :: .ref q :: st) mm A dm := by
  obtain ⟨p, l, e, R, s, m, args, below, meth, c, Q, K, A0, res, mo, fA, fd⟩ := E
  obtain ⟨hd, hn⟩ := Bx2.dec B h
  subst hn
  intro H locs ls hg hP hS hl
  obtain ⟨j, hj1, hj2⟩ := ow_at A (okd_liv hq (by decide))
  have hg1 := hj1 K mm dm
  rw [cld_row hq] at hg1
  have h6 : vrf K (dm q x.toNatClampNeg) = some (adr K v) := by rw [hv]; rfl
  refine va_aldq B.1 rfl B.kk hP j 1 hg1 rfl (inb_in hx) hd ?_
  have := k H locs ls hg hP hS hl
  rw [h6]
  exact this
theorem w_gald {E : Ev2} {own : String} {tb : Tb} {nL : Nat} {ret : Option FieldType} {pc nx : Nat} {lv : Lv} {st : List Value} {mm : Mem} {A : AS} {dm : DM} {q v : Nat} {x : Int32} (B : Bx2 E own tb nL ret) (i : Nat) (h : tb[i]? = some (pc, .aaload, 1, nx)) (hq : okd A q 22) (hx : inb x (A.2.2.1 q).2 = true) (hv : dm q x.toNatClampNeg = .ref v) (k : G2 E nL nx lv (.ref v :: st) mm A dm) : G2 E nL pc lv (.int x :: .ref q :: st) mm A dm := by
  obtain ⟨p, l, e, R, s, m, args, below, meth, c, Q, K, A0, res, mo, fA, fd⟩ := E
  obtain ⟨hd, hn⟩ := Bx2.dec B h
  subst hn
  intro H locs ls hg hP hS hl
  obtain ⟨j, hj1, hj2⟩ := ow_at A (okd_liv hq (by decide))
  have hg1 := hj1 K mm dm
  rw [cld_grid hq] at hg1
  have hlt : x.toNatClampNeg < (A.2.2.1 q).2 := Nat.not_le.mp fun z => inb_in hx (Or.inr z)
  refine W.aald (v := .ref (adr K v)) (ty := .array .int) B.1 rfl (hP j _ hg1) ((B.kk.2 2 _ rfl).1 (A.2.2.1 q).2 (fun j => va_rf (vrf K (dm q j)))) rfl (fun z => by cases z) (by show ¬ (x < 0 ∨ (arrV _ _ _).slots.size ≤ _); rw [arrV_size]; exact inb_in hx) (by show (arrV _ _ _).slots[_]? = _; rw [arrV_read _ _ hlt]; show some (va_rf (vrf K (dm q x.toNatClampNeg))) = _; rw [hv]; rfl) rfl rfl hd (k H locs ls hg hP hS hl)
theorem w_rast {E : Ev2} {own : String} {tb : Tb} {nL : Nat} {ret : Option FieldType} {pc nx : Nat} {lv : Lv} {st : List Value} {mm : Mem} {A : AS} {dm : DM} {q v : Nat} {x : Int32} (B : Bx2 E own tb nL ret) (i : Nat) (h : tb[i]? = some (pc, .aastore, 1, nx)) (hq : okd A q 21) (hx : inb x (A.2.2.1 q).2 = true) (hv : okd A v 20 ∨ okd A v 9) (k : G2 E nL nx lv st mm A (up3 dm q x.toNatClampNeg (.ref v))) : G2 E nL pc lv (.ref v :: .int x :: .ref q :: st) mm A dm := by
  obtain ⟨p, l, e, R, s, m, args, below, meth, c, Q, K, A0, res, mo, fA, fd⟩ := E
  obtain ⟨hd, hn⟩ := Bx2.dec B h
  subst hn
  intro H locs ls hg hP hS hl
  obtain ⟨j, hj1, hj2⟩ := ow_at A (okd_liv hq (by decide))
  have hg1 := hj1 K mm dm
  rw [cld_row hq] at hg1
  have hr : ∃ C : String, (∃ cellV : Cell, H[adr K v]? = some cellV ∧ cellV.vm.isStatics = false ∧ s.vm.findClass C = some cellV.cls) ∧ Cond.castable C "java/lang/Object" ∈ TF := by
    rcases hv with hv | hv
    · obtain ⟨j9, hj9, -⟩ := ow_at A (okd_liv hv (by decide))
      have h9 := hj9 K mm dm
      rw [cld_int hv] at h9
      exact ⟨"[I", ⟨_, hP j9 _ h9, rfl, va_nm_int (B.kk.2 0 _ rfl).2⟩, tf_of (i := 1070) (by decide +kernel)⟩
    · obtain ⟨j9, hj9, -⟩ := ow_at A (okd_liv hv (by decide))
      have h9 := hj9 K mm dm
      rw [cld_obj (by decide) hv] at h9
      exact ⟨alN, va_recv B.kk hP rfl h9, tf_of (i := 1061) (by decide +kernel)⟩
  obtain ⟨C, hr1, hr2⟩ := hr
  refine vb_astq B.1 rfl B.kk hP (w2_D hg.1) hS j 1 hg1 rfl hr1 (vb_asgC (B.sx.2.1 _ hr2)) (inb_in hx) hd (fun H1 locs1 hP1 _ hS1 => ?_)
  have h5 := hj2 K mm dm (up3 dm q x.toNatClampNeg (.ref v)) (fun a ha => up3_ne ha)
  rw [cld_row hq, vrf_up] at h5
  have hP2 : va_P K.2.2.1 zcls _ H1 := hP1
  rw [h5] at hP2
  exact k H1 locs1 ls hg hP2 hS1 hl
theorem w_rastN {E : Ev2} {own : String} {tb : Tb} {nL : Nat} {ret : Option FieldType} {pc nx : Nat} {lv : Lv} {st : List Value} {mm : Mem} {A : AS} {dm : DM} {q : Nat} {x : Int32} (B : Bx2 E own tb nL ret) (i : Nat) (h : tb[i]? = some (pc, .aastore, 1, nx)) (hq : okd A q 21) (hx : inb x (A.2.2.1 q).2 = true) (k : G2 E nL nx lv st mm A (up3 dm q x.toNatClampNeg .null)) : G2 E nL pc lv (.null :: .int x :: .ref q :: st) mm A dm := by
  obtain ⟨p, l, e, R, s, m, args, below, meth, c, Q, K, A0, res, mo, fA, fd⟩ := E
  obtain ⟨hd, hn⟩ := Bx2.dec B h
  subst hn
  intro H locs ls hg hP hS hl
  obtain ⟨j, hj1, hj2⟩ := ow_at A (okd_liv hq (by decide))
  have hg1 := hj1 K mm dm
  rw [cld_row hq] at hg1
  refine va_astqN B.1 rfl B.kk hP (w2_D hg.1) hS j 1 hg1 rfl (inb_in hx) hd (fun H1 locs1 hP1 _ hS1 => ?_)
  have h5 := hj2 K mm dm (up3 dm q x.toNatClampNeg .null) (fun a ha => up3_ne ha)
  rw [cld_row hq, vrf_upN] at h5
  have hP2 : va_P K.2.2.1 zcls _ H1 := hP1
  rw [h5] at hP2
  exact k H1 locs1 ls hg hP2 hS1 hl
theorem w_alen {E : Ev2} {own : String} {tb : Tb} {nL : Nat} {ret : Option FieldType} {pc nx : Nat} {lv : Lv} {st : List Value} {mm : Mem} {A : AS} {dm : DM} {q : Nat} (B : Bx2 E own tb nL ret) (i : Nat) (h : tb[i]? = some (pc, .arraylength, 1, nx)) (hq : okd A q 20 ∨ okd A q 21 ∨ q = 0) (k : G2 E nL nx lv (.int (nI (lenA A q)) :: st) mm A dm) : G2 E nL pc lv (.ref q :: st) mm A dm := by
  obtain ⟨p, l, e, R, s, m, args, below, meth, c, Q, K, A0, res, mo, fA, fd⟩ := E
  obtain ⟨hd, hn⟩ := Bx2.dec B h
  subst hn
  intro H locs ls hg hP hS hl
  rcases hq with hq | hq | hq
  · obtain ⟨j, hj1, hj2⟩ := ow_at A (okd_liv hq (by decide))
    have hg1 := hj1 K mm dm
    rw [cld_int hq] at hg1
    exact va_alen B.1 rfl B.kk hP j 0 hg1 (ty := .int) rfl (by rw [lenA_pos hq]; rfl) hd (k H locs ls hg hP hS hl)
  · obtain ⟨j, hj1, hj2⟩ := ow_at A (okd_liv hq (by decide))
    have hg1 := hj1 K mm dm
    rw [cld_row hq] at hg1
    exact va_alen B.1 rfl B.kk hP j 1 hg1 (ty := .object "java/lang/Object") rfl (by rw [lenA_pos hq]; rfl) hd (k H locs ls hg hP hS hl)
  · subst hq
    have h0 := B.sx.2.2.2.2.2.2
    have h1 : H[K.2.1]? = some _ := (hS.2.1 K.2.1 (Array.getElem?_eq_some_iff.mp h0.1).1 h0.2).trans h0.1
    exact W.alen (n := nI (lenA A 0)) B.1 rfl h1 ((B.kk.2 1 _ rfl).1 0 (fun j => va_rf none)) (by rw [vp_cell_q, arrV_size]; rfl) rfl rfl hd (k H locs ls hg hP hS hl)
theorem w_castI {E : Ev2} {own : String} {tb : Tb} {nL : Nat} {ret : Option FieldType} {pc nx : Nat} {lv : Lv} {st : List Value} {mm : Mem} {A : AS} {dm : DM} {q n : Nat} (B : Bx2 E own tb nL ret) (i : Nat) (h : tb[i]? = some (pc, .checkcast n, 3, nx)) (hq : okd A q 20) (hw : Cond.classLink own n "[I" ∈ TW) (k : G2 E nL nx lv (.ref q :: st) mm A dm) : G2 E nL pc lv (.ref q :: st) mm A dm := by
  obtain ⟨p, l, e, R, s, m, args, below, meth, c, Q, K, A0, res, mo, fA, fd⟩ := E
  obtain ⟨hd, hn⟩ := Bx2.dec B h
  subst hn
  intro H locs ls hg hP hS hl
  obtain ⟨j, hj1, hj2⟩ := ow_at A (okd_liv hq (by decide))
  have hg1 := hj1 K mm dm
  rw [cld_int hq] at hg1
  exact va_castA B.1 rfl B.hown (B.tw _ hw) hP j hg1 (va_nm_int (B.kk.2 0 _ rfl).2) hd (k H locs ls hg hP hS hl)
theorem w_castL {E : Ev2} {own : String} {tb : Tb} {nL : Nat} {ret : Option FieldType} {pc nx : Nat} {lv : Lv} {st : List Value} {mm : Mem} {A : AS} {dm : DM} {q n : Nat} (B : Bx2 E own tb nL ret) (i : Nat) (h : tb[i]? = some (pc, .checkcast n, 3, nx)) (hq : okd A q 9) (hw : Cond.classLink own n alN ∈ TW) (k : G2 E nL nx lv (.ref q :: st) mm A dm) : G2 E nL pc lv (.ref q :: st) mm A dm := by
  obtain ⟨p, l, e, R, s, m, args, below, meth, c, Q, K, A0, res, mo, fA, fd⟩ := E
  obtain ⟨hd, hn⟩ := Bx2.dec B h
  subst hn
  intro H locs ls hg hP hS hl
  obtain ⟨j, hj1, hj2⟩ := ow_at A (okd_liv hq (by decide))
  have hg1 := hj1 K mm dm
  rw [cld_obj (by decide) hq] at hg1
  exact va_castS B.1 rfl B.hown (B.tw _ hw) (B.kk.1 9 _ rfl).2 (va_recv (q := (RJx4a65c, TJx4a65c, 3)) B.kk hP rfl hg1) hd (k H locs ls hg hP hS hl)
theorem w_new {E : Ev2} {own : String} {tb : Tb} {nL : Nat} {ret : Option FieldType} {pc nx : Nat} {lv : Lv} {st : List Value} {mm : Mem} {A : AS} {dm : DM} {n N : Nat} {Cn : String} {T : u_T} {r0 : Option Value} {mo0 : Mem} {fA0 : AS} {fd0 : DM} {q : Nat} {A1 : AS} {m1 : DM} (B : Bx2 E own tb nL ret) (i : Nat) (h : tb[i]? = some (pc, .new n, 3, nx)) (ci : Nat) (f : Nat → Value) (hr : Rs2 E r0 mo0 fA0 fd0) (hgd : A.1 + 1 ≤ fA0.1 ∧ A.2.1 + N ≤ fA0.2.1) (hq : q = A.1 + 1) (hA : A1 = nw A ci 0 N) (hM : m1 = nwm A dm f) (hci : ci ≠ 0) (hx : zcls[ci]? = some (Cn, T, N)) (hw : Cond.classLink own n Cn ∈ TW ∧ Cond.instantiable Cn N ∈ TW ∧ Cond.initialized Cn ∈ TW) (hfs : ∀ j, j < N → defaultValue (tyA ci j) = f j) (hfc : ∀ (K : KF) (j : Nat), j < N → cvv (kc K) (f j) = f j) (k : G2 E nL nx lv (.ref q :: st) mm A1 m1) : G2 E nL pc lv st mm A dm := by
  subst hq hA hM
  obtain ⟨p, l, e, R, s, m, args, below, meth, c, Q, K, A0, res, mo, fA, fd⟩ := E
  obtain ⟨hd, hn⟩ := Bx2.dec B h
  subst hn
  intro H locs ls hg hP hS hl
  obtain ⟨-, -, rfl, -⟩ := hr
  refine w_hz B hg hP fun hz => ?_
  have hrm := B.rm
  have hA0 := hg.2.1
  have hA1 := hg.2.2
  obtain ⟨hws, hN, hty, hnm⟩ := zcls_ok hx
  have hKn := B.kk.1 ci _ hx
  have hN' : N = nfl ci := hN
  refine W.newcK B.1 rfl B.hown (B.tw _ hw.1) (B.tw _ hw.2.1) (B.tw _ hw.2.2) rfl hd (by omega) (by omega) hKn.2.1 rfl fun H1 kC hkC e1 z1 o1 => ?_
  have hkp : ∀ (k : Nat) (x : Nat × va_E), (w2 K mm A dm)[k]? = some x → H1[x.1]? = H[x.1]? := fun k x hx => o1 x.1 ((hP k x hx).lt)
  have hnew : va_at K.2.2.1 zcls (K.1 + A.1, cld K (ci, 0) f) H1 := by
    unfold cld
    rw [if_pos (zcls_lt hx)]
    refine ⟨_, hx, ?_⟩
    show t_OB (K.1 + A.1) _ _ _ _ (vp_V _)
    rw [← hz]
    refine (u_born (tyA ci) B.tw hws hKn hkC e1 hty).to (fun j hj => ?_)
    have hj' : j < N := hj
    show defaultValue (tyA ci j) = ((List.range (nfl ci)).map (fun k => cvv (kc K) (f k))).getD j .null
    rw [List.getD_eq_getElem?_getD, List.getElem?_map, List.getElem?_range (by rw [← hN']; exact hj'), Option.map_some, Option.getD_some, hfc K j hj']
    exact hfs j hj'
  have hP2 : va_P K.2.2.1 zcls (w2 K mm (nw A ci 0 N) (nwm A dm f)) H1 := by
    rw [w2_nw (hci)]
    refine (hP.kept hkp).app (fun k9 x hx2 => ?_)
    have hz0 : k9 < 1 := (List.getElem?_eq_some_iff.mp hx2).1
    rw [show k9 = 0 by omega] at hx2
    cases hx2
    exact hnew
  have hgo := k H1 locs ls ⟨okA_nw hg.1 (hci), ⟨by show _ ≤ A.1 + 1; omega, by show _ ≤ A.2.1 + N; omega⟩, by show A.1 + 1 ≤ _; omega, by show A.2.1 + N ≤ _; omega⟩ hP2 ⟨Nat.le_trans hS.1 (by omega), fun x h1 h2 => (o1 x (Nat.lt_of_lt_of_le h1 hS.1)).trans (hS.2.1 x h1 h2), hS.2.2⟩ hl
  have e8 : (nw A ci 0 N).1 - A0.1 = A.1 - A0.1 + 1 := by show A.1 + 1 - A0.1 = _; omega
  have e9 : (nw A ci 0 N).2.1 - A0.2.1 = A.2.1 - A0.2.1 + N := by show A.2.1 + N - A0.2.1 = _; omega
  rw [e8, e9] at hgo
  have e10 : cvv (kc K) (.ref (A.1 + 1)) = .ref H.size := by show Value.ref (adr K (A.1 + 1)) = _; rw [adr_pos (by omega), hz]; rfl
  rw [List.map_cons, e10] at hgo
  exact hgo
theorem w_newI {E : Ev2} {own : String} {tb : Tb} {nL : Nat} {ret : Option FieldType} {pc nx : Nat} {lv : Lv} {st : List Value} {mm : Mem} {A : AS} {dm : DM} {v : Int32} {r0 : Option Value} {mo0 : Mem} {fA0 : AS} {fd0 : DM} {q : Nat} {A1 : AS} {m1 : DM} (B : Bx2 E own tb nL ret) (i : Nat) (h : tb[i]? = some (pc, .newarray .int, 2, nx)) (hr : Rs2 E r0 mo0 fA0 fd0) (hgd : A.1 + 1 ≤ fA0.1 ∧ A.2.1 + v.toNatClampNeg ≤ fA0.2.1) (hq : q = A.1 + 1) (hA : A1 = nw A 20 v.toNatClampNeg v.toNatClampNeg) (hM : m1 = nwm A dm (fun _ => .int 0)) (hw : Cond.arrayClass .int ∈ TW) (hv : ¬ v < 0 ∧ v.toNatClampNeg ≤ 10000) (k : G2 E nL nx lv (.ref q :: st) mm A1 m1) : G2 E nL pc lv (.int v :: st) mm A dm := by
  subst hq hA hM
  obtain ⟨p, l, e, R, s, m, args, below, meth, c, Q, K, A0, res, mo, fA, fd⟩ := E
  obtain ⟨hd, hn⟩ := Bx2.dec B h
  subst hn
  intro H locs ls hg hP hS hl
  obtain ⟨-, -, rfl, -⟩ := hr
  refine w_hz B hg hP fun hz => ?_
  have hrm := B.rm
  have hA0 := hg.2.1
  have hA1 := hg.2.2
  refine va_newaK B.1 rfl (atype := .int) (B.tw _ hw) rfl hd rfl hv.1 rfl (Nat.le_trans (Nat.mul_le_mul_right _ hv.2) (by decide)) (by omega) (by omega) rfl fun H1 cA e1 z1 o1 hAr hNm => ?_
  have hcA : cA = K.2.2.2.1 := by
    have h1 := (B.kk.2 0 _ rfl).2
    have h2 : s.vm.findClass _ = some K.2.2.2.1 := h1
    exact Option.some.inj (hNm.symm.trans h2)
  subst hcA
  have hkp : ∀ (k : Nat) (x : Nat × va_E), (w2 K mm A dm)[k]? = some x → H1[x.1]? = H[x.1]? := fun k x hx => o1 x.1 ((hP k x hx).lt)
  have hnew : va_at K.2.2.1 zcls (K.1 + A.1, cld K (20, v.toNatClampNeg) (fun _ => .int 0)) H1 := by
    show H1[K.1 + A.1]? = some (vp_cell _ _)
    rw [← hz]
    exact e1
  have hP2 : va_P K.2.2.1 zcls (w2 K mm (nw A 20 v.toNatClampNeg v.toNatClampNeg) (nwm A dm (fun _ => .int 0))) H1 := by
    rw [w2_nw (by decide)]
    refine (hP.kept hkp).app (fun k9 x hx2 => ?_)
    have hz0 : k9 < 1 := (List.getElem?_eq_some_iff.mp hx2).1
    rw [show k9 = 0 by omega] at hx2
    cases hx2
    exact hnew
  have hgo := k H1 locs ls ⟨okA_nw hg.1 (by decide), ⟨by show _ ≤ A.1 + 1; omega, by show _ ≤ A.2.1 + v.toNatClampNeg; omega⟩, by show A.1 + 1 ≤ _; omega, by show A.2.1 + v.toNatClampNeg ≤ _; omega⟩ hP2 ⟨Nat.le_trans hS.1 (by omega), fun x h1 h2 => (o1 x (Nat.lt_of_lt_of_le h1 hS.1)).trans (hS.2.1 x h1 h2), hS.2.2⟩ hl
  have e8 : (nw A 20 v.toNatClampNeg v.toNatClampNeg).1 - A0.1 = A.1 - A0.1 + 1 := by show A.1 + 1 - A0.1 = _; omega
  have e9 : (nw A 20 v.toNatClampNeg v.toNatClampNeg).2.1 - A0.2.1 = A.2.1 - A0.2.1 + v.toNatClampNeg := by show A.2.1 + v.toNatClampNeg - A0.2.1 = _; omega
  rw [e8, e9] at hgo
  have e10 : cvv (kc K) (.ref (A.1 + 1)) = .ref H.size := by show Value.ref (adr K (A.1 + 1)) = _; rw [adr_pos (by omega), hz]; rfl
  rw [List.map_cons, e10] at hgo
  exact hgo
theorem w_newR {E : Ev2} {own : String} {tb : Tb} {nL : Nat} {ret : Option FieldType} {pc nx : Nat} {lv : Lv} {st : List Value} {mm : Mem} {A : AS} {dm : DM} {n : Nat} {v : Int32} {r0 : Option Value} {mo0 : Mem} {fA0 : AS} {fd0 : DM} {q : Nat} {A1 : AS} {m1 : DM} (B : Bx2 E own tb nL ret) (i : Nat) (h : tb[i]? = some (pc, .anewarray n, 3, nx)) (hr : Rs2 E r0 mo0 fA0 fd0) (hgd : A.1 + 1 ≤ fA0.1 ∧ A.2.1 + v.toNatClampNeg ≤ fA0.2.1) (hq : q = A.1 + 1) (hA : A1 = nw A 21 v.toNatClampNeg v.toNatClampNeg) (hM : m1 = nwm A dm (fun _ => .null)) (hw : Cond.classLink own n "java/lang/Object" ∈ TW) (hv : ¬ v < 0 ∧ v.toNatClampNeg ≤ 10000) (k : G2 E nL nx lv (.ref q :: st) mm A1 m1) : G2 E nL pc lv (.int v :: st) mm A dm := by
  subst hq hA hM
  obtain ⟨p, l, e, R, s, m, args, below, meth, c, Q, K, A0, res, mo, fA, fd⟩ := E
  obtain ⟨hd, hn⟩ := Bx2.dec B h
  subst hn
  intro H locs ls hg hP hS hl
  obtain ⟨-, -, rfl, -⟩ := hr
  refine w_hz B hg hP fun hz => ?_
  have hrm := B.rm
  have hA0 := hg.2.1
  have hA1 := hg.2.2
  refine W.anew B.1 rfl B.hown (B.tw _ hw) (va_AO.use B.sx.2.2.2.1) rfl hd rfl hv.1 (Nat.le_trans (Nat.mul_le_mul_right _ hv.2) (by decide)) (by omega) (by omega) fun cA kA comp f1 f2 f3 f4 => ?_
  have hcA : cA = K.2.2.2.2.1 := by
    obtain ⟨kA', comp', g1, g2, g3, g4⟩ := (B.kk.2 1 _ rfl).2
    have h2 : s.vm.findClass ("[" ++ (FieldType.object "java/lang/Object").toString) = some K.2.2.2.2.1 := g4
    exact Option.some.inj (f1.symm.trans h2)
  subst hcA
  generalize hH1 : H.push ({ cls := K.2.2.2.2.1, slots := Array.replicate v.toNatClampNeg .null, vm := .none } : Cell) = H1
  have z1 : H1.size = H.size + 1 := by rw [← hH1, Array.size_push]
  have e1 : H1[H.size]? = some (arrV K.2.2.2.2.1 v.toNatClampNeg (fun _ => .null)) := by rw [← hH1, Array.getElem?_push_size, ← arrV_new]
  have o1 : ∀ q : Nat, q < H.size → H1[q]? = H[q]? := fun q hq => by rw [← hH1, Array.getElem?_push, if_neg (Nat.ne_of_lt hq)]
  have hkp : ∀ (k : Nat) (x : Nat × va_E), (w2 K mm A dm)[k]? = some x → H1[x.1]? = H[x.1]? := fun k x hx => o1 x.1 ((hP k x hx).lt)
  have hnew : va_at K.2.2.1 zcls (K.1 + A.1, cld K (21, v.toNatClampNeg) (fun _ => .null)) H1 := by
    show H1[K.1 + A.1]? = some (vp_cell _ _)
    rw [← hz]
    exact e1
  have hP2 : va_P K.2.2.1 zcls (w2 K mm (nw A 21 v.toNatClampNeg v.toNatClampNeg) (nwm A dm (fun _ => .null))) H1 := by
    rw [w2_nw (by decide)]
    refine (hP.kept hkp).app (fun k9 x hx2 => ?_)
    have hz0 : k9 < 1 := (List.getElem?_eq_some_iff.mp hx2).1
    rw [show k9 = 0 by omega] at hx2
    cases hx2
    exact hnew
  have hgo := k H1 locs ls ⟨okA_nw hg.1 (by decide), ⟨by show _ ≤ A.1 + 1; omega, by show _ ≤ A.2.1 + v.toNatClampNeg; omega⟩, by show A.1 + 1 ≤ _; omega, by show A.2.1 + v.toNatClampNeg ≤ _; omega⟩ hP2 ⟨Nat.le_trans hS.1 (by omega), fun x h1 h2 => (o1 x (Nat.lt_of_lt_of_le h1 hS.1)).trans (hS.2.1 x h1 h2), hS.2.2⟩ hl
  have e8 : (nw A 21 v.toNatClampNeg v.toNatClampNeg).1 - A0.1 = A.1 - A0.1 + 1 := by show A.1 + 1 - A0.1 = _; omega
  have e9 : (nw A 21 v.toNatClampNeg v.toNatClampNeg).2.1 - A0.2.1 = A.2.1 - A0.2.1 + v.toNatClampNeg := by show A.2.1 + v.toNatClampNeg - A0.2.1 = _; omega
  rw [e8, e9] at hgo
  have e10 : cvv (kc K) (.ref (A.1 + 1)) = .ref H.size := by show Value.ref (adr K (A.1 + 1)) = _; rw [adr_pos (by omega), hz]; rfl
  rw [List.map_cons, e10] at hgo
  exact hgo
theorem w_grid {E : Ev2} {own : String} {tb : Tb} {nL : Nat} {ret : Option FieldType} {pc nx : Nat} {lv : Lv} {st : List Value} {mm : Mem} {A : AS} {dm : DM} {n : Nat} {v : Int32} {r0 : Option Value} {mo0 : Mem} {fA0 : AS} {fd0 : DM} {q : Nat} {A1 : AS} {m1 : DM} (B : Bx2 E own tb nL ret) (i : Nat) (h : tb[i]? = some (pc, .multianewarray n 2, 4, nx)) (hr : Rs2 E r0 mo0 fA0 fd0) (hgd : A.1 + (1 + v.toNatClampNeg) ≤ fA0.1 ∧ A.2.1 + (v.toNatClampNeg + v.toNatClampNeg * 4) ≤ fA0.2.1) (hq : q = A.1 + 1) (hA : A1 = (grd A dm v.toNatClampNeg v.toNatClampNeg).1) (hM : m1 = (grd A dm v.toNatClampNeg v.toNatClampNeg).2) (hw : Cond.classLink own n "[[I" ∈ TW) (hwa : Cond.arrayClass .int ∈ TW) (hv : ¬ v < 0 ∧ v.toNatClampNeg ≤ 10000) (k : G2 E nL nx lv (.ref q :: st) mm A1 m1) : G2 E nL pc lv (.int 4 :: .int v :: st) mm A dm := by
  subst hq hA hM
  obtain ⟨p, l, e, R, s, m, args, below, meth, c, Q, K, A0, res, mo, fA, fd⟩ := E
  obtain ⟨hd, hn⟩ := Bx2.dec B h
  subst hn
  intro H locs ls hg hP hS hl
  obtain ⟨-, -, rfl, -⟩ := hr
  refine w_hz B hg hP fun hz => ?_
  have hrm := B.rm
  have hA0 := hg.2.1
  have hA1 := hg.2.2
  intro T hT Xs
  have hname : ("[" ++ (FieldType.array FieldType.int).toString) = "[[I" := by decide +kernel
  have k4 : (4 : Int32).toNatClampNeg = 4 := by decide
  obtain ⟨vm₁, cA, comp, -, fA9, fC, hO, -, X', step⟩ := Stand.multianewarray2F Xs (ty := .int) B.1 B.hown (by rw [hname]; exact B.tw _ hw) (oaw.use B.sx.2.2.2.2.1) (B.tw _ hwa) (g := F0 m pc ls (.int 4 :: .int v :: st.map (cvv (kc K)))) rfl hd rfl hv.1 (by decide) (Nat.le_trans (Nat.mul_le_mul_right _ hv.2) (by decide)) (by decide) (by decide) rfl rfl (by omega) (by rw [k4]; omega)
  have hcA : cA = K.2.2.2.2.2 := by
    have h2 : s.vm.findClass ("[" ++ (FieldType.array FieldType.int).toString) = some K.2.2.2.2.2 := (B.kk.2 2 _ rfl).2
    exact Option.some.inj (fA9.symm.trans h2)
  have hcC : comp = K.2.2.2.1 := by
    have h2 : s.vm.findClass ("[" ++ FieldType.int.toString) = some K.2.2.2.1 := (B.kk.2 0 _ rfl).2
    exact Option.some.inj (fC.symm.trans h2)
  subst hcA hcC
  rw [k4] at X' step
  generalize hF : Jvm.Free.Multi.fill (T.setVm vm₁) K.2.2.2.2.2 K.2.2.2.1 v.toNatClampNeg 4 (defaultValue FieldType.int) v.toNatClampNeg = F at X' step
  have hTh : (T.setVm vm₁).heap = H := hT
  obtain ⟨f1, f2, -, -⟩ := Jvm.Free.Multi.fill_facts (T.setVm vm₁) K.2.2.2.2.2 K.2.2.2.1 v.toNatClampNeg 4 (defaultValue FieldType.int) v.toNatClampNeg
  rw [hF, hTh] at f1 f2
  have hold : ∀ x : Nat, x < H.size → F.heap[x]? = H[x]? := fun x hx => by
    have := Jvm.Free.Multi.fill_old (T.setVm vm₁) K.2.2.2.2.2 K.2.2.2.1 v.toNatClampNeg 4 (defaultValue FieldType.int) (a := x) (by rw [hTh]; exact hx) v.toNatClampNeg
    rw [hF, hTh] at this
    exact this
  have hrow : ∀ j : Nat, j < v.toNatClampNeg → F.heap[H.size + 1 + j]? = some (vp_cell K.2.2.2.1 (4, .inl (fun _ => 0))) := fun j hj => by
    have := Jvm.Free.Multi.fill_inner (T.setVm vm₁) K.2.2.2.2.2 K.2.2.2.1 v.toNatClampNeg 4 (defaultValue FieldType.int) v.toNatClampNeg j hj
    rw [hF, hTh] at this
    rw [this, vp_cell_i, ← arrV_new]
    rfl
  have hout : F.heap[H.size]? = some (vp_cell K.2.2.2.2.2 (v.toNatClampNeg, .inr (.inr (.inr (.inr (fun i => if i < v.toNatClampNeg then some (H.size + 1 + i) else none)))))) := by
    rw [f2, vp_cell_q]
    exact congrArg some (vr_outer K.2.2.2.2.2 v.toNatClampNeg H.size v.toNatClampNeg)
  have hPk : va_P K.2.2.1 zcls (w2 K mm A dm) F.heap := hP.kept (fun k9 x hx => hold x.1 ((hP k9 x hx).lt))
  have hPg := grd_P (K := K) (mm := mm) (A := A) (dm := dm) (D := K.2.2.1) (H := F.heap) v.toNatClampNeg (by rw [← hz]; exact hout) (fun j hj => by rw [← hz]; exact hrow j hj) v.toNatClampNeg (Nat.le_refl _) hPk
  obtain ⟨hs1, hs2, hs3⟩ := grd_sz A dm v.toNatClampNeg v.toNatClampNeg
  have hgo := k F.heap locs ls ⟨grd_ok hg.1 _ _, ⟨by omega, by omega⟩, by omega, by omega⟩ hPg ⟨by rw [f1]; have := hS.1; omega, fun x h1 h2 => (hold x (Nat.lt_of_lt_of_le h1 hS.1)).trans (hS.2.1 x h1 h2), hS.2.2⟩ hl
  have e8 : (grd A dm v.toNatClampNeg v.toNatClampNeg).1.1 - A0.1 = A.1 - A0.1 + 1 + v.toNatClampNeg := by omega
  have e9 : (grd A dm v.toNatClampNeg v.toNatClampNeg).1.2.1 - A0.2.1 = A.2.1 - A0.2.1 + v.toNatClampNeg + v.toNatClampNeg * 4 := by omega
  rw [e8, e9] at hgo
  have e10 : cvv (kc K) (.ref (A.1 + 1)) = .ref T.heap.size := by show Value.ref (adr K (A.1 + 1)) = _; rw [adr_pos (by omega), hT, hz]; rfl
  rw [List.map_cons, e10] at hgo
  obtain ⟨t, a1, b1⟩ := hgo F rfl X'
  exact ⟨t, step t a1, b1⟩
theorem w_iret {E : Ev2} {own : String} {tb : Tb} {nL : Nat} {pc nx : Nat} {lv : Lv} {mm : Mem} {A : AS} {dm : DM} {ty : FieldType} {v : Int32} (B : Bx2 E own tb nL (some ty)) (i : Nat) (h : tb[i]? = some (pc, .ireturn, 1, nx)) (hn : narrow ty (.int v) = .int v) (hQ : Rt2 E) (hr : Rs2 E (some (.int v)) mm A dm) : G2 E nL pc lv [.int v] mm A dm := by
  obtain ⟨p, l, e, R, s, m, args, below, meth, c, Q, K, A0, res, mo, fA, fd⟩ := E
  obtain ⟨hd, -⟩ := Bx2.dec B h
  obtain ⟨rfl, rfl, rfl, rfl⟩ := hr
  have hQ : Q = MQ below (Q2 K A0 _ _ _ _) args s _ _ (Ax K) := hQ
  subst hQ
  intro H locs ls hg hP hS hl
  refine w_hz B hg hP fun hz => ?_
  exact W.zret (v := v) B.1 rfl B.rt hn (fun t ht hW => ⟨rfl, Wd2_end B hg.1 hz hP hS ht hW, hS.F ht⟩) hS.2.2 hd B.lk
theorem w_lret {E : Ev2} {own : String} {tb : Tb} {nL : Nat} {pc nx : Nat} {lv : Lv} {mm : Mem} {A : AS} {dm : DM} {v : Int64} (B : Bx2 E own tb nL (some .long)) (i : Nat) (h : tb[i]? = some (pc, .lreturn, 1, nx)) (hQ : Rt2 E) (hr : Rs2 E (some (.long v)) mm A dm) : G2 E nL pc lv [.long v] mm A dm := by
  obtain ⟨p, l, e, R, s, m, args, below, meth, c, Q, K, A0, res, mo, fA, fd⟩ := E
  obtain ⟨hd, -⟩ := Bx2.dec B h
  obtain ⟨rfl, rfl, rfl, rfl⟩ := hr
  have hQ : Q = MQ below (Q2 K A0 _ _ _ _) args s _ _ (Ax K) := hQ
  subst hQ
  intro H locs ls hg hP hS hl
  refine w_hz B hg hP fun hz => ?_
  exact W.lret (v := v) B.1 rfl B.rt (fun t ht hW => ⟨rfl, Wd2_end B hg.1 hz hP hS ht hW, hS.F ht⟩) hS.2.2 hd B.lk
theorem w_aret {E : Ev2} {own : String} {tb : Tb} {nL : Nat} {pc nx : Nat} {lv : Lv} {mm : Mem} {A : AS} {dm : DM} {rt : FieldType} {v : Nat} (B : Bx2 E own tb nL (some rt)) (i : Nat) (h : tb[i]? = some (pc, .areturn, 1, nx)) (hrt : (∃ n, rt = .object n) ∨ ∃ t, rt = .array t) (hQ : Rt2 E) (hr : Rs2 E (some (.ref v)) mm A dm) : G2 E nL pc lv [.ref v] mm A dm := by
  obtain ⟨p, l, e, R, s, m, args, below, meth, c, Q, K, A0, res, mo, fA, fd⟩ := E
  obtain ⟨hd, -⟩ := Bx2.dec B h
  obtain ⟨rfl, rfl, rfl, rfl⟩ := hr
  have hQ : Q = MQ below (Q2 K A0 _ _ _ _) args s _ _ (Ax K) := hQ
  subst hQ
  intro H locs ls hg hP hS hl
  refine w_hz B hg hP fun hz => ?_
  exact W.aret (v := .ref (adr K v)) B.1 rfl B.rt hrt (Or.inr ⟨_, rfl⟩) (fun t ht hW => ⟨rfl, Wd2_end B hg.1 hz hP hS ht hW, hS.F ht⟩) hS.2.2 hd B.lk
theorem w_vret {E : Ev2} {own : String} {tb : Tb} {nL : Nat} {pc nx : Nat} {lv : Lv} {mm : Mem} {A : AS} {dm : DM} (B : Bx2 E own tb nL none) (i : Nat) (h : tb[i]? = some (pc, .return_, 1, nx)) (hQ : Rt2 E) (hr : Rs2 E none mm A dm) : G2 E nL pc lv [] mm A dm := by
  obtain ⟨p, l, e, R, s, m, args, below, meth, c, Q, K, A0, res, mo, fA, fd⟩ := E
  obtain ⟨hd, -⟩ := Bx2.dec B h
  obtain ⟨rfl, rfl, rfl, rfl⟩ := hr
  have hQ : Q = MQ below (Q2 K A0 _ _ _ _) args s _ _ (Ax K) := hQ
  subst hQ
  intro H locs ls hg hP hS hl
  refine w_hz B hg hP fun hz => ?_
  exact W.vret B.1 rfl B.rt (fun t ht hW => ⟨rfl, Wd2_end B hg.1 hz hP hS ht hW, hS.F ht⟩) hS.2.2 hd B.lk
theorem w_top {E : Ev2} {nL pc : Nat} {lv : Lv} {st : List Value} {mm : Mem} {A : AS} {dm : DM} {x y : Int32} (e : x = y) (k : G2 E nL pc lv (.int x :: st) mm A dm) : G2 E nL pc lv (.int y :: st) mm A dm := e ▸ k
theorem w_topl {E : Ev2} {nL pc : Nat} {lv : Lv} {st : List Value} {mm : Mem} {A : AS} {dm : DM} {x y : Int64} (e : x = y) (k : G2 E nL pc lv (.long x :: st) mm A dm) : G2 E nL pc lv (.long y :: st) mm A dm := e ▸ k
theorem w_dmm {E : Ev2} {nL pc : Nat} {lv : Lv} {st : List Value} {mm : Mem} {A : AS} {dm dm' : DM} (e : dm = dm') (k : G2 E nL pc lv st mm A dm) : G2 E nL pc lv st mm A dm' := e ▸ k
theorem w_sub {E : Ev2} {nL pc : Nat} {lv : Lv} {st : List Value} {mm : Mem} {A : AS} {dm : DM} (lv' : Lv) (js : List Nat) (hj : js.filterMap (fun j => lv[j]?) = lv') (k : G2 E nL pc lv' st mm A dm) : G2 E nL pc lv st mm A dm := by
  obtain ⟨p, l, e, R, s, m, args, below, meth, c, Q, K, A0, res, mo, fA, fd⟩ := E
  intro H locs ls hg hP hS hl
  exact k H locs ls hg hP hS (lv_sub hl js (lvs hj))
theorem w_callS {E : Ev2} {own : String} {tb : Tb} {nL : Nat} {ret : Option FieldType} {pc nx : Nat} {lv : Lv} {st : List Value} {mm : Mem} {A : AS} {dm : DM} {l : Launch} {K : KF} {fr0 lo0 : Nat} {y : MethodName} {bytes : ByteArray} {maxL n fr lo idx : Nat} {rt : Option FieldType} {r : Option Value} {mm2 : Mem} {A2 : AS} {dm2 : DM} (as rest st2 : List Value) (X : Ec2 E l K fr0 lo0) (B : Bx2 E own tb nL ret) (i : Nat) (h : tb[i]? = some (pc, .invokestatic idx, 3, nx)) (hM : MI y bytes maxL rt n) (hw : Cond.methodLink own idx y ∈ TW ∧ Cond.static y ∈ TW) (hc : Ct2 l K y bytes maxL rt fr lo as mm A dm r mm2 A2 dm2) (hm : (A2.1 = A.1 ∧ A2.2.1 = A.2.1) ∨ ∃ r9 m9 f9 d9, Rs2 E r9 m9 f9 d9 ∧ ((A.1 ≤ A2.1 ∧ A.2.1 ≤ A2.2.1) ∧ A2.1 ≤ f9.1 ∧ A2.2.1 ≤ f9.2.1)) (hR : fr + 1 ≤ fr0 ∧ 8 + (maxL + 11) + lo ≤ lo0) (hn : as.length = n) (hst : st = as.reverse ++ rest) (hW : (rest.map fun v => v.category).sum ≤ 8) (h2 : st2 = r.toList ++ rest) (k : G2 E nL nx lv st2 mm2 A2 dm2) : G2 E nL pc lv st mm A dm := by
  obtain ⟨p, l', e, R, s, m, args, below, meth, c, Q, K', A0, res, mo, fA, fd⟩ := E
  obtain ⟨rfl, rfl, rfl, rfl⟩ := X
  obtain ⟨hd, hnx⟩ := Bx2.dec B h
  obtain ⟨rfl, rfl⟩ := hnx
  subst hst
  subst h2
  intro H locs ls hg hP hS hl
  have hgd : (A.1 ≤ A2.1 ∧ A.2.1 ≤ A2.2.1) ∧ A2.1 ≤ fA.1 ∧ A2.2.1 ≤ fA.2.1 := by
    rcases hm with ⟨h7, h8⟩ | ⟨r9, m9, f9, d9, h7, h8⟩
    · rw [h7, h8]
      exact ⟨⟨Nat.le_refl _, Nat.le_refl _⟩, hg.2.2⟩
    · obtain ⟨-, -, rfl, -⟩ := h7
      exact h8
  have hc := hc hgd.1.1 hgd.1.2
  have hrl : (rest.map (cvv (kc K'))).map (fun v => v.category) = rest.map (fun v => v.category) := by rw [List.map_map]; congr 1; funext v; exact cvv_cat (kc K') v
  have hrmm : A.1 - A0.1 + (A2.1 - A.1) ≤ R.cells ∧ A.2.1 - A0.2.1 + (A2.2.1 - A.2.1) ≤ R.slots := by
    have h1 := B.rm
    have h3 := hg.2.1
    omega
  have hk : ∀ (H1 : Heap) (locs1 : List Loc), inv2 A0 A2 fA → va_P K'.2.2.1 zcls (w2 K' mm2 A2 dm2) H1 → va_S (Ax K') s.heap H1 locs1 → W p l' e R s m args below meth c H1 locs1 (A2.1 - A0.1) (A2.2.1 - A0.2.1) Q (F0 m (pc + 3) ls ((r.map (cvv (kc K'))).toList ++ rest.map (cvv (kc K')))) := by
    intro H1 locs1 hg1 hP1 hS1
    have := k H1 locs1 ls hg1 hP1 hS1 hl
    rw [List.map_append] at this
    cases r <;> exact this
  refine w_hz B hg hP fun hz => ?_
  exact z2call B hg hS hgd (va_runS (As := as.map (cvv (kc K'))) (rest := rest.map (cvv (kc K'))) ⟨B.1, rfl, B.ml, B.hown, B.tw⟩ hc ⟨callB_of n B.tw (tw_good hM.1) rfl rfl rfl (B.tw _ hM.2.2.2) (B.tw _ hw.1) hM.2.2.1 hR, B.tw _ hw.2⟩ ⟨Wd2_blind, Wd2_call B hg.1 hz hP hS _⟩ rfl (by rw [List.length_map]; exact hn) hl.1 (by rw [List.map_append, List.map_reverse]) (lv_room (by rw [hrl]; exact hW)) hd hrmm) hk
theorem w_callV {E : Ev2} {own : String} {tb : Tb} {nL : Nat} {ret : Option FieldType} {pc nx : Nat} {lv : Lv} {st : List Value} {mm : Mem} {A : AS} {dm : DM} {l : Launch} {K : KF} {fr0 lo0 : Nat} {y : MethodName} {bytes : ByteArray} {maxL n fr lo idx : Nat} {rt : Option FieldType} {r : Option Value} {mm2 : Mem} {A2 : AS} {dm2 : DM} {x : vw_C} (q : Nat) (as rest st2 : List Value) (X : Ec2 E l K fr0 lo0) (B : Bx2 E own tb nL ret) (i : Nat) (h : tb[i]? = some (pc, .invokevirtual idx, 3, nx)) (hM : MI y bytes maxL rt n) (ci : Nat) (hci : ci ≠ 0) (hq : okd A q ci) (hx : zcls[ci]? = some x) (hxc : x.1 = y.cls) (hw : Cond.methodLink own idx y ∈ TW ∧ Cond.instanceMethod y ∈ TW ∧ Cond.selects y.cls y y ∈ TW) (hc : Ct2 l K y bytes maxL rt fr lo (.ref q :: as) mm A dm r mm2 A2 dm2) (hm : (A2.1 = A.1 ∧ A2.2.1 = A.2.1) ∨ ∃ r9 m9 f9 d9, Rs2 E r9 m9 f9 d9 ∧ ((A.1 ≤ A2.1 ∧ A.2.1 ≤ A2.2.1) ∧ A2.1 ≤ f9.1 ∧ A2.2.1 ≤ f9.2.1)) (hR : fr + 1 ≤ fr0 ∧ 8 + (maxL + 11) + lo ≤ lo0) (hn : as.length = n) (hst : st = as.reverse ++ .ref q :: rest) (hW : (rest.map fun v => v.category).sum ≤ 8) (h2 : st2 = r.toList ++ rest) (k : G2 E nL nx lv st2 mm2 A2 dm2) : G2 E nL pc lv st mm A dm := by
  obtain ⟨p, l', e, R, s, m, args, below, meth, c, Q, K', A0, res, mo, fA, fd⟩ := E
  obtain ⟨rfl, rfl, rfl, rfl⟩ := X
  obtain ⟨hd, hnx⟩ := Bx2.dec B h
  obtain ⟨rfl, rfl⟩ := hnx
  subst hst
  subst h2
  intro H locs ls hg hP hS hl
  have hgd : (A.1 ≤ A2.1 ∧ A.2.1 ≤ A2.2.1) ∧ A2.1 ≤ fA.1 ∧ A2.2.1 ≤ fA.2.1 := by
    rcases hm with ⟨h7, h8⟩ | ⟨r9, m9, f9, d9, h7, h8⟩
    · rw [h7, h8]
      exact ⟨⟨Nat.le_refl _, Nat.le_refl _⟩, hg.2.2⟩
    · obtain ⟨-, -, rfl, -⟩ := h7
      exact h8
  have hc := hc hgd.1.1 hgd.1.2
  have hrl : (rest.map (cvv (kc K'))).map (fun v => v.category) = rest.map (fun v => v.category) := by rw [List.map_map]; congr 1; funext v; exact cvv_cat (kc K') v
  have hrmm : A.1 - A0.1 + (A2.1 - A.1) ≤ R.cells ∧ A.2.1 - A0.2.1 + (A2.2.1 - A.2.1) ≤ R.slots := by
    have h1 := B.rm
    have h3 := hg.2.1
    omega
  have hk : ∀ (H1 : Heap) (locs1 : List Loc), inv2 A0 A2 fA → va_P K'.2.2.1 zcls (w2 K' mm2 A2 dm2) H1 → va_S (Ax K') s.heap H1 locs1 → W p l' e R s m args below meth c H1 locs1 (A2.1 - A0.1) (A2.2.1 - A0.2.1) Q (F0 m (pc + 3) ls ((r.map (cvv (kc K'))).toList ++ rest.map (cvv (kc K')))) := by
    intro H1 locs1 hg1 hP1 hS1
    have := k H1 locs1 ls hg1 hP1 hS1 hl
    rw [List.map_append] at this
    cases r <;> exact this
  have hrec : ∃ cell : Cell, H[adr K' q]? = some cell ∧ cell.vm.isStatics = false ∧ s.vm.findClass y.cls = some cell.cls := by
    obtain ⟨j, hj1, hj2⟩ := ow_at A (okd_liv hq hci)
    have hg1 := hj1 K' mm dm
    rw [cld_obj (zcls_lt hx) hq] at hg1
    rw [← hxc]
    exact va_recv B.kk hP hx hg1
  refine w_hz B hg hP fun hz => ?_
  exact z2call B hg hS hgd (va_runV (C := y.cls) (b := adr K' q) (As := as.map (cvv (kc K'))) (rest := rest.map (cvv (kc K'))) ⟨B.1, rfl, B.ml, B.hown, B.tw⟩ hc ⟨callB_of n B.tw (tw_good hM.1) rfl rfl rfl (B.tw _ hM.2.2.2) (B.tw _ hw.1) hM.2.2.1 hR, B.tw _ hw.2.1, B.tw _ hw.2.2⟩ ⟨Wd2_blind, hrec, Wd2_call B hg.1 hz hP hS _⟩ rfl (by rw [List.length_map]; exact hn) hl.1 (by rw [List.map_append, List.map_reverse]; rfl) (lv_room (by rw [hrl]; exact hW)) hd hrmm) hk
theorem w_callI {E : Ev2} {own : String} {tb : Tb} {nL : Nat} {ret : Option FieldType} {pc nx : Nat} {lv : Lv} {st : List Value} {mm : Mem} {A : AS} {dm : DM} {l : Launch} {K : KF} {fr0 lo0 : Nat} {y : MethodName} {bytes : ByteArray} {maxL n fr lo idx : Nat} {rt : Option FieldType} {r : Option Value} {mm2 : Mem} {A2 : AS} {dm2 : DM} (q : Nat) (as rest st2 : List Value) (X : Ec2 E l K fr0 lo0) (B : Bx2 E own tb nL ret) (i : Nat) (h : tb[i]? = some (pc, .invokespecial idx, 3, nx)) (hM : MI y bytes maxL none n) (hw : Cond.methodLink own idx y ∈ TW ∧ Cond.instanceMethod y ∈ TW ∧ y.name = "<init>") (hc : Ct2 l K y bytes maxL none fr lo (.ref q :: as) mm A dm r mm2 A2 dm2) (hm : (A2.1 = A.1 ∧ A2.2.1 = A.2.1) ∨ ∃ r9 m9 f9 d9, Rs2 E r9 m9 f9 d9 ∧ ((A.1 ≤ A2.1 ∧ A.2.1 ≤ A2.2.1) ∧ A2.1 ≤ f9.1 ∧ A2.2.1 ≤ f9.2.1)) (hR : fr + 1 ≤ fr0 ∧ 8 + (maxL + 11) + lo ≤ lo0) (hn : as.length = n) (hst : st = as.reverse ++ .ref q :: rest) (hW : (rest.map fun v => v.category).sum ≤ 8) (h2 : st2 = r.toList ++ rest) (k : G2 E nL nx lv st2 mm2 A2 dm2) : G2 E nL pc lv st mm A dm := by
  obtain ⟨p, l', e, R, s, m, args, below, meth, c, Q, K', A0, res, mo, fA, fd⟩ := E
  obtain ⟨rfl, rfl, rfl, rfl⟩ := X
  obtain ⟨hd, hnx⟩ := Bx2.dec B h
  obtain ⟨rfl, rfl⟩ := hnx
  subst hst
  subst h2
  intro H locs ls hg hP hS hl
  have hgd : (A.1 ≤ A2.1 ∧ A.2.1 ≤ A2.2.1) ∧ A2.1 ≤ fA.1 ∧ A2.2.1 ≤ fA.2.1 := by
    rcases hm with ⟨h7, h8⟩ | ⟨r9, m9, f9, d9, h7, h8⟩
    · rw [h7, h8]
      exact ⟨⟨Nat.le_refl _, Nat.le_refl _⟩, hg.2.2⟩
    · obtain ⟨-, -, rfl, -⟩ := h7
      exact h8
  have hc := hc hgd.1.1 hgd.1.2
  have hrl : (rest.map (cvv (kc K'))).map (fun v => v.category) = rest.map (fun v => v.category) := by rw [List.map_map]; congr 1; funext v; exact cvv_cat (kc K') v
  have hrmm : A.1 - A0.1 + (A2.1 - A.1) ≤ R.cells ∧ A.2.1 - A0.2.1 + (A2.2.1 - A.2.1) ≤ R.slots := by
    have h1 := B.rm
    have h3 := hg.2.1
    omega
  have hk : ∀ (H1 : Heap) (locs1 : List Loc), inv2 A0 A2 fA → va_P K'.2.2.1 zcls (w2 K' mm2 A2 dm2) H1 → va_S (Ax K') s.heap H1 locs1 → W p l' e R s m args below meth c H1 locs1 (A2.1 - A0.1) (A2.2.1 - A0.2.1) Q (F0 m (pc + 3) ls ((r.map (cvv (kc K'))).toList ++ rest.map (cvv (kc K')))) := by
    intro H1 locs1 hg1 hP1 hS1
    have := k H1 locs1 ls hg1 hP1 hS1 hl
    rw [List.map_append] at this
    cases r <;> exact this
  refine w_hz B hg hP fun hz => ?_
  exact z2call B hg hS hgd (va_runI (b := adr K' q) (As := as.map (cvv (kc K'))) (rest := rest.map (cvv (kc K'))) ⟨B.1, rfl, B.ml, B.hown, B.tw⟩ hc ⟨callB_of n B.tw (tw_good hM.1) rfl rfl rfl (B.tw _ hM.2.2.2) (B.tw _ hw.1) hM.2.2.1 hR, hw.2.2, B.tw _ hw.2.1⟩ ⟨Wd2_blind, Wd2_call B hg.1 hz hP hS _⟩ rfl (by rw [List.length_map]; exact hn) hl.1 (by rw [List.map_append, List.map_reverse]; rfl) (lv_room (by rw [hrl]; exact hW)) hd hrmm) hk
theorem w_callF {E : Ev2} {own : String} {tb : Tb} {nL : Nat} {ret : Option FieldType} {pc nx : Nat} {lv : Lv} {st : List Value} {mm : Mem} {A : AS} {dm : DM} {l : Launch} {K : KF} {fr0 lo0 : Nat} {y : MethodName} {bytes : ByteArray} {maxL n fr lo idx : Nat} {rt : Option FieldType} {r : Option Value} {mm2 : Mem} {A2 : AS} {dm2 : DM} {x : vw_C} {z : MethodName} {cnt : Nat} (q : Nat) (as rest st2 : List Value) (X : Ec2 E l K fr0 lo0) (B : Bx2 E own tb nL ret) (i : Nat) (h : tb[i]? = some (pc, .invokeinterface idx cnt, 5, nx)) (hM : MI y bytes maxL rt n) (ci : Nat) (hci : ci ≠ 0) (hq : okd A q ci) (hx : zcls[ci]? = some x) (hxc : x.1 = y.cls) (hw : Cond.methodLink own idx z ∈ TW ∧ Cond.instanceMethod y ∈ TW ∧ Cond.selects y.cls z y ∈ TW) (hwf : Cond.declares z ∈ TF ∧ Cond.interfaceMethod z.cls z.cls z.name z.desc ∈ TF ∧ Cond.publicMethod y ∈ TF ∧ Cond.unhidden y.cls z.name z.desc ∈ TF ∧ Cond.castable y.cls z.cls ∈ TF) (hzd : z.cls ≠ "java/lang/invoke/MethodHandle" ∧ z.cls ≠ "java/lang/invoke/VarHandle" ∧ (parseMethodDescriptor z.desc).map (fun d => d.parameters.length) = some n) (hc : Ct2 l K y bytes maxL rt fr lo (.ref q :: as) mm A dm r mm2 A2 dm2) (hm : (A2.1 = A.1 ∧ A2.2.1 = A.2.1) ∨ ∃ r9 m9 f9 d9, Rs2 E r9 m9 f9 d9 ∧ ((A.1 ≤ A2.1 ∧ A.2.1 ≤ A2.2.1) ∧ A2.1 ≤ f9.1 ∧ A2.2.1 ≤ f9.2.1)) (hR : fr + 1 ≤ fr0 ∧ 8 + (maxL + 11) + lo ≤ lo0) (hn : as.length = n) (hst : st = as.reverse ++ .ref q :: rest) (hW : (rest.map fun v => v.category).sum ≤ 8) (h2 : st2 = r.toList ++ rest) (k : G2 E nL nx lv st2 mm2 A2 dm2) : G2 E nL pc lv st mm A dm := by
  obtain ⟨p, l', e, R, s, m, args, below, meth, c, Q, K', A0, res, mo, fA, fd⟩ := E
  obtain ⟨rfl, rfl, rfl, rfl⟩ := X
  obtain ⟨hd, hnx⟩ := Bx2.dec B h
  obtain ⟨rfl, rfl⟩ := hnx
  subst hst
  subst h2
  intro H locs ls hg hP hS hl
  have hgd : (A.1 ≤ A2.1 ∧ A.2.1 ≤ A2.2.1) ∧ A2.1 ≤ fA.1 ∧ A2.2.1 ≤ fA.2.1 := by
    rcases hm with ⟨h7, h8⟩ | ⟨r9, m9, f9, d9, h7, h8⟩
    · rw [h7, h8]
      exact ⟨⟨Nat.le_refl _, Nat.le_refl _⟩, hg.2.2⟩
    · obtain ⟨-, -, rfl, -⟩ := h7
      exact h8
  have hc := hc hgd.1.1 hgd.1.2
  have hrl : (rest.map (cvv (kc K'))).map (fun v => v.category) = rest.map (fun v => v.category) := by rw [List.map_map]; congr 1; funext v; exact cvv_cat (kc K') v
  have hrmm : A.1 - A0.1 + (A2.1 - A.1) ≤ R.cells ∧ A.2.1 - A0.2.1 + (A2.2.1 - A.2.1) ≤ R.slots := by
    have h1 := B.rm
    have h3 := hg.2.1
    omega
  have hk : ∀ (H1 : Heap) (locs1 : List Loc), inv2 A0 A2 fA → va_P K'.2.2.1 zcls (w2 K' mm2 A2 dm2) H1 → va_S (Ax K') s.heap H1 locs1 → W p l' e R s m args below meth c H1 locs1 (A2.1 - A0.1) (A2.2.1 - A0.2.1) Q (F0 m (pc + 5) ls ((r.map (cvv (kc K'))).toList ++ rest.map (cvv (kc K')))) := by
    intro H1 locs1 hg1 hP1 hS1
    have := k H1 locs1 ls hg1 hP1 hS1 hl
    rw [List.map_append] at this
    cases r <;> exact this
  have hrec : ∃ cell : Cell, H[adr K' q]? = some cell ∧ cell.vm.isStatics = false ∧ s.vm.findClass y.cls = some cell.cls := by
    obtain ⟨j, hj1, hj2⟩ := ow_at A (okd_liv hq hci)
    have hg1 := hj1 K' mm dm
    rw [cld_obj (zcls_lt hx) hq] at hg1
    rw [← hxc]
    exact va_recv B.kk hP hx hg1
  refine w_hz B hg hP fun hz => ?_
  have hfw : va_Fw y.cls z y s := va_Fw.of (A := args) (va_Nw.use rfl (B.sx.2.1 _ hwf.1)) (va_Nw.use rfl (B.sx.2.1 _ hwf.2.1)) (va_Nw.use rfl (B.sx.2.1 _ hwf.2.2.1)) (va_Nw.use rfl (B.sx.2.1 _ hwf.2.2.2.1)) (va_Nw.use rfl (B.sx.2.1 _ hwf.2.2.2.2))
  have hat : ClassAt s y.cls (K'.2.2.1.1 ci) := by
    have h7 := (B.kk.1 ci x hx).2
    rw [hxc] at h7
    exact h7
  have hgw : GoodIn TW (va_wsF own idx y.cls z y (Cond.code y bytes maxL rt :: TW)) := by
    intro w hw9
    rcases List.mem_append.mp hw9 with h7 | h7
    · have hin : w ∈ TW := by
        simp only [List.mem_cons, List.not_mem_nil, or_false] at h7
        rcases h7 with rfl | rfl | rfl | rfl
        · exact hw.1
        · exact hw.2.2
        · exact hw.2.1
        · exact hM.2.2.2
      exact ⟨hin, good_of_word (List.mem_filter.mp hin).2⟩
    · exact tw_good hM.1 w h7
  exact z2callF B hg hS hgd (va_runF hat (b := adr K' q) (As := as.map (cvv (kc K'))) (rest := rest.map (cvv (kc K'))) ⟨B.1, rfl, B.ml, B.hown, B.tw⟩ hc (va_cwF n B.tw hgw rfl rfl rfl hfw hzd hR) ⟨Wd2_blind, hrec, Wd2_call B hg.1 hz hP hS _⟩ rfl (by rw [List.length_map]; exact hn) hl.1 (by rw [List.map_append, List.map_reverse]; rfl) (lv_room (by rw [hrl]; exact hW)) hd hrmm) hk
theorem w_obj {E : Ev2} {own : String} {tb : Tb} {nL : Nat} {ret : Option FieldType} {pc nx : Nat} {lv : Lv} {st : List Value} {mm : Mem} {A : AS} {dm : DM} {l : Launch} {K : KF} {fr0 lo0 : Nat} {x idx : Nat} (X : Ec2 E l K fr0 lo0) (B : Bx2 E own tb nL ret) (i : Nat) (h : tb[i]? = some (pc, .invokespecial idx, 3, nx)) (hw : Cond.methodLink own idx Lib.objectInit ∈ TW ∧ Cond.instanceMethod Lib.objectInit ∈ TW ∧ Cond.code Lib.objectInit ⟨#[0xb1]⟩ 1 none ∈ TW) (hR : 1 ≤ fr0 ∧ 20 ≤ lo0) (hW : (st.map fun v => v.category).sum ≤ 8) (k : G2 E nL nx lv st mm A dm) : G2 E nL pc lv (.ref x :: st) mm A dm := by
  obtain ⟨p, l', e, R, s, m, args, below, meth, c, Q, K', A0, res, mo, fA, fd⟩ := E
  obtain ⟨rfl, rfl, rfl, rfl⟩ := X
  obtain ⟨hd, hnx⟩ := Bx2.dec B h
  subst hnx
  intro H locs ls hg hP hS hl
  have hrl : (st.map (cvv (kc K'))).map (fun v => v.category) = st.map (fun v => v.category) := by rw [List.map_map]; congr 1; funext v; exact cvv_cat (kc K') v
  refine W.objInit B.1 rfl B.hown (B.tw _ hw.1) (B.tw _ hw.2.1) (B.tw _ hw.2.2) rfl (by rw [B.ml]; exact hl.1) rfl hd hR.1 (by have := hR.2; rw [hrl]; show 2 * 0 + _ + 12 ≤ _; omega) ?_
  exact k H locs ls hg hP hS hl
theorem w_mmax {E : Ev2} {own : String} {tb : Tb} {nL : Nat} {ret : Option FieldType} {pc nx : Nat} {lv : Lv} {st : List Value} {mm : Mem} {A : AS} {dm : DM} {l : Launch} {K : KF} {fr0 lo0 : Nat} {x y : Int32} {idx : Nat} (X : Ec2 E l K fr0 lo0) (B : Bx2 E own tb nL ret) (i : Nat) (h : tb[i]? = some (pc, .invokestatic idx, 3, nx)) (hw : Cond.methodLink own idx Lib.Math.max.name ∈ TW ∧ Cond.static Lib.Math.max.name ∈ TW ∧ Cond.initialized "java/lang/Math" ∈ TW ∧ Cond.code Lib.Math.max.name Lib.Math.max.code 2 (some .int) ∈ TW) (hR : 1 ≤ fr0 ∧ 21 ≤ lo0) (hW : (st.map fun v => v.category).sum ≤ 8) (k : G2 E nL nx lv (.int (if x < y then y else x) :: st) mm A dm) : G2 E nL pc lv (.int y :: .int x :: st) mm A dm := by
  obtain ⟨p, l', e, R, s, m, args, below, meth, c, Q, K', A0, res, mo, fA, fd⟩ := E
  obtain ⟨rfl, rfl, rfl, rfl⟩ := X
  obtain ⟨hd, hnx⟩ := Bx2.dec B h
  obtain ⟨rfl, rfl⟩ := hnx
  intro H locs ls hg hP hS hl
  have hrl : (st.map (cvv (kc K'))).map (fun v => v.category) = st.map (fun v => v.category) := by rw [List.map_map]; congr 1; funext v; exact cvv_cat (kc K') v
  exact va_mmax B.1 rfl (by rw [B.ml]; exact hl.1.symm) B.hown (B.tw _ hw.1) (B.tw _ hw.2.1) (B.tw _ hw.2.2.1) (B.tw _ hw.2.2.2) hR.1 (by rw [hrl]; have := hR.2; omega) (B.room hg).1 (B.room hg).2 hd (k H locs ls hg hP hS hl)
theorem w_mmin {E : Ev2} {own : String} {tb : Tb} {nL : Nat} {ret : Option FieldType} {pc nx : Nat} {lv : Lv} {st : List Value} {mm : Mem} {A : AS} {dm : DM} {l : Launch} {K : KF} {fr0 lo0 : Nat} {x y : Int32} {idx : Nat} (X : Ec2 E l K fr0 lo0) (B : Bx2 E own tb nL ret) (i : Nat) (h : tb[i]? = some (pc, .invokestatic idx, 3, nx)) (hw : Cond.methodLink own idx Lib.Math.min.name ∈ TW ∧ Cond.static Lib.Math.min.name ∈ TW ∧ Cond.initialized "java/lang/Math" ∈ TW ∧ Cond.code Lib.Math.min.name Lib.Math.min.code 2 (some .int) ∈ TW) (hR : 1 ≤ fr0 ∧ 21 ≤ lo0) (hW : (st.map fun v => v.category).sum ≤ 8) (k : G2 E nL nx lv (.int (if y < x then y else x) :: st) mm A dm) : G2 E nL pc lv (.int y :: .int x :: st) mm A dm := by
  obtain ⟨p, l', e, R, s, m, args, below, meth, c, Q, K', A0, res, mo, fA, fd⟩ := E
  obtain ⟨rfl, rfl, rfl, rfl⟩ := X
  obtain ⟨hd, hnx⟩ := Bx2.dec B h
  obtain ⟨rfl, rfl⟩ := hnx
  intro H locs ls hg hP hS hl
  have hrl : (st.map (cvv (kc K'))).map (fun v => v.category) = st.map (fun v => v.category) := by rw [List.map_map]; congr 1; funext v; exact cvv_cat (kc K') v
  exact va_mmin B.1 rfl (by rw [B.ml]; exact hl.1.symm) B.hown (B.tw _ hw.1) (B.tw _ hw.2.1) (B.tw _ hw.2.2.1) (B.tw _ hw.2.2.2) hR.1 (by rw [hrl]; have := hR.2; omega) (B.room hg).1 (B.room hg).2 hd (k H locs ls hg hP hS hl)
theorem w_callC {E : Ev2} {own : String} {tb : Tb} {nL : Nat} {ret : Option FieldType} {pc nx : Nat} {lv : Lv} {st : List Value} {mm : Mem} {A : AS} {dm : DM} {l : Launch} {K : KF} {fr0 lo0 : Nat} {y : MethodName} {bytes : ByteArray} {maxL n fr lo idx : Nat} {rt : Option FieldType} {r : Option Value} {mm2 : Mem} (q : Nat) (as rest st2 : List Value) (X : Ec2 E l K fr0 lo0) (B : Bx2 E own tb nL ret) (i : Nat) (h : tb[i]? = some (pc, .invokevirtual idx, 3, nx)) (hM : MI y bytes maxL rt n) (hcls : y.cls = RX6) (hq : q = A.2.2.2) (hw : Cond.methodLink own idx y ∈ TW ∧ Cond.instanceMethod y ∈ TW ∧ Cond.selects y.cls y y ∈ TW) (hc : Dj (cfg K A.2.2.2) → Ct l (cfg K A.2.2.2) y bytes maxL rt fr lo (.ref 14 :: as) mm r mm2) (hR : fr + 1 ≤ fr0 ∧ 8 + (maxL + 11) + lo ≤ lo0) (hn : as.length = n) (has : ∀ (C C' : Cfg), as.map (cvv C) = as.map (cvv C')) (hrr : ∀ (C C' : Cfg), r.map (cvv C) = r.map (cvv C')) (hst : st = as.reverse ++ .ref q :: rest) (hW : (rest.map fun v => v.category).sum ≤ 8) (h2 : st2 = r.toList ++ rest) (k : G2 E nL nx lv st2 mm2 A dm) : G2 E nL pc lv st mm A dm := by
  obtain ⟨p, l', e, R, s, m, args, below, meth, c, Q, K', A0, res, mo, fA, fd⟩ := E
  obtain ⟨rfl, rfl, rfl, rfl⟩ := X
  obtain ⟨hd, hnx⟩ := Bx2.dec B h
  obtain ⟨rfl, rfl⟩ := hnx
  subst hst
  subst h2
  subst hq
  intro H locs ls hg hP hS hl
  have hok := hg.1
  have hc := hc (cfg_dj hok)
  have hrl : (rest.map (cvv (kc K'))).map (fun v => v.category) = rest.map (fun v => v.category) := by rw [List.map_map]; congr 1; funext v; exact cvv_cat (kc K') v
  have hb : adr K' A.2.2.2 = (cfg K' A.2.2.2).1 14 := by
    rw [adr_pos hok.1]
    rfl
  have hPc : va_P K'.2.2.1 zcls (wl (cfg K' A.2.2.2) mm) H := fun k9 x hx => hP k9 x (by unfold w2; rw [List.getElem?_append_left (List.getElem?_eq_some_iff.mp hx).1]; exact hx)
  have hrec : ∃ cell : Cell, H[adr K' A.2.2.2]? = some cell ∧ cell.vm.isStatics = false ∧ s.vm.findClass y.cls = some cell.cls := by
    rw [hcls, hb]
    have hx : zcls[6]? = some (RX6, TX6, 7) := rfl
    have h7 := wl_get (C := cfg K' A.2.2.2) (mm := mm) (q := 14) (by decide) (by decide)
    rw [cel_obj (q := 14) (ci := 6) rfl (by decide)] at h7
    exact va_recv B.kk hPc hx h7
  have hsx : Sx (cfg K' A.2.2.2) (Aw (cfg K' A.2.2.2)) s s.heap := ⟨B.sx.1, B.sx.2.1⟩
  have hcall : ∀ U : State, U.heap = H → s.WarmedH U.vm → va_Pc ((Value.ref 14 :: as).map (cvv (cfg K' A.2.2.2))) (Wd (cfg K' A.2.2.2) mm) ((Value.ref 14 :: as).map (cvv (cfg K' A.2.2.2))).toArray U := fun U hU hWm => ⟨rfl, by rw [hU]; exact hPc, va_K.moved hWm.alike B.kk, by rw [hU]; exact hsx.go hWm⟩
  have hroom := B.room hg
  have hrun := va_runV (locs := locs) (H := H) (cells := A.1 - A0.1) (slots := A.2.1 - A0.2.1) (e := e) (below := below) (meth := meth) (C := y.cls) (b := (cfg K' A.2.2.2).1 14) (As := as.map (cvv (cfg K' A.2.2.2))) (rest := rest.map (cvv (kc K'))) (g := F0 m pc ls ((as.reverse ++ Value.ref A.2.2.2 :: rest).map (cvv (kc K')))) ⟨B.1, rfl, B.ml, B.hown, B.tw⟩ hc ⟨callB_of n B.tw (tw_good hM.1) rfl rfl rfl (B.tw _ hM.2.2.2) (B.tw _ hw.1) hM.2.2.1 hR, B.tw _ hw.2.1, B.tw _ hw.2.2⟩ ⟨Wd_blind, by rw [← hb]; exact hrec, hcall⟩ rfl (by rw [List.length_map]; exact hn) hl.1 (by rw [List.map_append, List.map_reverse, has (kc K') (cfg K' A.2.2.2), ← hb]; rfl) (lv_room (by rw [hrl]; exact hW)) hd hroom
  intro T hT Y
  obtain ⟨v, st₀, t, T', L, h0, X', hL, e1, e2, ⟨hv, hWd, hF⟩, hst⟩ := hrun T hT Y
  cases hv
  have hAA : ∀ q, Aw (cfg K' A.2.2.2) q → Ax K' q := fun q hq => by
    obtain ⟨c9, h5, h6, rfl⟩ := hq
    show K'.1 ≤ K'.1 + (A.2.2.2 - 1) + (c9 - 14)
    omega
  obtain ⟨g1, g2, hS1⟩ := kp_keep h0 e1 hS (fun q _ h => hAA q h) hAA hL hF
  have hP2 : va_P K'.2.2.1 zcls (w2 K' mm2 A dm) T'.heap := by
    intro k9 x hx
    by_cases hl9 : k9 < 119
    · unfold w2 at hx
      rw [List.getElem?_append_left (by rw [wl_len]; exact hl9)] at hx
      rw [e1]
      exact hWd.1 k9 x hx
    · have hx' : (w2 K' mm A dm)[k9]? = some x := by
        unfold w2 at hx ⊢
        rw [List.getElem?_append_right (by rw [wl_len]; omega), wl_len] at hx ⊢
        exact hx
      have hq9 := hP k9 x hx'
      refine hq9.kept (g2 x.1 hq9.lt ?_)
      rintro ⟨c9, h5, h6, h7⟩
      have h8 := wl_get (C := cfg K' A.2.2.2) (mm := mm) h5 h6
      have h9 : (w2 K' mm A dm)[c9 - 14]? = some ((cfg K' A.2.2.2).1 c9, cel (cfg K' A.2.2.2) mm c9) := by
        unfold w2
        rw [List.getElem?_append_left (by rw [wl_len]; omega)]
        exact h8
      have h10 := (w2_D (K := K') (mm := mm) (dm := dm) hok).1 (c9 - 14) k9 _ _ h9 hx' h7
      omega
  have hgo := k T'.heap (locs ++ L) ls hg hP2 hS1 hl
  rw [List.map_append] at hgo
  have hvs : (r.map (cvv (cfg K' A.2.2.2))).toList = r.toList.map (cvv (kc K')) := by
    rw [hrr (cfg K' A.2.2.2) (kc K')]
    cases r <;> rfl
  obtain ⟨t2, a1, b1⟩ := hgo T' rfl X'
  refine ⟨t2, hst t2 ?_, b1⟩
  rw [hvs]
  exact a1
end
