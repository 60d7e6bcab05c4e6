def RX0 : String := "ZoneCapacity$Auction"
def TX0 : u_T := fun k => match k with
  | 0 => ("ZoneCapacity$Auction", "market", "LZoneCapacity$Market;", true)
  | 1 => ("ZoneCapacity$Auction", "prices", "[I", true)
  | 2 => ("ZoneCapacity$Auction", "nets", "[I", true)
  | 3 => ("ZoneCapacity$Auction", "servedUnits", "[I", true)
  | 4 => ("ZoneCapacity$Auction", "takenUnits", "[I", true)
  | 5 => ("ZoneCapacity$Auction", "units", "[I", true)
  | 6 => ("ZoneCapacity$Auction", "its", "[I", true)
  | 7 => ("ZoneCapacity$Auction", "levels", "[I", true)
  | 8 => ("ZoneCapacity$Auction", "lows", "[I", true)
  | 9 => ("ZoneCapacity$Auction", "highs", "[I", true)
  | 10 => ("ZoneCapacity$Auction", "filledAt", "I", false)
  | _ => ("ZoneCapacity$Auction", "top", "I", false)
def tyX0 : Nat → FieldType := fun k => match k with
  | 0 => .object "ZoneCapacity$Market"
  | 1 => .array .int
  | 2 => .array .int
  | 3 => .array .int
  | 4 => .array .int
  | 5 => .array .int
  | 6 => .array .int
  | 7 => .array .int
  | 8 => .array .int
  | 9 => .array .int
  | 10 => .int
  | _ => .int
theorem nmX0 : ∀ a, a < 12 → ∀ b, b < 12 → a ≠ b → (TX0 a).2.1 ≠ (TX0 b).2.1 := by decide +kernel
theorem tyX0_ok : ∀ k, k < 12 → parseFieldDescriptor (TX0 k).2.2.1 = some (tyX0 k) := by decide +kernel
abbrev cX0_init : ByteArray := prog_2_method_1_code
def yX0_init : MethodName := ⟨RX0, "<init>", "()V"⟩
abbrev cX0_clear : ByteArray := prog_2_method_2_code
def yX0_clear : MethodName := ⟨RX0, "clear", "()V"⟩
abbrev cX0_levelOf : ByteArray := prog_2_method_3_code
def yX0_levelOf : MethodName := ⟨RX0, "levelOf", "(II)I"⟩
abbrev cX0_readLines : ByteArray := prog_2_method_4_code
def yX0_readLines : MethodName := ⟨RX0, "readLines", "()V"⟩
abbrev cX0_readTop : ByteArray := prog_2_method_5_code
def yX0_readTop : MethodName := ⟨RX0, "readTop", "()V"⟩
abbrev cX0_fillLevels : ByteArray := prog_2_method_6_code
def yX0_fillLevels : MethodName := ⟨RX0, "fillLevels", "(II[I)V"⟩
abbrev cX0_unitsBelow : ByteArray := prog_2_method_7_code
def yX0_unitsBelow : MethodName := ⟨RX0, "unitsBelow", "(II)I"⟩
abbrev cX0_leastPrice : ByteArray := prog_2_method_8_code
def yX0_leastPrice : MethodName := ⟨RX0, "leastPrice", "(II)I"⟩
abbrev cX0_part : ByteArray := prog_2_method_9_code
def yX0_part : MethodName := ⟨RX0, "part", "(I)V"⟩
abbrev cX0_partToLines : ByteArray := prog_2_method_10_code
def yX0_partToLines : MethodName := ⟨RX0, "partToLines", "(III)I"⟩
abbrev cX0_partToInner : ByteArray := prog_2_method_11_code
def yX0_partToInner : MethodName := ⟨RX0, "partToInner", "(III)I"⟩
abbrev cX0_takenOf : ByteArray := prog_2_method_12_code
def yX0_takenOf : MethodName := ⟨RX0, "takenOf", "(I)I"⟩
abbrev cX0_boundOf : ByteArray := prog_2_method_13_code
def yX0_boundOf : MethodName := ⟨RX0, "boundOf", "(I)I"⟩
abbrev cX0_surplusOfAll : ByteArray := prog_2_method_14_code
def yX0_surplusOfAll : MethodName := ⟨RX0, "surplusOfAll", "()J"⟩
abbrev cX0_rentOf : ByteArray := prog_2_method_15_code
def yX0_rentOf : MethodName := ⟨RX0, "rentOf", "(I)J"⟩
abbrev cX0_paidTo : ByteArray := prog_2_method_16_code
def yX0_paidTo : MethodName := ⟨RX0, "paidTo", "(I)J"⟩
abbrev cX0_paidToOwner : ByteArray := prog_2_method_17_code
def yX0_paidToOwner : MethodName := ⟨RX0, "paidToOwner", "(I)J"⟩
def RX1 : String := "ZoneCapacity$Market"
def TX1 : u_T := fun k => match k with
  | 0 => ("ZoneCapacity$Market", "zones", "LZoneCapacity$Zones;", true)
  | _ => ("ZoneCapacity$Market", "offers", "LZoneCapacity$Offers;", true)
def tyX1 : Nat → FieldType := fun k => match k with
  | 0 => .object "ZoneCapacity$Zones"
  | _ => .object "ZoneCapacity$Offers"
theorem nmX1 : ∀ a, a < 2 → ∀ b, b < 2 → a ≠ b → (TX1 a).2.1 ≠ (TX1 b).2.1 := by decide +kernel
theorem tyX1_ok : ∀ k, k < 2 → parseFieldDescriptor (TX1 k).2.2.1 = some (tyX1 k) := by decide +kernel
abbrev cX1_init : ByteArray := prog_3_method_1_code
def yX1_init : MethodName := ⟨RX1, "<init>", "()V"⟩
def RX2 : String := "ZoneCapacity$Offers"
def TX2 : u_T := fun k => match k with
  | 0 => ("ZoneCapacity$Offers", "many", "I", false)
  | 1 => ("ZoneCapacity$Offers", "ceiling", "I", false)
  | 2 => ("ZoneCapacity$Offers", "floors", "[I", true)
  | 3 => ("ZoneCapacity$Offers", "zones", "[I", true)
  | 4 => ("ZoneCapacity$Offers", "sizes", "[I", true)
  | 5 => ("ZoneCapacity$Offers", "kinds", "[I", true)
  | 6 => ("ZoneCapacity$Offers", "owners", "[I", true)
  | 7 => ("ZoneCapacity$Offers", "must", "[I", true)
  | 8 => ("ZoneCapacity$Offers", "free", "[I", true)
  | 9 => ("ZoneCapacity$Offers", "steps", "[I", true)
  | 10 => ("ZoneCapacity$Offers", "stepUnits", "[I", true)
  | _ => ("ZoneCapacity$Offers", "stepPrices", "[I", true)
def tyX2 : Nat → FieldType := fun k => match k with
  | 0 => .int
  | 1 => .int
  | 2 => .array .int
  | 3 => .array .int
  | 4 => .array .int
  | 5 => .array .int
  | 6 => .array .int
  | 7 => .array .int
  | 8 => .array .int
  | 9 => .array .int
  | 10 => .array .int
  | _ => .array .int
theorem nmX2 : ∀ a, a < 12 → ∀ b, b < 12 → a ≠ b → (TX2 a).2.1 ≠ (TX2 b).2.1 := by decide +kernel
theorem tyX2_ok : ∀ k, k < 12 → parseFieldDescriptor (TX2 k).2.2.1 = some (tyX2 k) := by decide +kernel
abbrev cX2_init : ByteArray := prog_4_method_1_code
def yX2_init : MethodName := ⟨RX2, "<init>", "()V"⟩
abbrev cX2_has : ByteArray := prog_4_method_3_code
def yX2_has : MethodName := ⟨RX2, "has", "(I)Z"⟩
abbrev cX2_add : ByteArray := prog_4_method_4_code
def yX2_add : MethodName := ⟨RX2, "add", "(IIIIZZ)I"⟩
abbrev cX2_addStep : ByteArray := prog_4_method_5_code
def yX2_addStep : MethodName := ⟨RX2, "addStep", "(III)I"⟩
abbrev cX2_dropSteps : ByteArray := prog_4_method_6_code
def yX2_dropSteps : MethodName := ⟨RX2, "dropSteps", "(I)I"⟩
abbrev cX2_lastPrice : ByteArray := prog_4_method_7_code
def yX2_lastPrice : MethodName := ⟨RX2, "lastPrice", "(I)I"⟩
abbrev cX2_rest : ByteArray := prog_4_method_8_code
def yX2_rest : MethodName := ⟨RX2, "rest", "(I)I"⟩
abbrev cX2_changeCeiling : ByteArray := prog_4_method_9_code
def yX2_changeCeiling : MethodName := ⟨RX2, "changeCeiling", "(I)Z"⟩
abbrev cX2_hasLine : ByteArray := prog_4_method_14_code
def yX2_hasLine : MethodName := ⟨RX2, "hasLine", "(II)Z"⟩
abbrev cX2_unitsOf : ByteArray := prog_4_method_15_code
def yX2_unitsOf : MethodName := ⟨RX2, "unitsOf", "(II)I"⟩
abbrev cX2_itsOf : ByteArray := prog_4_method_16_code
def yX2_itsOf : MethodName := ⟨RX2, "itsOf", "(II)I"⟩
def RX3 : String := "ZoneCapacity$Tape"
def TX3 : u_T := fun k => match k with
  | 0 => ("ZoneCapacity$Tape", "bytes", "[I", true)
  | _ => ("ZoneCapacity$Tape", "length", "I", false)
def tyX3 : Nat → FieldType := fun k => match k with
  | 0 => .array .int
  | _ => .int
theorem nmX3 : ∀ a, a < 2 → ∀ b, b < 2 → a ≠ b → (TX3 a).2.1 ≠ (TX3 b).2.1 := by decide +kernel
theorem tyX3_ok : ∀ k, k < 2 → parseFieldDescriptor (TX3 k).2.2.1 = some (tyX3 k) := by decide +kernel
abbrev cX3_init : ByteArray := prog_5_method_1_code
def yX3_init : MethodName := ⟨RX3, "<init>", "()V"⟩
def RX4 : String := "ZoneCapacity$Teller"
def TX4 : u_T := fun k => match k with
  | 0 => ("ZoneCapacity$Teller", "tape", "LZoneCapacity$Tape;", true)
  | 1 => ("ZoneCapacity$Teller", "draft", "LZoneCapacity$Market;", true)
  | 2 => ("ZoneCapacity$Teller", "fault", "I", false)
  | 3 => ("ZoneCapacity$Teller", "token", "I", false)
  | 4 => ("ZoneCapacity$Teller", "place", "I", false)
  | 5 => ("ZoneCapacity$Teller", "number", "I", false)
  | 6 => ("ZoneCapacity$Teller", "next", "I", false)
  | _ => ("ZoneCapacity$Teller", "got", "I", false)
def tyX4 : Nat → FieldType := fun k => match k with
  | 0 => .object "ZoneCapacity$Tape"
  | 1 => .object "ZoneCapacity$Market"
  | 2 => .int
  | 3 => .int
  | 4 => .int
  | 5 => .int
  | 6 => .int
  | _ => .int
theorem nmX4 : ∀ a, a < 8 → ∀ b, b < 8 → a ≠ b → (TX4 a).2.1 ≠ (TX4 b).2.1 := by decide +kernel
theorem tyX4_ok : ∀ k, k < 8 → parseFieldDescriptor (TX4 k).2.2.1 = some (tyX4 k) := by decide +kernel
abbrev cX4_init : ByteArray := prog_6_method_1_code
def yX4_init : MethodName := ⟨RX4, "<init>", "()V"⟩
def RX5 : String := "ZoneCapacity$Zones"
def TX5 : u_T := fun k => match k with
  | 0 => ("ZoneCapacity$Zones", "many", "I", false)
  | 1 => ("ZoneCapacity$Zones", "outer", "[I", true)
  | 2 => ("ZoneCapacity$Zones", "in", "[I", true)
  | 3 => ("ZoneCapacity$Zones", "out", "[I", true)
  | 4 => ("ZoneCapacity$Zones", "points", "[I", true)
  | 5 => ("ZoneCapacity$Zones", "pointUnits", "[I", true)
  | _ => ("ZoneCapacity$Zones", "pointPrices", "[I", true)
def tyX5 : Nat → FieldType := fun k => match k with
  | 0 => .int
  | 1 => .array .int
  | 2 => .array .int
  | 3 => .array .int
  | 4 => .array .int
  | 5 => .array .int
  | _ => .array .int
theorem nmX5 : ∀ a, a < 7 → ∀ b, b < 7 → a ≠ b → (TX5 a).2.1 ≠ (TX5 b).2.1 := by decide +kernel
theorem tyX5_ok : ∀ k, k < 7 → parseFieldDescriptor (TX5 k).2.2.1 = some (tyX5 k) := by decide +kernel
abbrev cX5_init : ByteArray := prog_7_method_1_code
def yX5_init : MethodName := ⟨RX5, "<init>", "()V"⟩
abbrev cX5_has : ByteArray := prog_7_method_3_code
def yX5_has : MethodName := ⟨RX5, "has", "(I)Z"⟩
abbrev cX5_hasInner : ByteArray := prog_7_method_4_code
def yX5_hasInner : MethodName := ⟨RX5, "hasInner", "(I)Z"⟩
abbrev cX5_add : ByteArray := prog_7_method_5_code
def yX5_add : MethodName := ⟨RX5, "add", "(III)I"⟩
abbrev cX5_addPoint : ByteArray := prog_7_method_6_code
def yX5_addPoint : MethodName := ⟨RX5, "addPoint", "(III)I"⟩
abbrev cX5_dropPoints : ByteArray := prog_7_method_7_code
def yX5_dropPoints : MethodName := ⟨RX5, "dropPoints", "(I)I"⟩
abbrev cX5_wanted : ByteArray := prog_7_method_8_code
def yX5_wanted : MethodName := ⟨RX5, "wanted", "(I)I"⟩
abbrev cX5_firstPrice : ByteArray := prog_7_method_9_code
def yX5_firstPrice : MethodName := ⟨RX5, "firstPrice", "(I)I"⟩
abbrev cX5_lastPrice : ByteArray := prog_7_method_10_code
def yX5_lastPrice : MethodName := ⟨RX5, "lastPrice", "(I)I"⟩
abbrev cX5_worthOf : ByteArray := prog_7_method_11_code
def yX5_worthOf : MethodName := ⟨RX5, "worthOf", "(II)I"⟩
abbrev cX5_fallen : ByteArray := prog_7_method_12_code
def yX5_fallen : MethodName := ⟨RX5, "fallen", "(III)I"⟩
abbrev cX5_worthOfFirst : ByteArray := prog_7_method_13_code
def yX5_worthOfFirst : MethodName := ⟨RX5, "worthOfFirst", "(II)J"⟩
abbrev cX5_wantedFrom : ByteArray := prog_7_method_14_code
def yX5_wantedFrom : MethodName := ⟨RX5, "wantedFrom", "(II)I"⟩
abbrev cX5_wantedBetween : ByteArray := prog_7_method_15_code
def yX5_wantedBetween : MethodName := ⟨RX5, "wantedBetween", "(IIII)I"⟩
abbrev cX5_cut : ByteArray := prog_7_method_16_code
def yX5_cut : MethodName := ⟨RX5, "cut", "(II)I"⟩
def RX6 : String := "ZoneCapacity"
def TX6 : u_T := fun k => match k with
  | 0 => ("ZoneCapacity", "now", "LZoneCapacity$Auction;", true)
  | 1 => ("ZoneCapacity", "trial", "LZoneCapacity$Auction;", true)
  | 2 => ("ZoneCapacity", "teller", "LZoneCapacity$Teller;", true)
  | 3 => ("ZoneCapacity", "firstKept", "LZoneCapacity$Market;", true)
  | 4 => ("ZoneCapacity", "secondKept", "LZoneCapacity$Market;", true)
  | 5 => ("ZoneCapacity", "firstIsKept", "Z", false)
  | _ => ("ZoneCapacity", "secondIsKept", "Z", false)
def tyX6 : Nat → FieldType := fun k => match k with
  | 0 => .object "ZoneCapacity$Auction"
  | 1 => .object "ZoneCapacity$Auction"
  | 2 => .object "ZoneCapacity$Teller"
  | 3 => .object "ZoneCapacity$Market"
  | 4 => .object "ZoneCapacity$Market"
  | 5 => .boolean
  | _ => .boolean
theorem nmX6 : ∀ a, a < 7 → ∀ b, b < 7 → a ≠ b → (TX6 a).2.1 ≠ (TX6 b).2.1 := by decide +kernel
theorem tyX6_ok : ∀ k, k < 7 → parseFieldDescriptor (TX6 k).2.2.1 = some (tyX6 k) := by decide +kernel
abbrev cX6_init : ByteArray := prog_1_method_1_code
def yX6_init : MethodName := ⟨RX6, "<init>", "()V"⟩
abbrev cX6_zone : ByteArray := prog_1_method_6_code
def yX6_zone : MethodName := ⟨RX6, "zone", "(III)I"⟩
abbrev cX6_point : ByteArray := prog_1_method_7_code
def yX6_point : MethodName := ⟨RX6, "point", "(III)I"⟩
abbrev cX6_resource : ByteArray := prog_1_method_8_code
def yX6_resource : MethodName := ⟨RX6, "resource", "(IIIIZ)I"⟩
abbrev cX6_step : ByteArray := prog_1_method_9_code
def yX6_step : MethodName := ⟨RX6, "step", "(III)I"⟩
abbrev cX6_drop : ByteArray := prog_1_method_10_code
def yX6_drop : MethodName := ⟨RX6, "drop", "(IZ)I"⟩
abbrev cX6_set : ByteArray := prog_1_method_11_code
def yX6_set : MethodName := ⟨RX6, "set", "(III)Z"⟩
abbrev cX6_line : ByteArray := prog_1_method_17_code
def yX6_line : MethodName := ⟨RX6, "line", "(IIZ)I"⟩
abbrev cX6_worth : ByteArray := prog_1_method_18_code
def yX6_worth : MethodName := ⟨RX6, "worth", "(II)I"⟩
abbrev cX6_wants : ByteArray := prog_1_method_19_code
def yX6_wants : MethodName := ⟨RX6, "wants", "(II)I"⟩
abbrev cX6_level : ByteArray := prog_1_method_20_code
def yX6_level : MethodName := ⟨RX6, "level", "(IIZ)I"⟩
abbrev cX6_price : ByteArray := prog_1_method_21_code
def yX6_price : MethodName := ⟨RX6, "price", "(I)I"⟩
abbrev cX6_net : ByteArray := prog_1_method_22_code
def yX6_net : MethodName := ⟨RX6, "net", "(I)I"⟩
abbrev cX6_served : ByteArray := prog_1_method_23_code
def yX6_served : MethodName := ⟨RX6, "served", "(I)I"⟩
abbrev cX6_taken : ByteArray := prog_1_method_24_code
def yX6_taken : MethodName := ⟨RX6, "taken", "(II)I"⟩
abbrev cX6_binds : ByteArray := prog_1_method_25_code
def yX6_binds : MethodName := ⟨RX6, "binds", "(I)I"⟩
abbrev cX6_surplus : ByteArray := prog_1_method_26_code
def yX6_surplus : MethodName := ⟨RX6, "surplus", "()J"⟩
abbrev cX6_rent : ByteArray := prog_1_method_27_code
def yX6_rent : MethodName := ⟨RX6, "rent", "(I)J"⟩
abbrev cX6_paid : ByteArray := prog_1_method_28_code
def yX6_paid : MethodName := ⟨RX6, "paid", "(I)J"⟩
abbrev cX6_charged : ByteArray := prog_1_method_29_code
def yX6_charged : MethodName := ⟨RX6, "charged", "(I)J"⟩
abbrev cX6_at : ByteArray := prog_1_method_39_code
def yX6_at : MethodName := ⟨RX6, "at", "([II)I"⟩
abbrev cX6_put : ByteArray := prog_1_method_40_code
def yX6_put : MethodName := ⟨RX6, "put", "([III)V"⟩
abbrev cX6_change : ByteArray := prog_1_method_41_code
def yX6_change : MethodName := ⟨RX6, "change", "([III)Z"⟩
abbrev cX6_within : ByteArray := prog_1_method_43_code
def yX6_within : MethodName := ⟨RX6, "within", "(III)Z"⟩
def RX7 : String := "ZoneCapacityLaw$Draws"
def TX7 : u_T := fun k => match k with
  | _ => ("ZoneCapacityLaw$Draws", "x", "I", false)
def tyX7 : Nat → FieldType := fun k => match k with
  | _ => .int
theorem nmX7 : ∀ a, a < 1 → ∀ b, b < 1 → a ≠ b → (TX7 a).2.1 ≠ (TX7 b).2.1 := by decide +kernel
theorem tyX7_ok : ∀ k, k < 1 → parseFieldDescriptor (TX7 k).2.2.1 = some (tyX7 k) := by decide +kernel
abbrev cX7_init : ByteArray := prog_9_method_1_code
def yX7_init : MethodName := ⟨RX7, "<init>", "(I)V"⟩
abbrev cX7_next : ByteArray := prog_9_method_2_code
def yX7_next : MethodName := ⟨RX7, "next", "(I)I"⟩
def RX8 : String := "ZoneCapacityLaw$Market"
def TX8 : u_T := fun k => match k with
  | 0 => ("ZoneCapacityLaw$Market", "zones", "Ljava/util/ArrayList;", true)
  | 1 => ("ZoneCapacityLaw$Market", "curves", "Ljava/util/ArrayList;", true)
  | 2 => ("ZoneCapacityLaw$Market", "resources", "Ljava/util/ArrayList;", true)
  | 3 => ("ZoneCapacityLaw$Market", "steps", "Ljava/util/ArrayList;", true)
  | 4 => ("ZoneCapacityLaw$Market", "floors", "[I", true)
  | 5 => ("ZoneCapacityLaw$Market", "ceiling", "I", false)
  | 6 => ("ZoneCapacityLaw$Market", "prices", "[I", false)
  | 7 => ("ZoneCapacityLaw$Market", "nets", "[I", false)
  | 8 => ("ZoneCapacityLaw$Market", "served", "[I", false)
  | _ => ("ZoneCapacityLaw$Market", "taken", "[[I", false)
def tyX8 : Nat → FieldType := fun k => match k with
  | 0 => .object "java/util/ArrayList"
  | 1 => .object "java/util/ArrayList"
  | 2 => .object "java/util/ArrayList"
  | 3 => .object "java/util/ArrayList"
  | 4 => .array .int
  | 5 => .int
  | 6 => .array .int
  | 7 => .array .int
  | 8 => .array .int
  | _ => .array (.array .int)
theorem nmX8 : ∀ a, a < 10 → ∀ b, b < 10 → a ≠ b → (TX8 a).2.1 ≠ (TX8 b).2.1 := by decide +kernel
theorem tyX8_ok : ∀ k, k < 10 → parseFieldDescriptor (TX8 k).2.2.1 = some (tyX8 k) := by decide +kernel
abbrev cX8_init : ByteArray := prog_10_method_1_code
def yX8_init : MethodName := ⟨RX8, "<init>", "()V"⟩
abbrev cX8_worths : ByteArray := prog_10_method_3_code
def yX8_worths : MethodName := ⟨RX8, "worths", "(I)[I"⟩
abbrev cX8_wants : ByteArray := prog_10_method_4_code
def yX8_wants : MethodName := ⟨RX8, "wants", "(II)I"⟩
abbrev cX8_line : ByteArray := prog_10_method_5_code
def yX8_line : MethodName := ⟨RX8, "line", "(II)[I"⟩
abbrev cX8_cut : ByteArray := prog_10_method_6_code
def yX8_cut : MethodName := ⟨RX8, "cut", "(II)I"⟩
abbrev cX8_level : ByteArray := prog_10_method_7_code
def yX8_level : MethodName := ⟨RX8, "level", "(IIZ)I"⟩
abbrev cX8_leastPrice : ByteArray := prog_10_method_8_code
def yX8_leastPrice : MethodName := ⟨RX8, "leastPrice", "(II)I"⟩
abbrev cX8_clear : ByteArray := prog_10_method_9_code
def yX8_clear : MethodName := ⟨RX8, "clear", "()LZoneCapacityLaw$Market;"⟩
abbrev cX8_taken : ByteArray := prog_10_method_10_code
def yX8_taken : MethodName := ⟨RX8, "taken", "(I)I"⟩
abbrev cX8_surplus : ByteArray := prog_10_method_11_code
def yX8_surplus : MethodName := ⟨RX8, "surplus", "()J"⟩
def RX9 : String := "ZoneCapacityModel"
def TX9 : u_T := fun k => match k with
  | _ => ("", "", "", false)
def tyX9 : Nat → FieldType := fun k => match k with
  | _ => .int
theorem nmX9 : ∀ a, a < 0 → ∀ b, b < 0 → a ≠ b → (TX9 a).2.1 ≠ (TX9 b).2.1 := by decide +kernel
theorem tyX9_ok : ∀ k, k < 0 → parseFieldDescriptor (TX9 k).2.2.1 = some (tyX9 k) := by decide +kernel
def RJxa1e45 : String := "java/util/AbstractCollection"
def TJxa1e45 : u_T := fun k => match k with
  | _ => ("", "", "", false)
def tyJxa1e45 : Nat → FieldType := fun k => match k with
  | _ => .int
theorem nmJxa1e45 : ∀ a, a < 0 → ∀ b, b < 0 → a ≠ b → (TJxa1e45 a).2.1 ≠ (TJxa1e45 b).2.1 := by decide +kernel
theorem tyJxa1e45_ok : ∀ k, k < 0 → parseFieldDescriptor (TJxa1e45 k).2.2.1 = some (tyJxa1e45 k) := by decide +kernel
abbrev cJxa1e45_init_da8c8 : ByteArray := prog_31_method_1_code
def yJxa1e45_init_da8c8 : MethodName := ⟨RJxa1e45, "<init>", "()V"⟩
def RJxc12de : String := "java/util/AbstractList"
def TJxc12de : u_T := fun k => match k with
  | _ => ("", "", "", false)
def tyJxc12de : Nat → FieldType := fun k => match k with
  | _ => .int
theorem nmJxc12de : ∀ a, a < 0 → ∀ b, b < 0 → a ≠ b → (TJxc12de a).2.1 ≠ (TJxc12de b).2.1 := by decide +kernel
theorem tyJxc12de_ok : ∀ k, k < 0 → parseFieldDescriptor (TJxc12de k).2.2.1 = some (tyJxc12de k) := by decide +kernel
abbrev cJxc12de_init_da8c8 : ByteArray := prog_32_method_1_code
def yJxc12de_init_da8c8 : MethodName := ⟨RJxc12de, "<init>", "()V"⟩
def RJx35411 : String := "java/util/ArrayList$Itr"
def TJx35411 : u_T := fun k => match k with
  | 0 => ("java/util/ArrayList$Itr", "cursor", "I", false)
  | 1 => ("java/util/ArrayList$Itr", "lastRet", "I", false)
  | 2 => ("java/util/ArrayList$Itr", "expectedModCount", "I", false)
  | _ => ("java/util/ArrayList$Itr", "this$0", "Ljava/util/ArrayList;", true)
def tyJx35411 : Nat → FieldType := fun k => match k with
  | 0 => .int
  | 1 => .int
  | 2 => .int
  | _ => .object "java/util/ArrayList"
theorem nmJx35411 : ∀ a, a < 4 → ∀ b, b < 4 → a ≠ b → (TJx35411 a).2.1 ≠ (TJx35411 b).2.1 := by decide +kernel
theorem tyJx35411_ok : ∀ k, k < 4 → parseFieldDescriptor (TJx35411 k).2.2.1 = some (tyJx35411 k) := by decide +kernel
abbrev cJx35411_init_45d68 : ByteArray := prog_34_method_1_code
def yJx35411_init_45d68 : MethodName := ⟨RJx35411, "<init>", "(Ljava/util/ArrayList;)V"⟩
abbrev cJx35411_hasNext_aae02 : ByteArray := prog_34_method_2_code
def yJx35411_hasNext_aae02 : MethodName := ⟨RJx35411, "hasNext", "()Z"⟩
abbrev cJx35411_next_0502b : ByteArray := prog_34_method_3_code
def yJx35411_next_0502b : MethodName := ⟨RJx35411, "next", "()Ljava/lang/Object;"⟩
abbrev cJx35411_checkForComodification_da8c8 : ByteArray := prog_34_method_6_code
def yJx35411_checkForComodification_da8c8 : MethodName := ⟨RJx35411, "checkForComodification", "()V"⟩
def RJx4a65c : String := "java/util/ArrayList"
def TJx4a65c : u_T := fun k => match k with
  | 0 => ("java/util/AbstractList", "modCount", "I", false)
  | 1 => ("java/util/ArrayList", "elementData", "[Ljava/lang/Object;", false)
  | _ => ("java/util/ArrayList", "size", "I", false)
def tyJx4a65c : Nat → FieldType := fun k => match k with
  | 0 => .int
  | 1 => .array (.object "java/lang/Object")
  | _ => .int
theorem nmJx4a65c : ∀ a, a < 3 → ∀ b, b < 3 → a ≠ b → (TJx4a65c a).2.1 ≠ (TJx4a65c b).2.1 := by decide +kernel
theorem tyJx4a65c_ok : ∀ k, k < 3 → parseFieldDescriptor (TJx4a65c k).2.2.1 = some (tyJx4a65c k) := by decide +kernel
abbrev cJx4a65c_init_da8c8 : ByteArray := prog_33_method_2_code
def yJx4a65c_init_da8c8 : MethodName := ⟨RJx4a65c, "<init>", "()V"⟩
abbrev cJx4a65c_grow_92f84 : ByteArray := prog_33_method_6_code
def yJx4a65c_grow_92f84 : MethodName := ⟨RJx4a65c, "grow", "(I)[Ljava/lang/Object;"⟩
abbrev cJx4a65c_grow_d5877 : ByteArray := prog_33_method_7_code
def yJx4a65c_grow_d5877 : MethodName := ⟨RJx4a65c, "grow", "()[Ljava/lang/Object;"⟩
abbrev cJx4a65c_size_8abf5 : ByteArray := prog_33_method_8_code
def yJx4a65c_size_8abf5 : MethodName := ⟨RJx4a65c, "size", "()I"⟩
abbrev cJx4a65c_isEmpty_aae02 : ByteArray := prog_33_method_9_code
def yJx4a65c_isEmpty_aae02 : MethodName := ⟨RJx4a65c, "isEmpty", "()Z"⟩
abbrev cJx4a65c_elementData_915e3 : ByteArray := prog_33_method_18_code
def yJx4a65c_elementData_915e3 : MethodName := ⟨RJx4a65c, "elementData", "(I)Ljava/lang/Object;"⟩
abbrev cJx4a65c_get_915e3 : ByteArray := prog_33_method_20_code
def yJx4a65c_get_915e3 : MethodName := ⟨RJx4a65c, "get", "(I)Ljava/lang/Object;"⟩
abbrev cJx4a65c_add_72be8 : ByteArray := prog_33_method_24_code
def yJx4a65c_add_72be8 : MethodName := ⟨RJx4a65c, "add", "(Ljava/lang/Object;[Ljava/lang/Object;I)V"⟩
abbrev cJx4a65c_add_9ea2d : ByteArray := prog_33_method_25_code
def yJx4a65c_add_9ea2d : MethodName := ⟨RJx4a65c, "add", "(Ljava/lang/Object;)Z"⟩
abbrev cJx4a65c_clear_da8c8 : ByteArray := prog_33_method_40_code
def yJx4a65c_clear_da8c8 : MethodName := ⟨RJx4a65c, "clear", "()V"⟩
abbrev cJx4a65c_iterator_32c93 : ByteArray := prog_33_method_55_code
def yJx4a65c_iterator_32c93 : MethodName := ⟨RJx4a65c, "iterator", "()Ljava/util/Iterator;"⟩
def RJ15 : String := "java/util/Objects"
def TJ15 : u_T := fun k => match k with
  | _ => ("", "", "", false)
def tyJ15 : Nat → FieldType := fun k => match k with
  | _ => .int
theorem nmJ15 : ∀ a, a < 0 → ∀ b, b < 0 → a ≠ b → (TJ15 a).2.1 ≠ (TJ15 b).2.1 := by decide +kernel
theorem tyJ15_ok : ∀ k, k < 0 → parseFieldDescriptor (TJ15 k).2.2.1 = some (tyJ15 k) := by decide +kernel
abbrev cJ15_checkIndex_7cf53 : ByteArray := prog_40_method_17_code
def yJ15_checkIndex_7cf53 : MethodName := ⟨RJ15, "checkIndex", "(II)I"⟩
def RJ3 : String := "jdk/internal/util/Preconditions"
def TJ3 : u_T := fun k => match k with
  | _ => ("", "", "", false)
def tyJ3 : Nat → FieldType := fun k => match k with
  | _ => .int
theorem nmJ3 : ∀ a, a < 0 → ∀ b, b < 0 → a ≠ b → (TJ3 a).2.1 ≠ (TJ3 b).2.1 := by decide +kernel
theorem tyJ3_ok : ∀ k, k < 0 → parseFieldDescriptor (TJ3 k).2.2.1 = some (tyJ3 k) := by decide +kernel
abbrev cJ3_checkIndex_8e157 : ByteArray := prog_44_method_11_code
def yJ3_checkIndex_8e157 : MethodName := ⟨RJ3, "checkIndex", "(IILjava/util/function/BiFunction;)I"⟩
abbrev cJ3_checkFromToIndex_8c36e : ByteArray := prog_44_method_12_code
def yJ3_checkFromToIndex_8c36e : MethodName := ⟨RJ3, "checkFromToIndex", "(IIILjava/util/function/BiFunction;)I"⟩
abbrev cJ3_checkFromIndexSize_8c36e : ByteArray := prog_44_method_13_code
def yJ3_checkFromIndexSize_8c36e : MethodName := ⟨RJ3, "checkFromIndexSize", "(IIILjava/util/function/BiFunction;)I"⟩
def RL : String := "ZoneCapacityLaw"
abbrev cL_drawn : ByteArray := method_6_code
def yL_drawn : MethodName := ⟨RL, "drawn", "(LZoneCapacity;LZoneCapacityLaw$Draws;Ljava/lang/StringBuilder;)LZoneCapacityLaw$Market;"⟩
abbrev cL_areLevels : ByteArray := method_7_code
def yL_areLevels : MethodName := ⟨RL, "areLevels", "(LZoneCapacity;LZoneCapacityLaw$Market;LZoneCapacityLaw$Draws;)Z"⟩
abbrev cL_isCleared : ByteArray := method_8_code
def yL_isCleared : MethodName := ⟨RL, "isCleared", "(LZoneCapacity;LZoneCapacityLaw$Market;)Z"⟩
abbrev cL_law : ByteArray := code
def yL_law : MethodName := ⟨RL, "law", "([I)Z"⟩

abbrev wslX0 : List Cond := u_ws RX0 TX0 12
abbrev wslX1 : List Cond := u_ws RX1 TX1 2
abbrev wslX2 : List Cond := u_ws RX2 TX2 12
abbrev wslX3 : List Cond := u_ws RX3 TX3 2
abbrev wslX4 : List Cond := u_ws RX4 TX4 8
abbrev wslX5 : List Cond := u_ws RX5 TX5 7
abbrev wslX6 : List Cond := u_ws RX6 TX6 7
abbrev wslX7 : List Cond := u_ws RX7 TX7 1
abbrev wslX8 : List Cond := u_ws RX8 TX8 10
abbrev wslJx4a65c : List Cond := u_ws RJx4a65c TJx4a65c 3
abbrev wslJx35411 : List Cond := u_ws RJx35411 TJx35411 4
def TW : List Cond := lw_tbl.filter goodWord
theorem tw_mem {w : Cond} (h : w ∈ lw_tbl) (g : goodWord w = true) : w ∈ TW := List.mem_filter.mpr ⟨h, g⟩
def tw_chk (ids : List Nat) (ws : List Cond) : Bool := decide (ids.map (fun i => lw_tbl[i]?) = ws.map some) && ws.all goodWord
theorem tw_of {ids : List Nat} {ws : List Cond} (h : tw_chk ids ws = true) : ∀ w ∈ ws, w ∈ TW := by
  intro w hw
  unfold tw_chk at h
  rw [Bool.and_eq_true, decide_eq_true_eq] at h
  refine tw_mem ?_ (List.all_eq_true.mp h.2 w hw)
  have : some w ∈ ws.map some := List.mem_map.mpr ⟨w, hw, rfl⟩
  rw [← h.1] at this
  obtain ⟨i, -, hi⟩ := List.mem_map.mp this
  exact List.mem_of_getElem? hi
theorem tw_good {y : MethodName} {bytes : ByteArray} {maxL : Nat} {ret : Option FieldType} (h : Cond.code y bytes maxL ret ∈ TW) : GoodIn TW (Cond.code y bytes maxL ret :: TW) := by
  intro w hw
  have hw : w ∈ TW := by
    rcases List.mem_cons.mp hw with e | e
    · rw [e]; exact h
    · exact e
  exact ⟨hw, good_of_word (List.mem_filter.mp hw).2⟩
theorem iwX0 : ∀ w ∈ wslX0, w ∈ TW := tw_of (ids := [177, 179, 181, 183, 185, 187, 189, 191, 193, 195, 197, 199]) (by decide +kernel)
theorem iwX1 : ∀ w ∈ wslX1, w ∈ TW := tw_of (ids := [155, 157]) (by decide +kernel)
theorem iwX2 : ∀ w ∈ wslX2, w ∈ TW := tw_of (ids := [124, 126, 128, 130, 132, 134, 136, 138, 140, 142, 144, 146]) (by decide +kernel)
theorem iwX3 : ∀ w ∈ wslX3, w ∈ TW := tw_of (ids := [215, 217]) (by decide +kernel)
theorem iwX4 : ∀ w ∈ wslX4, w ∈ TW := tw_of (ids := [224, 226, 228, 230, 232, 234, 236, 238]) (by decide +kernel)
theorem iwX5 : ∀ w ∈ wslX5, w ∈ TW := tw_of (ids := [83, 85, 87, 89, 91, 93, 95]) (by decide +kernel)
theorem iwX6 : ∀ w ∈ wslX6, w ∈ TW := tw_of (ids := [248, 250, 252, 254, 256, 258, 260]) (by decide +kernel)
theorem iwX7 : ∀ w ∈ wslX7, w ∈ TW := tw_of (ids := [444]) (by decide +kernel)
theorem iwX8 : ∀ w ∈ wslX8, w ∈ TW := tw_of (ids := [562, 564, 566, 568, 570, 572, 574, 576, 578, 580]) (by decide +kernel)
theorem iwJx4a65c : ∀ w ∈ wslJx4a65c, w ∈ TW := tw_of (ids := [484, 480, 482]) (by decide +kernel)
theorem iwJx35411 : ∀ w ∈ wslJx35411, w ∈ TW := tw_of (ids := [873, 875, 877, 879]) (by decide +kernel)
