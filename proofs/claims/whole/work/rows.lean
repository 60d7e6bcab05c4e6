section
-- ===== PART A: goes FIRST, ahead of the names: the tables' words, and 'selects' of the private methods out of them =====
/-- a private method of a class that the tables say can be made, by its rows of tables_1 -/
def lw_okq (q : MethodName × Nat) : Prop := (q.1.cls ≠ "java/lang/invoke/MethodHandle" ∧ q.1.cls ≠ "java/lang/invoke/VarHandle") ∧ Cond.instantiable q.1.cls q.2 ∈ tables_1 ∧ Cond.privateMethod q.1 ∈ tables_1 ∧ Cond.instanceMethod q.1 ∈ tables_1
theorem lw_p0 : lw_okq (⟨"ZoneCapacity$Teller", "advance", "()V"⟩, 8) := ⟨⟨by decide +kernel, by decide +kernel⟩, List.mem_of_getElem? (i := 197) (by decide +kernel), List.mem_of_getElem? (i := 313) (by decide +kernel), List.mem_of_getElem? (i := 314) (by decide +kernel)⟩
theorem lw_p1 : lw_okq (⟨"ZoneCapacity$Teller", "tellStatement", "()Z"⟩, 8) := ⟨⟨by decide +kernel, by decide +kernel⟩, List.mem_of_getElem? (i := 197) (by decide +kernel), List.mem_of_getElem? (i := 329) (by decide +kernel), List.mem_of_getElem? (i := 330) (by decide +kernel)⟩
theorem lw_p2 : lw_okq (⟨"ZoneCapacity$Teller", "isWord", "(Ljava/lang/String;)Z"⟩, 8) := ⟨⟨by decide +kernel, by decide +kernel⟩, List.mem_of_getElem? (i := 197) (by decide +kernel), List.mem_of_getElem? (i := 334) (by decide +kernel), List.mem_of_getElem? (i := 335) (by decide +kernel)⟩
theorem lw_p3 : lw_okq (⟨"ZoneCapacity$Teller", "tellZone", "()Z"⟩, 8) := ⟨⟨by decide +kernel, by decide +kernel⟩, List.mem_of_getElem? (i := 197) (by decide +kernel), List.mem_of_getElem? (i := 386) (by decide +kernel), List.mem_of_getElem? (i := 387) (by decide +kernel)⟩
theorem lw_p4 : lw_okq (⟨"ZoneCapacity$Teller", "blame", "(II)Z"⟩, 8) := ⟨⟨by decide +kernel, by decide +kernel⟩, List.mem_of_getElem? (i := 197) (by decide +kernel), List.mem_of_getElem? (i := 390) (by decide +kernel), List.mem_of_getElem? (i := 391) (by decide +kernel)⟩
theorem lw_p5 : lw_okq (⟨"ZoneCapacity$Teller", "takeNumber", "(II)Z"⟩, 8) := ⟨⟨by decide +kernel, by decide +kernel⟩, List.mem_of_getElem? (i := 197) (by decide +kernel), List.mem_of_getElem? (i := 394) (by decide +kernel), List.mem_of_getElem? (i := 395) (by decide +kernel)⟩
theorem lw_p6 : lw_okq (⟨"ZoneCapacity$Teller", "takeEnd", "()Z"⟩, 8) := ⟨⟨by decide +kernel, by decide +kernel⟩, List.mem_of_getElem? (i := 197) (by decide +kernel), List.mem_of_getElem? (i := 403) (by decide +kernel), List.mem_of_getElem? (i := 404) (by decide +kernel)⟩
theorem lw_p7 : lw_okq (⟨"ZoneCapacity$Teller", "tellCurve", "()Z"⟩, 8) := ⟨⟨by decide +kernel, by decide +kernel⟩, List.mem_of_getElem? (i := 197) (by decide +kernel), List.mem_of_getElem? (i := 408) (by decide +kernel), List.mem_of_getElem? (i := 409) (by decide +kernel)⟩
theorem lw_p8 : lw_okq (⟨"ZoneCapacity$Teller", "tellResource", "()Z"⟩, 8) := ⟨⟨by decide +kernel, by decide +kernel⟩, List.mem_of_getElem? (i := 197) (by decide +kernel), List.mem_of_getElem? (i := 430) (by decide +kernel), List.mem_of_getElem? (i := 431) (by decide +kernel)⟩
theorem lw_p9 : lw_okq (⟨"ZoneCapacity$Teller", "takeWord", "(Ljava/lang/String;)Z"⟩, 8) := ⟨⟨by decide +kernel, by decide +kernel⟩, List.mem_of_getElem? (i := 197) (by decide +kernel), List.mem_of_getElem? (i := 435) (by decide +kernel), List.mem_of_getElem? (i := 436) (by decide +kernel)⟩
theorem lw_p10 : lw_okq (⟨"ZoneCapacity$Teller", "tellOffer", "()Z"⟩, 8) := ⟨⟨by decide +kernel, by decide +kernel⟩, List.mem_of_getElem? (i := 197) (by decide +kernel), List.mem_of_getElem? (i := 446) (by decide +kernel), List.mem_of_getElem? (i := 447) (by decide +kernel)⟩
theorem lw_p11 : lw_okq (⟨"ZoneCapacity$Teller", "tellFloor", "()Z"⟩, 8) := ⟨⟨by decide +kernel, by decide +kernel⟩, List.mem_of_getElem? (i := 197) (by decide +kernel), List.mem_of_getElem? (i := 468) (by decide +kernel), List.mem_of_getElem? (i := 469) (by decide +kernel)⟩
theorem lw_p12 : lw_okq (⟨"ZoneCapacity$Teller", "tellCeiling", "()Z"⟩, 8) := ⟨⟨by decide +kernel, by decide +kernel⟩, List.mem_of_getElem? (i := 197) (by decide +kernel), List.mem_of_getElem? (i := 474) (by decide +kernel), List.mem_of_getElem? (i := 475) (by decide +kernel)⟩
theorem lw_p13 : lw_okq (⟨"ZoneCapacity$Teller", "tellLimits", "()Z"⟩, 8) := ⟨⟨by decide +kernel, by decide +kernel⟩, List.mem_of_getElem? (i := 197) (by decide +kernel), List.mem_of_getElem? (i := 479) (by decide +kernel), List.mem_of_getElem? (i := 480) (by decide +kernel)⟩
theorem lw_p14 : lw_okq (⟨"ZoneCapacity$Auction", "readLines", "()V"⟩, 12) := ⟨⟨by decide +kernel, by decide +kernel⟩, List.mem_of_getElem? (i := 27) (by decide +kernel), List.mem_of_getElem? (i := 613) (by decide +kernel), List.mem_of_getElem? (i := 614) (by decide +kernel)⟩
theorem lw_p15 : lw_okq (⟨"ZoneCapacity$Auction", "fillLevels", "(II[I)V"⟩, 12) := ⟨⟨by decide +kernel, by decide +kernel⟩, List.mem_of_getElem? (i := 27) (by decide +kernel), List.mem_of_getElem? (i := 620) (by decide +kernel), List.mem_of_getElem? (i := 621) (by decide +kernel)⟩
def lw_privs_1 : List (MethodName × Nat) := [(⟨"ZoneCapacity$Teller", "advance", "()V"⟩, 8), (⟨"ZoneCapacity$Teller", "tellStatement", "()Z"⟩, 8), (⟨"ZoneCapacity$Teller", "isWord", "(Ljava/lang/String;)Z"⟩, 8), (⟨"ZoneCapacity$Teller", "tellZone", "()Z"⟩, 8), (⟨"ZoneCapacity$Teller", "blame", "(II)Z"⟩, 8), (⟨"ZoneCapacity$Teller", "takeNumber", "(II)Z"⟩, 8), (⟨"ZoneCapacity$Teller", "takeEnd", "()Z"⟩, 8), (⟨"ZoneCapacity$Teller", "tellCurve", "()Z"⟩, 8), (⟨"ZoneCapacity$Teller", "tellResource", "()Z"⟩, 8), (⟨"ZoneCapacity$Teller", "takeWord", "(Ljava/lang/String;)Z"⟩, 8), (⟨"ZoneCapacity$Teller", "tellOffer", "()Z"⟩, 8), (⟨"ZoneCapacity$Teller", "tellFloor", "()Z"⟩, 8), (⟨"ZoneCapacity$Teller", "tellCeiling", "()Z"⟩, 8), (⟨"ZoneCapacity$Teller", "tellLimits", "()Z"⟩, 8), (⟨"ZoneCapacity$Auction", "readLines", "()V"⟩, 12), (⟨"ZoneCapacity$Auction", "fillLevels", "(II[I)V"⟩, 12)]
theorem lw_r1 : ∀ q ∈ lw_privs_1, lw_okq q := List.forall_mem_cons.mpr ⟨lw_p0, List.forall_mem_cons.mpr ⟨lw_p1, List.forall_mem_cons.mpr ⟨lw_p2, List.forall_mem_cons.mpr ⟨lw_p3, List.forall_mem_cons.mpr ⟨lw_p4, List.forall_mem_cons.mpr ⟨lw_p5, List.forall_mem_cons.mpr ⟨lw_p6, List.forall_mem_cons.mpr ⟨lw_p7, List.forall_mem_cons.mpr ⟨lw_p8, List.forall_mem_cons.mpr ⟨lw_p9, List.forall_mem_cons.mpr ⟨lw_p10, List.forall_mem_cons.mpr ⟨lw_p11, List.forall_mem_cons.mpr ⟨lw_p12, List.forall_mem_cons.mpr ⟨lw_p13, List.forall_mem_cons.mpr ⟨lw_p14, List.forall_mem_cons.mpr ⟨lw_p15, fun _ h => absurd h List.not_mem_nil⟩⟩⟩⟩⟩⟩⟩⟩⟩⟩⟩⟩⟩⟩⟩⟩
theorem lw_p16 : lw_okq (⟨"ZoneCapacity$Auction", "unitsBelow", "(II)I"⟩, 12) := ⟨⟨by decide +kernel, by decide +kernel⟩, List.mem_of_getElem? (i := 27) (by decide +kernel), List.mem_of_getElem? (i := 626) (by decide +kernel), List.mem_of_getElem? (i := 627) (by decide +kernel)⟩
theorem lw_p17 : lw_okq (⟨"ZoneCapacity$Auction", "readTop", "()V"⟩, 12) := ⟨⟨by decide +kernel, by decide +kernel⟩, List.mem_of_getElem? (i := 27) (by decide +kernel), List.mem_of_getElem? (i := 644) (by decide +kernel), List.mem_of_getElem? (i := 645) (by decide +kernel)⟩
theorem lw_p18 : lw_okq (⟨"ZoneCapacity$Auction", "leastPrice", "(II)I"⟩, 12) := ⟨⟨by decide +kernel, by decide +kernel⟩, List.mem_of_getElem? (i := 27) (by decide +kernel), List.mem_of_getElem? (i := 653) (by decide +kernel), List.mem_of_getElem? (i := 654) (by decide +kernel)⟩
theorem lw_p19 : lw_okq (⟨"ZoneCapacity$Auction", "part", "(I)V"⟩, 12) := ⟨⟨by decide +kernel, by decide +kernel⟩, List.mem_of_getElem? (i := 27) (by decide +kernel), List.mem_of_getElem? (i := 657) (by decide +kernel), List.mem_of_getElem? (i := 658) (by decide +kernel)⟩
theorem lw_p20 : lw_okq (⟨"ZoneCapacity$Auction", "partToLines", "(III)I"⟩, 12) := ⟨⟨by decide +kernel, by decide +kernel⟩, List.mem_of_getElem? (i := 27) (by decide +kernel), List.mem_of_getElem? (i := 661) (by decide +kernel), List.mem_of_getElem? (i := 662) (by decide +kernel)⟩
theorem lw_p21 : lw_okq (⟨"ZoneCapacity$Auction", "partToInner", "(III)I"⟩, 12) := ⟨⟨by decide +kernel, by decide +kernel⟩, List.mem_of_getElem? (i := 27) (by decide +kernel), List.mem_of_getElem? (i := 666) (by decide +kernel), List.mem_of_getElem? (i := 667) (by decide +kernel)⟩
theorem lw_p22 : lw_okq (⟨"ZoneCapacity", "isNarrow", "(II)Z"⟩, 7) := ⟨⟨by decide +kernel, by decide +kernel⟩, List.mem_of_getElem? (i := 19) (by decide +kernel), List.mem_of_getElem? (i := 759) (by decide +kernel), List.mem_of_getElem? (i := 760) (by decide +kernel)⟩
theorem lw_p23 : lw_okq (⟨"ZoneCapacity", "gainAt", "(III)J"⟩, 7) := ⟨⟨by decide +kernel, by decide +kernel⟩, List.mem_of_getElem? (i := 19) (by decide +kernel), List.mem_of_getElem? (i := 775) (by decide +kernel), List.mem_of_getElem? (i := 776) (by decide +kernel)⟩
theorem lw_p24 : lw_okq (⟨"java/lang/Throwable", "fillInStackTrace", "(I)Ljava/lang/Throwable;"⟩, 6) := ⟨⟨by decide +kernel, by decide +kernel⟩, List.mem_of_getElem? (i := 827) (by decide +kernel), List.mem_of_getElem? (i := 825) (by decide +kernel), List.mem_of_getElem? (i := 826) (by decide +kernel)⟩
theorem lw_p25 : lw_okq (⟨"ZoneCapacityModel", "isZone", "(I)Z"⟩, 23) := ⟨⟨by decide +kernel, by decide +kernel⟩, List.mem_of_getElem? (i := 863) (by decide +kernel), List.mem_of_getElem? (i := 948) (by decide +kernel), List.mem_of_getElem? (i := 949) (by decide +kernel)⟩
theorem lw_p26 : lw_okq (⟨"ZoneCapacityModel", "ofZone", "(II)I"⟩, 23) := ⟨⟨by decide +kernel, by decide +kernel⟩, List.mem_of_getElem? (i := 863) (by decide +kernel), List.mem_of_getElem? (i := 962) (by decide +kernel), List.mem_of_getElem? (i := 963) (by decide +kernel)⟩
theorem lw_p27 : lw_okq (⟨"ZoneCapacityModel", "canPoint", "(III)Z"⟩, 23) := ⟨⟨by decide +kernel, by decide +kernel⟩, List.mem_of_getElem? (i := 863) (by decide +kernel), List.mem_of_getElem? (i := 966) (by decide +kernel), List.mem_of_getElem? (i := 967) (by decide +kernel)⟩
theorem lw_p28 : lw_okq (⟨"ZoneCapacityModel", "pointUnits", "(II)I"⟩, 23) := ⟨⟨by decide +kernel, by decide +kernel⟩, List.mem_of_getElem? (i := 863) (by decide +kernel), List.mem_of_getElem? (i := 970) (by decide +kernel), List.mem_of_getElem? (i := 971) (by decide +kernel)⟩
theorem lw_p29 : lw_okq (⟨"ZoneCapacityModel", "pointPrice", "(II)I"⟩, 23) := ⟨⟨by decide +kernel, by decide +kernel⟩, List.mem_of_getElem? (i := 863) (by decide +kernel), List.mem_of_getElem? (i := 974) (by decide +kernel), List.mem_of_getElem? (i := 975) (by decide +kernel)⟩
theorem lw_p30 : lw_okq (⟨"ZoneCapacityModel", "addPoint", "(III)V"⟩, 23) := ⟨⟨by decide +kernel, by decide +kernel⟩, List.mem_of_getElem? (i := 863) (by decide +kernel), List.mem_of_getElem? (i := 978) (by decide +kernel), List.mem_of_getElem? (i := 979) (by decide +kernel)⟩
theorem lw_p31 : lw_okq (⟨"ZoneCapacityModel", "addResource", "(IIIIII)I"⟩, 23) := ⟨⟨by decide +kernel, by decide +kernel⟩, List.mem_of_getElem? (i := 863) (by decide +kernel), List.mem_of_getElem? (i := 986) (by decide +kernel), List.mem_of_getElem? (i := 987) (by decide +kernel)⟩
def lw_privs_2 : List (MethodName × Nat) := [(⟨"ZoneCapacity$Auction", "unitsBelow", "(II)I"⟩, 12), (⟨"ZoneCapacity$Auction", "readTop", "()V"⟩, 12), (⟨"ZoneCapacity$Auction", "leastPrice", "(II)I"⟩, 12), (⟨"ZoneCapacity$Auction", "part", "(I)V"⟩, 12), (⟨"ZoneCapacity$Auction", "partToLines", "(III)I"⟩, 12), (⟨"ZoneCapacity$Auction", "partToInner", "(III)I"⟩, 12), (⟨"ZoneCapacity", "isNarrow", "(II)Z"⟩, 7), (⟨"ZoneCapacity", "gainAt", "(III)J"⟩, 7), (⟨"java/lang/Throwable", "fillInStackTrace", "(I)Ljava/lang/Throwable;"⟩, 6), (⟨"ZoneCapacityModel", "isZone", "(I)Z"⟩, 23), (⟨"ZoneCapacityModel", "ofZone", "(II)I"⟩, 23), (⟨"ZoneCapacityModel", "canPoint", "(III)Z"⟩, 23), (⟨"ZoneCapacityModel", "pointUnits", "(II)I"⟩, 23), (⟨"ZoneCapacityModel", "pointPrice", "(II)I"⟩, 23), (⟨"ZoneCapacityModel", "addPoint", "(III)V"⟩, 23), (⟨"ZoneCapacityModel", "addResource", "(IIIIII)I"⟩, 23)]
theorem lw_r2 : ∀ q ∈ lw_privs_2, lw_okq q := List.forall_mem_cons.mpr ⟨lw_p16, List.forall_mem_cons.mpr ⟨lw_p17, List.forall_mem_cons.mpr ⟨lw_p18, List.forall_mem_cons.mpr ⟨lw_p19, List.forall_mem_cons.mpr ⟨lw_p20, List.forall_mem_cons.mpr ⟨lw_p21, List.forall_mem_cons.mpr ⟨lw_p22, List.forall_mem_cons.mpr ⟨lw_p23, List.forall_mem_cons.mpr ⟨lw_p24, List.forall_mem_cons.mpr ⟨lw_p25, List.forall_mem_cons.mpr ⟨lw_p26, List.forall_mem_cons.mpr ⟨lw_p27, List.forall_mem_cons.mpr ⟨lw_p28, List.forall_mem_cons.mpr ⟨lw_p29, List.forall_mem_cons.mpr ⟨lw_p30, List.forall_mem_cons.mpr ⟨lw_p31, fun _ h => absurd h List.not_mem_nil⟩⟩⟩⟩⟩⟩⟩⟩⟩⟩⟩⟩⟩⟩⟩⟩
theorem lw_p32 : lw_okq (⟨"ZoneCapacityModel", "isResource", "(I)Z"⟩, 23) := ⟨⟨by decide +kernel, by decide +kernel⟩, List.mem_of_getElem? (i := 863) (by decide +kernel), List.mem_of_getElem? (i := 994) (by decide +kernel), List.mem_of_getElem? (i := 995) (by decide +kernel)⟩
theorem lw_p33 : lw_okq (⟨"ZoneCapacityModel", "ofResource", "(II)I"⟩, 23) := ⟨⟨by decide +kernel, by decide +kernel⟩, List.mem_of_getElem? (i := 863) (by decide +kernel), List.mem_of_getElem? (i := 998) (by decide +kernel), List.mem_of_getElem? (i := 999) (by decide +kernel)⟩
theorem lw_p34 : lw_okq (⟨"ZoneCapacityModel", "stepped", "(I)I"⟩, 23) := ⟨⟨by decide +kernel, by decide +kernel⟩, List.mem_of_getElem? (i := 863) (by decide +kernel), List.mem_of_getElem? (i := 1002) (by decide +kernel), List.mem_of_getElem? (i := 1003) (by decide +kernel)⟩
theorem lw_p35 : lw_okq (⟨"ZoneCapacityModel", "lineUnits", "(II)I"⟩, 23) := ⟨⟨by decide +kernel, by decide +kernel⟩, List.mem_of_getElem? (i := 863) (by decide +kernel), List.mem_of_getElem? (i := 1006) (by decide +kernel), List.mem_of_getElem? (i := 1007) (by decide +kernel)⟩
theorem lw_p36 : lw_okq (⟨"ZoneCapacityModel", "addStep", "(III)V"⟩, 23) := ⟨⟨by decide +kernel, by decide +kernel⟩, List.mem_of_getElem? (i := 863) (by decide +kernel), List.mem_of_getElem? (i := 1010) (by decide +kernel), List.mem_of_getElem? (i := 1011) (by decide +kernel)⟩
theorem lw_p37 : lw_okq (⟨"ZoneCapacityModel", "placeOf", "(III)I"⟩, 23) := ⟨⟨by decide +kernel, by decide +kernel⟩, List.mem_of_getElem? (i := 863) (by decide +kernel), List.mem_of_getElem? (i := 1022) (by decide +kernel), List.mem_of_getElem? (i := 1023) (by decide +kernel)⟩
theorem lw_p38 : lw_okq (⟨"ZoneCapacityModel", "wanted", "(I)I"⟩, 23) := ⟨⟨by decide +kernel, by decide +kernel⟩, List.mem_of_getElem? (i := 863) (by decide +kernel), List.mem_of_getElem? (i := 1042) (by decide +kernel), List.mem_of_getElem? (i := 1043) (by decide +kernel)⟩
theorem lw_p39 : lw_okq (⟨"ZoneCapacityModel", "isLine", "(II)Z"⟩, 23) := ⟨⟨by decide +kernel, by decide +kernel⟩, List.mem_of_getElem? (i := 863) (by decide +kernel), List.mem_of_getElem? (i := 1054) (by decide +kernel), List.mem_of_getElem? (i := 1055) (by decide +kernel)⟩
theorem lw_p40 : lw_okq (⟨"ZoneCapacityModel", "lineIts", "(II)I"⟩, 23) := ⟨⟨by decide +kernel, by decide +kernel⟩, List.mem_of_getElem? (i := 863) (by decide +kernel), List.mem_of_getElem? (i := 1058) (by decide +kernel), List.mem_of_getElem? (i := 1059) (by decide +kernel)⟩
theorem lw_p41 : lw_okq (⟨"ZoneCapacityModel", "worthOf", "(II)I"⟩, 23) := ⟨⟨by decide +kernel, by decide +kernel⟩, List.mem_of_getElem? (i := 863) (by decide +kernel), List.mem_of_getElem? (i := 1066) (by decide +kernel), List.mem_of_getElem? (i := 1067) (by decide +kernel)⟩
theorem lw_p42 : lw_okq (⟨"ZoneCapacityModel", "wantedAt", "(II)I"⟩, 23) := ⟨⟨by decide +kernel, by decide +kernel⟩, List.mem_of_getElem? (i := 863) (by decide +kernel), List.mem_of_getElem? (i := 1074) (by decide +kernel), List.mem_of_getElem? (i := 1075) (by decide +kernel)⟩
theorem lw_p43 : lw_okq (⟨"ZoneCapacityModel", "laysLevels", "(II)V"⟩, 23) := ⟨⟨by decide +kernel, by decide +kernel⟩, List.mem_of_getElem? (i := 863) (by decide +kernel), List.mem_of_getElem? (i := 1083) (by decide +kernel), List.mem_of_getElem? (i := 1084) (by decide +kernel)⟩
theorem lw_p44 : lw_okq (⟨"ZoneCapacityModel", "offered", "(IIZ)I"⟩, 23) := ⟨⟨by decide +kernel, by decide +kernel⟩, List.mem_of_getElem? (i := 863) (by decide +kernel), List.mem_of_getElem? (i := 1087) (by decide +kernel), List.mem_of_getElem? (i := 1088) (by decide +kernel)⟩
theorem lw_p45 : lw_okq (⟨"ZoneCapacityModel", "cut", "(II)I"⟩, 23) := ⟨⟨by decide +kernel, by decide +kernel⟩, List.mem_of_getElem? (i := 863) (by decide +kernel), List.mem_of_getElem? (i := 1091) (by decide +kernel), List.mem_of_getElem? (i := 1092) (by decide +kernel)⟩
theorem lw_p46 : lw_okq (⟨"ZoneCapacityModel", "clearsAll", "()V"⟩, 23) := ⟨⟨by decide +kernel, by decide +kernel⟩, List.mem_of_getElem? (i := 863) (by decide +kernel), List.mem_of_getElem? (i := 1099) (by decide +kernel), List.mem_of_getElem? (i := 1100) (by decide +kernel)⟩
theorem lw_p47 : lw_okq (⟨"ZoneCapacityModel", "clears", "()V"⟩, 23) := ⟨⟨by decide +kernel, by decide +kernel⟩, List.mem_of_getElem? (i := 863) (by decide +kernel), List.mem_of_getElem? (i := 1103) (by decide +kernel), List.mem_of_getElem? (i := 1104) (by decide +kernel)⟩
def lw_privs_3 : List (MethodName × Nat) := [(⟨"ZoneCapacityModel", "isResource", "(I)Z"⟩, 23), (⟨"ZoneCapacityModel", "ofResource", "(II)I"⟩, 23), (⟨"ZoneCapacityModel", "stepped", "(I)I"⟩, 23), (⟨"ZoneCapacityModel", "lineUnits", "(II)I"⟩, 23), (⟨"ZoneCapacityModel", "addStep", "(III)V"⟩, 23), (⟨"ZoneCapacityModel", "placeOf", "(III)I"⟩, 23), (⟨"ZoneCapacityModel", "wanted", "(I)I"⟩, 23), (⟨"ZoneCapacityModel", "isLine", "(II)Z"⟩, 23), (⟨"ZoneCapacityModel", "lineIts", "(II)I"⟩, 23), (⟨"ZoneCapacityModel", "worthOf", "(II)I"⟩, 23), (⟨"ZoneCapacityModel", "wantedAt", "(II)I"⟩, 23), (⟨"ZoneCapacityModel", "laysLevels", "(II)V"⟩, 23), (⟨"ZoneCapacityModel", "offered", "(IIZ)I"⟩, 23), (⟨"ZoneCapacityModel", "cut", "(II)I"⟩, 23), (⟨"ZoneCapacityModel", "clearsAll", "()V"⟩, 23), (⟨"ZoneCapacityModel", "clears", "()V"⟩, 23)]
theorem lw_r3 : ∀ q ∈ lw_privs_3, lw_okq q := List.forall_mem_cons.mpr ⟨lw_p32, List.forall_mem_cons.mpr ⟨lw_p33, List.forall_mem_cons.mpr ⟨lw_p34, List.forall_mem_cons.mpr ⟨lw_p35, List.forall_mem_cons.mpr ⟨lw_p36, List.forall_mem_cons.mpr ⟨lw_p37, List.forall_mem_cons.mpr ⟨lw_p38, List.forall_mem_cons.mpr ⟨lw_p39, List.forall_mem_cons.mpr ⟨lw_p40, List.forall_mem_cons.mpr ⟨lw_p41, List.forall_mem_cons.mpr ⟨lw_p42, List.forall_mem_cons.mpr ⟨lw_p43, List.forall_mem_cons.mpr ⟨lw_p44, List.forall_mem_cons.mpr ⟨lw_p45, List.forall_mem_cons.mpr ⟨lw_p46, List.forall_mem_cons.mpr ⟨lw_p47, fun _ h => absurd h List.not_mem_nil⟩⟩⟩⟩⟩⟩⟩⟩⟩⟩⟩⟩⟩⟩⟩⟩
theorem lw_p48 : lw_okq (⟨"ZoneCapacityModel", "priceOf", "(I)I"⟩, 23) := ⟨⟨by decide +kernel, by decide +kernel⟩, List.mem_of_getElem? (i := 863) (by decide +kernel), List.mem_of_getElem? (i := 1107) (by decide +kernel), List.mem_of_getElem? (i := 1108) (by decide +kernel)⟩
theorem lw_p49 : lw_okq (⟨"ZoneCapacityModel", "leastPrice", "(II)I"⟩, 23) := ⟨⟨by decide +kernel, by decide +kernel⟩, List.mem_of_getElem? (i := 863) (by decide +kernel), List.mem_of_getElem? (i := 1111) (by decide +kernel), List.mem_of_getElem? (i := 1112) (by decide +kernel)⟩
theorem lw_p50 : lw_okq (⟨"ZoneCapacityModel", "takesOwn", "(II)I"⟩, 23) := ⟨⟨by decide +kernel, by decide +kernel⟩, List.mem_of_getElem? (i := 863) (by decide +kernel), List.mem_of_getElem? (i := 1115) (by decide +kernel), List.mem_of_getElem? (i := 1116) (by decide +kernel)⟩
theorem lw_p51 : lw_okq (⟨"ZoneCapacityModel", "takenOf", "(I)I"⟩, 23) := ⟨⟨by decide +kernel, by decide +kernel⟩, List.mem_of_getElem? (i := 863) (by decide +kernel), List.mem_of_getElem? (i := 1131) (by decide +kernel), List.mem_of_getElem? (i := 1132) (by decide +kernel)⟩
theorem lw_p52 : lw_okq (⟨"ZoneCapacityModel", "surplusNow", "()J"⟩, 23) := ⟨⟨by decide +kernel, by decide +kernel⟩, List.mem_of_getElem? (i := 863) (by decide +kernel), List.mem_of_getElem? (i := 1143) (by decide +kernel), List.mem_of_getElem? (i := 1144) (by decide +kernel)⟩
theorem lw_p53 : lw_okq (⟨"ZoneCapacityModel", "paidTo", "(I)J"⟩, 23) := ⟨⟨by decide +kernel, by decide +kernel⟩, List.mem_of_getElem? (i := 863) (by decide +kernel), List.mem_of_getElem? (i := 1156) (by decide +kernel), List.mem_of_getElem? (i := 1157) (by decide +kernel)⟩
theorem lw_p54 : lw_okq (⟨"ZoneCapacityModel", "gainOf", "(III)J"⟩, 23) := ⟨⟨by decide +kernel, by decide +kernel⟩, List.mem_of_getElem? (i := 863) (by decide +kernel), List.mem_of_getElem? (i := 1188) (by decide +kernel), List.mem_of_getElem? (i := 1189) (by decide +kernel)⟩
theorem lw_p55 : lw_okq (⟨"ZoneCapacityModel", "offersAll", "(IZ)V"⟩, 23) := ⟨⟨by decide +kernel, by decide +kernel⟩, List.mem_of_getElem? (i := 863) (by decide +kernel), List.mem_of_getElem? (i := 1192) (by decide +kernel), List.mem_of_getElem? (i := 1193) (by decide +kernel)⟩
theorem lw_p56 : lw_okq (⟨"ZoneCapacityModel", "four", "(I)V"⟩, 23) := ⟨⟨by decide +kernel, by decide +kernel⟩, List.mem_of_getElem? (i := 863) (by decide +kernel), List.mem_of_getElem? (i := 1204) (by decide +kernel), List.mem_of_getElem? (i := 1205) (by decide +kernel)⟩
theorem lw_p57 : lw_okq (⟨"ZoneCapacityModel", "here", "()I"⟩, 23) := ⟨⟨by decide +kernel, by decide +kernel⟩, List.mem_of_getElem? (i := 863) (by decide +kernel), List.mem_of_getElem? (i := 1216) (by decide +kernel), List.mem_of_getElem? (i := 1217) (by decide +kernel)⟩
theorem lw_p58 : lw_okq (⟨"ZoneCapacityModel", "readStatement", "()Z"⟩, 23) := ⟨⟨by decide +kernel, by decide +kernel⟩, List.mem_of_getElem? (i := 863) (by decide +kernel), List.mem_of_getElem? (i := 1220) (by decide +kernel), List.mem_of_getElem? (i := 1221) (by decide +kernel)⟩
theorem lw_p59 : lw_okq (⟨"ZoneCapacityModel", "isWord", "()Z"⟩, 23) := ⟨⟨by decide +kernel, by decide +kernel⟩, List.mem_of_getElem? (i := 863) (by decide +kernel), List.mem_of_getElem? (i := 1224) (by decide +kernel), List.mem_of_getElem? (i := 1225) (by decide +kernel)⟩
theorem lw_p60 : lw_okq (⟨"ZoneCapacityModel", "fails", "(II)Z"⟩, 23) := ⟨⟨by decide +kernel, by decide +kernel⟩, List.mem_of_getElem? (i := 863) (by decide +kernel), List.mem_of_getElem? (i := 1228) (by decide +kernel), List.mem_of_getElem? (i := 1229) (by decide +kernel)⟩
theorem lw_p61 : lw_okq (⟨"ZoneCapacityModel", "readWord", "()J"⟩, 23) := ⟨⟨by decide +kernel, by decide +kernel⟩, List.mem_of_getElem? (i := 863) (by decide +kernel), List.mem_of_getElem? (i := 1232) (by decide +kernel), List.mem_of_getElem? (i := 1233) (by decide +kernel)⟩
theorem lw_p62 : lw_okq (⟨"ZoneCapacityModel", "readZone", "(I)Z"⟩, 23) := ⟨⟨by decide +kernel, by decide +kernel⟩, List.mem_of_getElem? (i := 863) (by decide +kernel), List.mem_of_getElem? (i := 1240) (by decide +kernel), List.mem_of_getElem? (i := 1241) (by decide +kernel)⟩
theorem lw_p63 : lw_okq (⟨"ZoneCapacityModel", "number", "(III)Z"⟩, 23) := ⟨⟨by decide +kernel, by decide +kernel⟩, List.mem_of_getElem? (i := 863) (by decide +kernel), List.mem_of_getElem? (i := 1244) (by decide +kernel), List.mem_of_getElem? (i := 1245) (by decide +kernel)⟩
def lw_privs_4 : List (MethodName × Nat) := [(⟨"ZoneCapacityModel", "priceOf", "(I)I"⟩, 23), (⟨"ZoneCapacityModel", "leastPrice", "(II)I"⟩, 23), (⟨"ZoneCapacityModel", "takesOwn", "(II)I"⟩, 23), (⟨"ZoneCapacityModel", "takenOf", "(I)I"⟩, 23), (⟨"ZoneCapacityModel", "surplusNow", "()J"⟩, 23), (⟨"ZoneCapacityModel", "paidTo", "(I)J"⟩, 23), (⟨"ZoneCapacityModel", "gainOf", "(III)J"⟩, 23), (⟨"ZoneCapacityModel", "offersAll", "(IZ)V"⟩, 23), (⟨"ZoneCapacityModel", "four", "(I)V"⟩, 23), (⟨"ZoneCapacityModel", "here", "()I"⟩, 23), (⟨"ZoneCapacityModel", "readStatement", "()Z"⟩, 23), (⟨"ZoneCapacityModel", "isWord", "()Z"⟩, 23), (⟨"ZoneCapacityModel", "fails", "(II)Z"⟩, 23), (⟨"ZoneCapacityModel", "readWord", "()J"⟩, 23), (⟨"ZoneCapacityModel", "readZone", "(I)Z"⟩, 23), (⟨"ZoneCapacityModel", "number", "(III)Z"⟩, 23)]
theorem lw_r4 : ∀ q ∈ lw_privs_4, lw_okq q := List.forall_mem_cons.mpr ⟨lw_p48, List.forall_mem_cons.mpr ⟨lw_p49, List.forall_mem_cons.mpr ⟨lw_p50, List.forall_mem_cons.mpr ⟨lw_p51, List.forall_mem_cons.mpr ⟨lw_p52, List.forall_mem_cons.mpr ⟨lw_p53, List.forall_mem_cons.mpr ⟨lw_p54, List.forall_mem_cons.mpr ⟨lw_p55, List.forall_mem_cons.mpr ⟨lw_p56, List.forall_mem_cons.mpr ⟨lw_p57, List.forall_mem_cons.mpr ⟨lw_p58, List.forall_mem_cons.mpr ⟨lw_p59, List.forall_mem_cons.mpr ⟨lw_p60, List.forall_mem_cons.mpr ⟨lw_p61, List.forall_mem_cons.mpr ⟨lw_p62, List.forall_mem_cons.mpr ⟨lw_p63, fun _ h => absurd h List.not_mem_nil⟩⟩⟩⟩⟩⟩⟩⟩⟩⟩⟩⟩⟩⟩⟩⟩
theorem lw_p64 : lw_okq (⟨"ZoneCapacityModel", "isDigit", "()Z"⟩, 23) := ⟨⟨by decide +kernel, by decide +kernel⟩, List.mem_of_getElem? (i := 863) (by decide +kernel), List.mem_of_getElem? (i := 1248) (by decide +kernel), List.mem_of_getElem? (i := 1249) (by decide +kernel)⟩
theorem lw_p65 : lw_okq (⟨"ZoneCapacityModel", "ends", "()Z"⟩, 23) := ⟨⟨by decide +kernel, by decide +kernel⟩, List.mem_of_getElem? (i := 863) (by decide +kernel), List.mem_of_getElem? (i := 1252) (by decide +kernel), List.mem_of_getElem? (i := 1253) (by decide +kernel)⟩
theorem lw_p66 : lw_okq (⟨"ZoneCapacityModel", "readCurve", "()Z"⟩, 23) := ⟨⟨by decide +kernel, by decide +kernel⟩, List.mem_of_getElem? (i := 863) (by decide +kernel), List.mem_of_getElem? (i := 1258) (by decide +kernel), List.mem_of_getElem? (i := 1259) (by decide +kernel)⟩
theorem lw_p67 : lw_okq (⟨"ZoneCapacityModel", "readResource", "(I)Z"⟩, 23) := ⟨⟨by decide +kernel, by decide +kernel⟩, List.mem_of_getElem? (i := 863) (by decide +kernel), List.mem_of_getElem? (i := 1263) (by decide +kernel), List.mem_of_getElem? (i := 1264) (by decide +kernel)⟩
theorem lw_p68 : lw_okq (⟨"ZoneCapacityModel", "readOffer", "(I)Z"⟩, 23) := ⟨⟨by decide +kernel, by decide +kernel⟩, List.mem_of_getElem? (i := 863) (by decide +kernel), List.mem_of_getElem? (i := 1270) (by decide +kernel), List.mem_of_getElem? (i := 1271) (by decide +kernel)⟩
theorem lw_p69 : lw_okq (⟨"ZoneCapacityModel", "readSet", "(III)Z"⟩, 23) := ⟨⟨by decide +kernel, by decide +kernel⟩, List.mem_of_getElem? (i := 863) (by decide +kernel), List.mem_of_getElem? (i := 1275) (by decide +kernel), List.mem_of_getElem? (i := 1276) (by decide +kernel)⟩
def lw_privs_5 : List (MethodName × Nat) := [(⟨"ZoneCapacityModel", "isDigit", "()Z"⟩, 23), (⟨"ZoneCapacityModel", "ends", "()Z"⟩, 23), (⟨"ZoneCapacityModel", "readCurve", "()Z"⟩, 23), (⟨"ZoneCapacityModel", "readResource", "(I)Z"⟩, 23), (⟨"ZoneCapacityModel", "readOffer", "(I)Z"⟩, 23), (⟨"ZoneCapacityModel", "readSet", "(III)Z"⟩, 23)]
theorem lw_r5 : ∀ q ∈ lw_privs_5, lw_okq q := List.forall_mem_cons.mpr ⟨lw_p64, List.forall_mem_cons.mpr ⟨lw_p65, List.forall_mem_cons.mpr ⟨lw_p66, List.forall_mem_cons.mpr ⟨lw_p67, List.forall_mem_cons.mpr ⟨lw_p68, List.forall_mem_cons.mpr ⟨lw_p69, fun _ h => absurd h List.not_mem_nil⟩⟩⟩⟩⟩⟩
def lw_privs : List (MethodName × Nat) := lw_privs_1 ++ (lw_privs_2 ++ (lw_privs_3 ++ (lw_privs_4 ++ (lw_privs_5))))
def lw_tbl : List Cond := k2_sels lw_privs ++ tables_1
theorem lw_privs_ok : ∀ q ∈ lw_privs, lw_okq q := by
  show ∀ q ∈ lw_privs_1 ++ (lw_privs_2 ++ (lw_privs_3 ++ (lw_privs_4 ++ (lw_privs_5)))), lw_okq q
  exact List.forall_mem_append.mpr ⟨lw_r1, List.forall_mem_append.mpr ⟨lw_r2, List.forall_mem_append.mpr ⟨lw_r3, List.forall_mem_append.mpr ⟨lw_r4, lw_r5⟩⟩⟩⟩
end
section
/-! ===== BEGIN exceptions that leave a method, and their catching by the caller (launches without stack traces) ===== -/
section VXA
/-! The laws vx_back, vx_callV, vx_callS, vx_callSW, vx_throw0, vx_throwS follow proofs of the library, with one case more: JvmDerived/Free/Laws.lean (Back.of_free), Shelf42/LK1.lean (callV, callS), Shelf/KitTraced.lean (throwNew0V, throwNewS). -/
/-- where a method has thrown q: the class by its name, the cell, what was written, the world -/
def vx_T (XC : String → State → State → Prop) (st : State) (q : Addr) (t : State) (mc ms : Nat) (free : Addr → Prop) : Prop :=
  ∃ (E : String) (ce : Cell) (L : List Loc), XC E st t ∧ t.heap[q]? = some ce ∧ ce.vm = .none ∧ st.vm.findClass E = some ce.cls ∧ st.WarmedH t.vm ∧ st.sameButNew ({ t with vm := st.vm } : State) L mc ms ∧ ∀ z ∈ L, free z.base
def vx_Q (Qc : Array Value → State → Outcome → State → Prop) (XC : String → State → State → Prop) (mc ms : Nat) (free : Addr → Prop) : Array Value → State → Outcome → State → Prop := fun a st o t =>
  (Qc a st o t ∧ ∃ L, FrameEnd st o t L mc ms ∧ ∀ q ∈ L, free q.base) ∨ ∃ q, o = .threw q ∧ vx_T XC st q t mc ms free
/-- a callee that returns or throws -/
def vx_Met (l : Launch) (y : MethodName) (ws : List Cond) (rm : Room) (Pc : Array Value → State → Prop) (Qc : Array Value → State → Outcome → State → Prop) (XC : String → State → State → Prop) (mc ms : Nat) (free : Addr → Prop) : Prop :=
  MetFree l y (headSpec ws rm) Pc (fun _ _ _ _ _ => True) (vx_Q Qc XC mc ms free)
def vx_Post (XC : String → State → State → Prop) (mc ms : Nat) (free : Addr → Prop) : Pt → Array Value → Addr → Pt → Prop := fun A a q B =>
  ∃ (g : JFrame) (mk : MethodId) (t : State) (L : List Loc) (E : String) (ce : Cell), B.U.heap = t.heap ∧ B.U.vm = t.vm ∧ XC E (A.U.calling g mk a) t ∧ t.heap[q]? = some ce ∧ ce.vm = .none ∧ A.U.vm.findClass E = some ce.cls ∧ B.locs = A.locs ++ L ∧ (∀ z ∈ L, free z.base) ∧ B.cells = A.cells + mc ∧ B.slots = A.slots + ms
def vx_Back (l : Launch) (R : Room) (p : Program) (e : Env) (below : List Frame) (s : State) (sargs : Array Value) (y : MethodName) (len W9 : Nat)
    (Pre : Pt → Array Value → Prop) (Post : Pt → Array Value → Option Value → Pt → Prop) (PostX : Pt → Array Value → Addr → Pt → Prop) : Prop :=
  ∀ (m : MethodId) (meth : Method) (c : Code) (A : Pt) (g : JFrame) (ig : Instr) (mk : MethodId) (a : Array Value),
    Stand p l e R s m sargs below meth c A.U A.locs A.cells A.slots → g.method = m → g.locals.size = c.maxLocals → decode c.code g.pc = .ok (ig, len) →
    2 * g.monitorRoom + (g.stack.map fun v => v.category).sum ≤ W9 → A.U.methodNamed? y = some mk → Pre A a →
    (∃ (v : Option Value) (B : Pt), Stand p l e R s m sargs below meth c B.U B.locs B.cells B.slots ∧ Post A a v B ∧
      Steps p.tables e below (doInvoke e (A.U.setTop g) [] mk a).1 (B.U.setTop { g with pc := g.pc + len, stack := v.toList ++ g.stack })) ∨
    (∃ (q : Addr) (B : Pt), Stand p l e R s m sargs below meth c B.U B.locs B.cells B.slots ∧ PostX A a q B ∧
      Steps p.tables e below (doInvoke e (A.U.setTop g) [] mk a).1 ((B.U.setTop g).pushFrame (.throwing q)))
section Payer
variable {l : Launch} {R : Room} {p : Program} {e : Env} {below : List Frame} {s : State} {sargs : Array Value} {y : MethodName} {len W9 : Nat}
theorem vx_back {ws : List Cond} {rm : Room} {Pc : Array Value → State → Prop} {Qc : Array Value → State → Outcome → State → Prop} {XC : String → State → State → Prop} {mc ms : Nat} {free : Addr → Prop} {bytes : ByteArray} {maxL : Nat} {ret : Option FieldType}
    (hM : vx_Met l y ws rm Pc Qc XC mc ms free) (hblind : FrameBlind Pc) (hrc : rm.cells = mc) (hrs : rm.slots = ms)
    (hframes : rm.frames + 1 ≤ R.frames) (hlocals : W9 + (maxL + 11) + rm.locals ≤ R.locals)
    (hws : ∀ w ∈ ws, ∀ a' U, s.WarmedH U.vm → w.before a' U = true) (hcode : Cond.code y bytes maxL ret ∈ ws) (hinit : ∀ a' U, s.WarmedH U.vm → (Cond.initialized y.cls).before a' U = true) :
    vx_Back l R p e below s sargs y len W9 (PreOf R mc ms Pc) (PostOf Qc mc ms free) (vx_Post XC mc ms free) := by
  intro m meth c A g ig mk a X hg hsize hdg hW hn hp
  have h1 : (headSpec ws rm).pre.before a A.U = true := atoms_intro fun w hw => hws w hw _ _ X.warmed
  have h2 : (Cond.code y bytes maxL ret).before a A.U = true := hws _ hcode _ _ X.warmed
  have h3 : (Cond.initialized y.cls).before a A.U = true := hinit _ _ X.warmed
  have h4 : A.cells + (headSpec ws rm).room.cells ≤ R.cells := by rw [show (headSpec ws rm).room.cells = mc from hrc]; exact hp.1
  have h5 : A.slots + (headSpec ws rm).room.slots ≤ R.slots := by rw [show (headSpec ws rm).room.slots = ms from hrs]; exact hp.2.1
  have hPc : Pc a (A.U.calling g mk a) := hblind _ _ _ _ hp.2.2
  obtain ⟨U, Ls, c0, s0⟩ := A
  dsimp only [Pt.U, Pt.locs, Pt.cells, Pt.slots] at h1 h2 h3 h4 h5 X hn hPc ⊢
  obtain ⟨methY, cY, hmY, hcY, -, hlY, -, -, -, -⟩ := Cond.code_spec hn h2
  obtain ⟨kY, hkY, -⟩ := className_of_methodNamed hn
  have hinitY : kY.init = .initialized := Cond.initialized_spec (findClass_of_methodNamed hn) hkY h3
  have h : At U g.method c below := by rw [hg]; exact X.here
  have hlocals9 : W9 + (maxL + 11) + (headSpec ws rm).room.locals ≤ R.locals := hlocals
  have happ : (headSpec ws rm).appliesLoose y e.platform (U.calling g mk a) = true :=
    Spec.appliesLoose_calling (g := g) h hdg hn hkY hinitY
      (X.room_calling (g := g) (R' := (headSpec ws rm).room) hsize hmY hcY hframes (by rw [hlY]; omega) h4 h5) h1
  obtain ⟨mid, hmid⟩ := h.above
  have hfr : (U.setTop g).frames = (.java g :: mid) ++ below := by rw [State.frames_setTop' g h.top, hmid]; rfl
  obtain ⟨o, s₂, hsteps, -, hend, hq⟩ := Steps.callFree hM p X.admits X.cas X.clock (acts := []) hfr happ hPc trivial
  have hq' : vx_Q Qc XC mc ms free a (U.calling g mk a) o s₂ := hq
  rw [State.frames_setTop' g h.top] at hend
  obtain ⟨g₀, hg0⟩ := Option.isSome_iff_exists.mp h.top
  obtain ⟨r, hr⟩ := State.topJava?_eq_some.mp hg0
  have hr' : (({ U with heap := s₂.heap, slotsUsed := s₂.slotsUsed } : State).setVm s₂.vm).frames = .java g₀ :: r := hr
  rcases hq' with ⟨hqc, L, hfe, hL⟩ | ⟨q, rfl, E, ce, L, hx, hce, hcv, hcl, hW₂, hsm, hL⟩
  · obtain ⟨⟨v, rfl⟩, hW₂, e2, q2, q3, q4, q5, q6⟩ := id hfe
    have e3 : s₂ = ({ (U.calling g mk a).setFrames s₂.frames with heap := s₂.heap, slotsUsed := s₂.slotsUsed } : State).setVm s₂.vm := by
      have : s₂ = ({ s₂ with vm := (U.calling g mk a).vm } : State).setVm s₂.vm := rfl
      rw [e2] at this
      exact this
    obtain ⟨c₂, i₂, len₂, hc₂, hd₂, hf₂⟩ := hend
    have hW' : U.WarmedH s₂.vm := hW₂
    have hcc : c₂ = c := by
      have h1 : s₂.code? g.method = U.code? g.method := by
        rw [State.code?_eq, State.code?_eq, hW'.alike.method?]
      exact Option.some.inj (hc₂.symm.trans (h1.trans h.code))
    subst hcc
    have hlen : len₂ = len := by rw [hdg] at hd₂; cases hd₂; rfl
    subst hlen
    have hs₂ : s₂ = (({ U with heap := s₂.heap, slotsUsed := s₂.slotsUsed } : State).setVm s₂.vm).setTop { g with pc := g.pc + len₂, stack := v.toList ++ g.stack } := by
      refine e3.trans ?_
      rw [hf₂, State.calling_eq h.top, State.setFrames_setFrames, State.setTop_of_frames _ hr', hr]
      rfl
    have hsame : U.sameButNew ({ U with heap := s₂.heap, slotsUsed := s₂.slotsUsed } : State) L mc ms := by
      refine ⟨?_, q2, q3, q4, q5, q6⟩
      obtain ⟨t, ht, -⟩ := State.frames_cons hr
      show ({ U with heap := s₂.heap, slotsUsed := s₂.slotsUsed } : State) = { U.setFrames U.frames with heap := s₂.heap, slotsUsed := s₂.slotsUsed }
      rw [State.setFrames_self ht]
    subst hg
    refine Or.inl ⟨v, ⟨(({ U with heap := s₂.heap, slotsUsed := s₂.slotsUsed } : State).setVm s₂.vm), Ls ++ L, c0 + mc, s0 + ms⟩,
      ⟨X.admits, X.cas, X.clock, X.frames, X.room, X.hears, X.method, X.code, (X.here.setHeapUsed s₂.heap s₂.slotsUsed).setVm hW'.alike, X.tail, State.WarmedH.trans X.warmed hW', X.limits, X.bytes, X.same.trans (hsame.setVm s.vm)⟩,
      ⟨g, mk, s₂, L, rfl, rfl, hqc, rfl, hL, rfl, rfl⟩, ?_⟩
    show Steps p.tables e below _ ((({ U with heap := s₂.heap, slotsUsed := s₂.slotsUsed } : State).setVm s₂.vm).setTop { g with pc := g.pc + len₂, stack := v.toList ++ g.stack })
    rw [← hs₂]
    exact hsteps
  · obtain ⟨e2, q2, q3, q4, q5, q6⟩ := id hsm
    have e3 : s₂ = ({ (U.calling g mk a).setFrames s₂.frames with heap := s₂.heap, slotsUsed := s₂.slotsUsed } : State).setVm s₂.vm := by
      have : s₂ = ({ s₂ with vm := (U.calling g mk a).vm } : State).setVm s₂.vm := rfl
      rw [e2] at this
      exact this
    have hf₂ : s₂.frames = .throwing q :: .java g :: U.frames.tail := hend
    have hW' : U.WarmedH s₂.vm := hW₂
    have hs₂ : s₂ = ((({ U with heap := s₂.heap, slotsUsed := s₂.slotsUsed } : State).setVm s₂.vm).setTop g).pushFrame (.throwing q) := by
      refine e3.trans ?_
      rw [hf₂, State.calling_eq h.top, State.setFrames_setFrames, State.pushFrame, State.frames_setTop _ hr', State.setTop_of_frames _ hr', State.setFrames_setFrames, hr]
      rfl
    have hsame : U.sameButNew ({ U with heap := s₂.heap, slotsUsed := s₂.slotsUsed } : State) L mc ms := by
      refine ⟨?_, q2, q3, q4, q5, q6⟩
      obtain ⟨t, ht, -⟩ := State.frames_cons hr
      show ({ U with heap := s₂.heap, slotsUsed := s₂.slotsUsed } : State) = { U.setFrames U.frames with heap := s₂.heap, slotsUsed := s₂.slotsUsed }
      rw [State.setFrames_self ht]
    subst hg
    refine Or.inr ⟨q, ⟨(({ U with heap := s₂.heap, slotsUsed := s₂.slotsUsed } : State).setVm s₂.vm), Ls ++ L, c0 + mc, s0 + ms⟩,
      ⟨X.admits, X.cas, X.clock, X.frames, X.room, X.hears, X.method, X.code, (X.here.setHeapUsed s₂.heap s₂.slotsUsed).setVm hW'.alike, X.tail, State.WarmedH.trans X.warmed hW', X.limits, X.bytes, X.same.trans (hsame.setVm s.vm)⟩,
      ⟨g, mk, s₂, L, E, ce, rfl, rfl, hx, hce, hcv, hcl, rfl, hL, rfl, rfl⟩, ?_⟩
    show Steps p.tables e below _ (((({ U with heap := s₂.heap, slotsUsed := s₂.slotsUsed } : State).setVm s₂.vm).setTop g).pushFrame (.throwing q))
    rw [← hs₂]
    exact hsteps
end Payer
section Calls
variable {p : Program} {l : Launch} {e : Env} {R : Room} {s : State} {m : MethodId} {args : Array Value} {below : List Frame} {meth : Method} {c : Code} {T : State} {locs : List Loc} {cells slots : Nat}
theorem vx_callV (X : Stand p l e R s m args below meth c T locs cells slots) (hexec : p.tables.exec = Jvm.exec) {own C : String} {index : Nat} {y : MethodName} {bytes : ByteArray} {maxL : Nat} {ret : Option FieldType}
    (hown : s.vm.findClass own = some m.cls) (hlink : (Cond.methodLink own index y).before args s = true) (hinst : (Cond.instanceMethod y).before args s = true) (hsel : (Cond.selects C y y).before args s = true)
    (hcode : (Cond.code y bytes maxL ret).before args s = true) (hy : y.cls ≠ "java/lang/invoke/MethodHandle" ∧ y.cls ≠ "java/lang/invoke/VarHandle")
    {W9 : Nat} {Pre : Pt → Array Value → Prop} {Post : Pt → Array Value → Option Value → Pt → Prop} {PostX : Pt → Array Value → Addr → Pt → Prop} (hK : vx_Back l R p e below s args y 3 W9 Pre Post PostX)
    {b : Addr} {cellB : Cell} (hcell : T.heap[b]? = some cellB) (hobj : cellB.vm.isStatics = false) (hcls : s.vm.findClass C = some cellB.cls)
    {g : JFrame} (hg : g.method = m) (hsize : g.locals.size = c.maxLocals) {argsL rest : List Value} (hlen : ∀ sig, parseMethodDescriptor y.desc = some sig → argsL.length = sig.parameters.length)
    (hstack : g.stack = argsL.reverse ++ .ref b :: rest) (hW : 2 * g.monitorRoom + (rest.map fun v => v.category).sum ≤ W9) (hdg : decode c.code g.pc = .ok (.invokevirtual index, 3))
    (hpre : ∀ vm₁, s.WarmedH vm₁ → Pre ⟨T.setVm vm₁, locs, cells, slots⟩ (Value.ref b :: argsL).toArray) :
    (∃ (v : Option Value) (vm₁ : Vm) (B : Pt), s.WarmedH vm₁ ∧ Stand p l e R s m args below meth c B.U B.locs B.cells B.slots ∧ Post ⟨T.setVm vm₁, locs, cells, slots⟩ (Value.ref b :: argsL).toArray v B ∧
      ∀ target, Steps p.tables e below (B.U.setTop { g with pc := g.pc + 3, stack := v.toList ++ rest }) target → Steps p.tables e below (T.setTop g) target) ∨
    (∃ (q : Addr) (vm₁ : Vm) (B : Pt), s.WarmedH vm₁ ∧ Stand p l e R s m args below meth c B.U B.locs B.cells B.slots ∧ PostX ⟨T.setVm vm₁, locs, cells, slots⟩ (Value.ref b :: argsL).toArray q B ∧
      Steps p.tables e below (T.setTop g) ((B.U.setTop { g with stack := rest }).pushFrame (.throwing q))) := by
  obtain ⟨mk, methM, hnamed, hmethM, hstM, habM⟩ := Cond.instanceMethod_spec hinst
  obtain ⟨methM', cM, hmethM', -, -, -, -, -, -, hsigM⟩ := Cond.code_spec hnamed hcode
  cases hmethM.symm.trans hmethM'
  obtain ⟨c2, r2, m2, q1, q2, q3, q4, kP, hkP, hkPi⟩ := Cond.selects_spec hsel
  cases hcls.symm.trans q1
  cases (State.methodFound?_of_named hnamed hy).symm.trans q2
  cases hnamed.symm.trans q3
  have hselP : selectMethod e.platform s.vm cellB.cls mk = .method mk := by rw [Launch.admits_selectMethod X.admits]; exact q4
  obtain ⟨vm₁, X₁, hstep₁⟩ := X.invokevirtual hexec hown hlink hnamed hmethM hstM hkP hkPi hy (a := b) (cell := cellB) hcell
    (fun z h => by rw [h] at hobj; cases hobj) hselP hmethM habM hkP hkPi (g := g) hg (argsL := argsL) (rest := rest) (hlen _ hsigM) hstack hdg
  rcases hK m meth c ⟨T.setVm vm₁, locs, cells, slots⟩ { g with stack := rest } (.invokevirtual index) mk (Value.ref b :: argsL).toArray X₁ hg hsize hdg hW (X₁.named hnamed) (hpre vm₁ X₁.warmed) with ⟨v, B, X', hpost, hsteps⟩ | ⟨q, B, X', hpost, hsteps⟩
  · exact Or.inl ⟨v, vm₁, B, X₁.warmed, X', hpost, fun target h => hstep₁ _ fun acts => by rw [doInvoke_state]; exact hsteps.trans h⟩
  · exact Or.inr ⟨q, vm₁, B, X₁.warmed, X', hpost, hstep₁ _ fun acts => by rw [doInvoke_state]; exact hsteps⟩
theorem vx_callS (X : Stand p l e R s m args below meth c T locs cells slots) (hexec : p.tables.exec = Jvm.exec) {own : String} {index : Nat} {y : MethodName} {bytes : ByteArray} {maxL : Nat} {ret : Option FieldType}
    (hown : s.vm.findClass own = some m.cls) (hlink : (Cond.methodLink own index y).before args s = true) (hstat : (Cond.static y).before args s = true) (hinit : (Cond.initialized y.cls).before args s = true)
    (hcode : (Cond.code y bytes maxL ret).before args s = true) (hy : y.cls ≠ "java/lang/invoke/MethodHandle" ∧ y.cls ≠ "java/lang/invoke/VarHandle")
    {W9 : Nat} {Pre : Pt → Array Value → Prop} {Post : Pt → Array Value → Option Value → Pt → Prop} {PostX : Pt → Array Value → Addr → Pt → Prop} (hK : vx_Back l R p e below s args y 3 W9 Pre Post PostX)
    {g : JFrame} (hg : g.method = m) (hsize : g.locals.size = c.maxLocals) {argsL rest : List Value} (hlen : ∀ sig, parseMethodDescriptor y.desc = some sig → argsL.length = sig.parameters.length)
    (hstack : g.stack = argsL.reverse ++ rest) (hW : 2 * g.monitorRoom + (rest.map fun v => v.category).sum ≤ W9) (hdg : decode c.code g.pc = .ok (.invokestatic index, 3))
    (hpre : ∀ vm₁, s.WarmedH vm₁ → Pre ⟨T.setVm vm₁, locs, cells, slots⟩ argsL.toArray) :
    (∃ (v : Option Value) (vm₁ : Vm) (B : Pt), s.WarmedH vm₁ ∧ Stand p l e R s m args below meth c B.U B.locs B.cells B.slots ∧ Post ⟨T.setVm vm₁, locs, cells, slots⟩ argsL.toArray v B ∧
      ∀ target, Steps p.tables e below (B.U.setTop { g with pc := g.pc + 3, stack := v.toList ++ rest }) target → Steps p.tables e below (T.setTop g) target) ∨
    (∃ (q : Addr) (vm₁ : Vm) (B : Pt), s.WarmedH vm₁ ∧ Stand p l e R s m args below meth c B.U B.locs B.cells B.slots ∧ PostX ⟨T.setVm vm₁, locs, cells, slots⟩ argsL.toArray q B ∧
      Steps p.tables e below (T.setTop g) ((B.U.setTop { g with stack := rest }).pushFrame (.throwing q))) := by
  obtain ⟨mk, hnamed⟩ := Cond.code_named hcode
  obtain ⟨methM, cM, hmethM, -, -, -, -, -, -, hsigM⟩ := Cond.code_spec hnamed hcode
  have hstatic : methM.isStatic = true := Cond.static_spec hnamed hmethM hstat
  obtain ⟨kP, hkP, -⟩ := className_of_methodNamed hnamed
  have hinitP : kP.init = .initialized := Cond.initialized_spec (findClass_of_methodNamed hnamed) hkP hinit
  obtain ⟨vm₁, X₁, hstep₁⟩ := X.invokestatic hexec hown hlink hnamed hmethM hstatic hkP hinitP hy (g := g) hg (argsL := argsL) (rest := rest) (hlen _ hsigM) hstack hdg
  rcases hK m meth c ⟨T.setVm vm₁, locs, cells, slots⟩ { g with stack := rest } (.invokestatic index) mk argsL.toArray X₁ hg hsize hdg hW (X₁.named hnamed) (hpre vm₁ X₁.warmed) with ⟨v, B, X', hpost, hsteps⟩ | ⟨q, B, X', hpost, hsteps⟩
  · exact Or.inl ⟨v, vm₁, B, X₁.warmed, X', hpost, fun target h => hstep₁ _ fun acts => by rw [doInvoke_state]; exact hsteps.trans h⟩
  · exact Or.inr ⟨q, vm₁, B, X₁.warmed, X', hpost, hstep₁ _ fun acts => by rw [doInvoke_state]; exact hsteps⟩
end Calls
theorem vx_cls {s : State} {T : State} {vm₁ : Vm} {E : String} {k : ClassId} (hW : s.WarmedH vm₁) (h : (T.setVm vm₁).vm.findClass E = some k) : s.vm.findClass E = some k := by
  have h1 : vm₁.findClass E = some k := h
  rw [hW.alike.findClass] at h1
  exact h1
/-- the method's frame g, with q thrown over it -/
def vx_W (p : Program) (l : Launch) (e : Env) (R : Room) (s : State) (m : MethodId) (args : Array Value) (below : List Frame) (meth : Method) (c : Code) (H : Heap) (locs : List Loc) (cells slots : Nat) (Q : State → Prop) (g : JFrame) (q : Addr) : Prop :=
  ∀ T : State, T.heap = H → Stand p l e R s m args below meth c T locs cells slots → ∃ t, Steps p.tables e below ((T.setTop g).pushFrame (.throwing q)) t ∧ Q t
def vx_Run (p : Program) (l : Launch) (e : Env) (R : Room) (s : State) (m : MethodId) (args : Array Value) (below : List Frame) (meth : Method) (c : Code) (H : Heap) (locs : List Loc) (cells slots mc ms : Nat) (g : JFrame) (rest : List Value) (Qa : State → Outcome → State → Prop) (XC : String → State → State → Prop) (free : Addr → Prop) : Prop :=
  ∀ T : State, T.heap = H → Stand p l e R s m args below meth c T locs cells slots →
    (∃ (v : Option Value) (st₀ t T' : State) (L : List Loc), st₀.heap = H ∧ Stand p l e R s m args below meth c T' (locs ++ L) (cells + mc) (slots + ms) ∧ (∀ q ∈ L, free q.base) ∧ T'.heap = t.heap ∧ T'.vm = t.vm ∧ Qa st₀ (.returned v) t ∧
      Goes p e below T g T' { g with pc := g.pc + 3, stack := v.toList ++ rest }) ∨
    (∃ (q : Addr) (st₀ t T' : State) (L : List Loc) (E : String) (ce : Cell), st₀.heap = H ∧ Stand p l e R s m args below meth c T' (locs ++ L) (cells + mc) (slots + ms) ∧ (∀ z ∈ L, free z.base) ∧ T'.heap = t.heap ∧ T'.vm = t.vm ∧ XC E st₀ t ∧ t.heap[q]? = some ce ∧ ce.vm = .none ∧ s.vm.findClass E = some ce.cls ∧
      Steps p.tables e below (T.setTop g) ((T'.setTop { g with stack := rest }).pushFrame (.throwing q)))
def vx_X {S : Type} (px : S → Prop) (B : String → S → State → Prop) (A : Nat → Prop) : String → State → State → Prop := fun E st t => ∃ u : S, px u ∧ B E u t ∧ va_F A st t
section Runs
variable {p : Program} {l : Launch} {e : Env} {R : Room} {s : State} {m : MethodId} {args : Array Value} {below : List Frame} {meth : Method} {c : Code} {H : Heap} {locs : List Loc} {cells slots : Nat}
variable {y : MethodName} {bytes cc : ByteArray} {maxL nL mc ms n index : Nat} {ret : Option FieldType} {ws : List Cond} {rm : Room} {Pc : Array Value → State → Prop} {Qc : Array Value → State → Outcome → State → Prop} {XC : String → State → State → Prop} {free : Addr → Prop} {Ts : List Cond} {own C : String} {b : Addr} {As rest : List Value} {g : JFrame}
theorem vx_callBack (cb : CallB R s args own index y bytes maxL ret ws rm mc ms n) (hM : vx_Met l y ws rm Pc Qc XC mc ms free) (hbl : FrameBlind Pc) : vx_Back l R p e below s args y 3 8 (PreOf R mc ms Pc) (PostOf Qc mc ms free) (vx_Post XC mc ms free) := by
  obtain ⟨hrc, hrs, hfr, hlo, hws, hcw, -, hini, -⟩ := cb
  exact vx_back (bytes := bytes) (maxL := maxL) (ret := ret) hM hbl hrc hrs hfr hlo hws hcw (fun a' U hW => word_at hW (Or.inl (by first | rfl | simp [Cond.onTables, Cond.keeps, Cond.steady])) hini)
theorem vx_runV (S : CallFix p m c cc nL s args Ts own) (hM : vx_Met l y ws rm Pc Qc XC mc ms free) (cw : CallW R s args own C index y bytes maxL ret ws rm mc ms n) (hp : PreV s H C b Pc As)
    (hg : g.method = m) (hn : As.length = n) (hsize : g.locals.size = nL) (hstack : g.stack = As.reverse ++ .ref b :: rest) (hW : 2 * g.monitorRoom + (rest.map fun v => v.category).sum ≤ 8) (hdg : decode cc g.pc = .ok (.invokevirtual index, 3)) (hf : cells + mc ≤ R.cells ∧ slots + ms ≤ R.slots) :
    vx_Run p l e R s m args below meth c H locs cells slots mc ms g rest (Qc (Value.ref b :: As).toArray) XC free := by
  have hK : vx_Back l R p e below s args y 3 8 (PreOf R mc ms Pc) (PostOf Qc mc ms free) (vx_Post XC mc ms free) := vx_callBack cw.1 hM hp.1
  obtain ⟨⟨-, -, -, -, -, -, hcode, -, hy, hlen, hl⟩, hin, hse⟩ := cw
  obtain ⟨hx, hb, hml, ho, -⟩ := S
  obtain ⟨-, ⟨cellB, hcB, hoB, hclB⟩, hPc⟩ := hp
  intro T hT X
  rcases vx_callV X hx (C := C) (bytes := bytes) (maxL := maxL) (ret := ret) ho hl hin hse hcode hy hK (by rw [hT]; exact hcB) hoB hclB hg (hsize.trans hml.symm) (argsL := As) (rest := rest) (fun sig h => hn.trans (hlen sig h)) hstack hW (by rw [hb]; exact hdg)
    (fun vm₁ hW₁ => ⟨hf.1, hf.2, hPc (T.setVm vm₁) hT hW₁⟩) with ⟨v, vm₁, ⟨U', l2, c2, s2⟩, hW₁, X', ⟨g', mk, t, L, e1, e2, hq, h1, hL, h2, h3⟩, st⟩ | ⟨q, vm₁, ⟨U', l2, c2, s2⟩, hW₁, X', ⟨g', mk, t, L, E, ce, e1, e2, hq, hce, hcv, hcl, h1, hL, h2, h3⟩, st⟩
  · dsimp only [Pt.U, Pt.locs, Pt.cells, Pt.slots] at X' e1 e2 h1 h2 h3 st
    subst h1; subst h2; subst h3
    exact Or.inl ⟨v, (T.setVm vm₁).calling g' mk (Value.ref b :: As).toArray, t, U', L, hT, X', hL, e1, e2, hq, st⟩
  · dsimp only [Pt.U, Pt.locs, Pt.cells, Pt.slots] at X' e1 e2 h1 h2 h3 st hcl
    subst h1; subst h2; subst h3
    exact Or.inr ⟨q, (T.setVm vm₁).calling g' mk (Value.ref b :: As).toArray, t, U', L, E, ce, hT, X', hL, e1, e2, hq, hce, hcv, vx_cls hW₁ hcl, st⟩
theorem vx_runS (S : CallFix p m c cc nL s args Ts own) (hM : vx_Met l y ws rm Pc Qc XC mc ms free) (cw : CallB R s args own index y bytes maxL ret ws rm mc ms n ∧ (Cond.static y).before args s = true) (hp : PreS s H Pc As)
    (hg : g.method = m) (hn : As.length = n) (hsize : g.locals.size = nL) (hstack : g.stack = As.reverse ++ rest) (hW : 2 * g.monitorRoom + (rest.map fun v => v.category).sum ≤ 8) (hdg : decode cc g.pc = .ok (.invokestatic index, 3)) (hf : cells + mc ≤ R.cells ∧ slots + ms ≤ R.slots) :
    vx_Run p l e R s m args below meth c H locs cells slots mc ms g rest (Qc As.toArray) XC free := by
  have hK : vx_Back l R p e below s args y 3 8 (PreOf R mc ms Pc) (PostOf Qc mc ms free) (vx_Post XC mc ms free) := vx_callBack cw.1 hM hp.1
  obtain ⟨⟨-, -, -, -, -, -, hcode, hini, hy, hlen, hl⟩, hstt⟩ := cw
  obtain ⟨hx, hb, hml, ho, -⟩ := S
  intro T hT X
  rcases vx_callS X hx (bytes := bytes) (maxL := maxL) (ret := ret) ho hl hstt hini hcode hy hK hg (hsize.trans hml.symm) (argsL := As) (rest := rest) (fun sig h => hn.trans (hlen sig h)) hstack hW (by rw [hb]; exact hdg)
    (fun vm₁ hW₁ => ⟨hf.1, hf.2, hp.2 (T.setVm vm₁) hT hW₁⟩) with ⟨v, vm₁, ⟨U', l2, c2, s2⟩, hW₁, X', ⟨g', mk, t, L, e1, e2, hq, h1, hL, h2, h3⟩, st⟩ | ⟨q, vm₁, ⟨U', l2, c2, s2⟩, hW₁, X', ⟨g', mk, t, L, E, ce, e1, e2, hq, hce, hcv, hcl, h1, hL, h2, h3⟩, st⟩
  · dsimp only [Pt.U, Pt.locs, Pt.cells, Pt.slots] at X' e1 e2 h1 h2 h3 st
    subst h1; subst h2; subst h3
    exact Or.inl ⟨v, (T.setVm vm₁).calling g' mk As.toArray, t, U', L, hT, X', hL, e1, e2, hq, st⟩
  · dsimp only [Pt.U, Pt.locs, Pt.cells, Pt.slots] at X' e1 e2 h1 h2 h3 st hcl
    subst h1; subst h2; subst h3
    exact Or.inr ⟨q, (T.setVm vm₁).calling g' mk As.toArray, t, U', L, E, ce, hT, X', hL, e1, e2, hq, hce, hcv, vx_cls hW₁ hcl, st⟩
end Runs
section Rows
variable {p : Program} {l : Launch} {e : Env} {R : Room} {s : State} {m : MethodId} {args : Array Value} {below : List Frame} {meth : Method} {c : Code} {H : Heap} {locs : List Loc} {cells slots : Nat} {Q : State → Prop}
variable {mc ms : Nat} {free : Addr → Prop} {A0 A1 : Nat → Prop} {H0 : Heap} {a : Array Value} {pc : Nat} {ls : Array Slot} {st0 rest : List Value}
theorem vx_keep {st₀ t T' : State} {L : List Loc} (h0 : st₀.heap = H) (e1 : T'.heap = t.heap) (hS : va_S A0 H0 H locs) (hA : ∀ q, q < H.size → A1 q → A0 q) (hf : ∀ q, free q → A0 q) (hL : ∀ q ∈ L, free q.base) (hF : va_F A1 st₀ t) :
    H.size ≤ T'.heap.size ∧ (∀ q : Nat, q < H.size → ¬ A1 q → T'.heap[q]? = H[q]?) ∧ va_S A0 H0 T'.heap (locs ++ L) := by
  obtain ⟨hz, hk⟩ := hF
  rw [h0] at hz hk
  exact ⟨by rw [e1]; exact hz, fun q h1 h2 => by rw [e1]; exact hk q h1 h2,
    ⟨Nat.le_trans hS.1 (by rw [e1]; exact hz), fun q h1 h2 => by rw [e1, hk q (Nat.lt_of_lt_of_le h1 hS.1) (fun z => h2 (hA q (Nat.lt_of_lt_of_le h1 hS.1) z))]; exact hS.2.1 q h1 h2, fun q hq => by
      rcases List.mem_append.mp hq with h | h
      · exact hS.2.2 q h
      · exact hf _ (hL q h)⟩⟩
theorem vx_calli {S SX : Type} {post : Int32 → S → Prop} {px : SX → Prop} {B : S → State → Prop} {BX : String → SX → State → Prop} {AX : Nat → Prop} (hr : vx_Run p l e R s m args below meth c H locs cells slots mc ms (F0 m pc ls st0) rest (va_Qi post B A1 a) (vx_X px BX AX) free) (hS : va_S A0 H0 H locs) (hA : ∀ q, q < H.size → A1 q → A0 q) (hf : ∀ q, free q → A0 q) (hAX : ∀ q, q < H.size → AX q → A0 q)
    (kx : ∀ (E : String) (ce : Cell) (q9 : Addr) (u : SX) (t : State) (H1 : Heap) (locs1 : List Loc), t.heap = H1 → s.vm.Alike t.vm → px u → BX E u t → H.size ≤ H1.size → (∀ q : Nat, q < H.size → ¬ AX q → H1[q]? = H[q]?) → va_S A0 H0 H1 locs1 → H1[q9]? = some ce → ce.vm = .none → s.vm.findClass E = some ce.cls → vx_W p l e R s m args below meth c H1 locs1 (cells + mc) (slots + ms) Q (F0 m pc ls rest) q9)
    (kk : ∀ (r : Int32) (u : S) (t : State) (H1 : Heap) (locs1 : List Loc), t.heap = H1 → s.vm.Alike t.vm → post r u → B u t → H.size ≤ H1.size → (∀ q : Nat, q < H.size → ¬ A1 q → H1[q]? = H[q]?) → va_S A0 H0 H1 locs1 → W p l e R s m args below meth c H1 locs1 (cells + mc) (slots + ms) Q (F0 m (pc + 3) ls (.int r :: rest))) : W p l e R s m args below meth c H locs cells slots Q (F0 m pc ls st0) := by
  intro T hT X
  rcases hr T hT X with ⟨v, st₀, t, T', L, h0, X', hL, e1, e2, ⟨⟨r, u, hv, hp, hb⟩, hF⟩, st⟩ | ⟨q, st₀, t, T', L, E, ce, h0, X', hL, e1, e2, ⟨u, hp, hb, hF⟩, hce, hcv, hcl, st⟩
  · cases hv
    obtain ⟨k1, k2, k3⟩ := vx_keep h0 e1 hS hA hf hL hF
    obtain ⟨t2, a1, b1⟩ := kk r u t T'.heap (locs ++ L) e1.symm (by rw [← e2]; exact X'.warmed.alike) hp hb k1 k2 k3 T' rfl X'
    exact ⟨t2, st t2 a1, b1⟩
  · obtain ⟨k1, k2, k3⟩ := vx_keep h0 e1 hS hAX hf hL hF
    obtain ⟨t2, a1, b1⟩ := kx E ce q u t T'.heap (locs ++ L) e1.symm (by rw [← e2]; exact X'.warmed.alike) hp hb k1 k2 k3 (by rw [e1]; exact hce) hcv hcl T' rfl X'
    exact ⟨t2, st.trans a1, b1⟩
theorem vx_calll {S SX : Type} {post : Int64 → S → Prop} {px : SX → Prop} {B : S → State → Prop} {BX : String → SX → State → Prop} {AX : Nat → Prop} (hr : vx_Run p l e R s m args below meth c H locs cells slots mc ms (F0 m pc ls st0) rest (va_Ql post B A1 a) (vx_X px BX AX) free) (hS : va_S A0 H0 H locs) (hA : ∀ q, q < H.size → A1 q → A0 q) (hf : ∀ q, free q → A0 q) (hAX : ∀ q, q < H.size → AX q → A0 q)
    (kx : ∀ (E : String) (ce : Cell) (q9 : Addr) (u : SX) (t : State) (H1 : Heap) (locs1 : List Loc), t.heap = H1 → s.vm.Alike t.vm → px u → BX E u t → H.size ≤ H1.size → (∀ q : Nat, q < H.size → ¬ AX q → H1[q]? = H[q]?) → va_S A0 H0 H1 locs1 → H1[q9]? = some ce → ce.vm = .none → s.vm.findClass E = some ce.cls → vx_W p l e R s m args below meth c H1 locs1 (cells + mc) (slots + ms) Q (F0 m pc ls rest) q9)
    (kk : ∀ (r : Int64) (u : S) (t : State) (H1 : Heap) (locs1 : List Loc), t.heap = H1 → s.vm.Alike t.vm → post r u → B u t → H.size ≤ H1.size → (∀ q : Nat, q < H.size → ¬ A1 q → H1[q]? = H[q]?) → va_S A0 H0 H1 locs1 → W p l e R s m args below meth c H1 locs1 (cells + mc) (slots + ms) Q (F0 m (pc + 3) ls (.long r :: rest))) : W p l e R s m args below meth c H locs cells slots Q (F0 m pc ls st0) := by
  intro T hT X
  rcases hr T hT X with ⟨v, st₀, t, T', L, h0, X', hL, e1, e2, ⟨⟨r, u, hv, hp, hb⟩, hF⟩, st⟩ | ⟨q, st₀, t, T', L, E, ce, h0, X', hL, e1, e2, ⟨u, hp, hb, hF⟩, hce, hcv, hcl, st⟩
  · cases hv
    obtain ⟨k1, k2, k3⟩ := vx_keep h0 e1 hS hA hf hL hF
    obtain ⟨t2, a1, b1⟩ := kk r u t T'.heap (locs ++ L) e1.symm (by rw [← e2]; exact X'.warmed.alike) hp hb k1 k2 k3 T' rfl X'
    exact ⟨t2, st t2 a1, b1⟩
  · obtain ⟨k1, k2, k3⟩ := vx_keep h0 e1 hS hAX hf hL hF
    obtain ⟨t2, a1, b1⟩ := kx E ce q u t T'.heap (locs ++ L) e1.symm (by rw [← e2]; exact X'.warmed.alike) hp hb k1 k2 k3 (by rw [e1]; exact hce) hcv hcl T' rfl X'
    exact ⟨t2, st.trans a1, b1⟩
theorem vx_callf {S SX : Type} {post : UInt32 → S → Prop} {px : SX → Prop} {B : S → State → Prop} {BX : String → SX → State → Prop} {AX : Nat → Prop} (hr : vx_Run p l e R s m args below meth c H locs cells slots mc ms (F0 m pc ls st0) rest (va_Qf post B A1 a) (vx_X px BX AX) free) (hS : va_S A0 H0 H locs) (hA : ∀ q, q < H.size → A1 q → A0 q) (hf : ∀ q, free q → A0 q) (hAX : ∀ q, q < H.size → AX q → A0 q)
    (kx : ∀ (E : String) (ce : Cell) (q9 : Addr) (u : SX) (t : State) (H1 : Heap) (locs1 : List Loc), t.heap = H1 → s.vm.Alike t.vm → px u → BX E u t → H.size ≤ H1.size → (∀ q : Nat, q < H.size → ¬ AX q → H1[q]? = H[q]?) → va_S A0 H0 H1 locs1 → H1[q9]? = some ce → ce.vm = .none → s.vm.findClass E = some ce.cls → vx_W p l e R s m args below meth c H1 locs1 (cells + mc) (slots + ms) Q (F0 m pc ls rest) q9)
    (kk : ∀ (r : UInt32) (u : S) (t : State) (H1 : Heap) (locs1 : List Loc), t.heap = H1 → s.vm.Alike t.vm → post r u → B u t → H.size ≤ H1.size → (∀ q : Nat, q < H.size → ¬ A1 q → H1[q]? = H[q]?) → va_S A0 H0 H1 locs1 → W p l e R s m args below meth c H1 locs1 (cells + mc) (slots + ms) Q (F0 m (pc + 3) ls (.float r :: rest))) : W p l e R s m args below meth c H locs cells slots Q (F0 m pc ls st0) := by
  intro T hT X
  rcases hr T hT X with ⟨v, st₀, t, T', L, h0, X', hL, e1, e2, ⟨⟨r, u, hv, hp, hb⟩, hF⟩, st⟩ | ⟨q, st₀, t, T', L, E, ce, h0, X', hL, e1, e2, ⟨u, hp, hb, hF⟩, hce, hcv, hcl, st⟩
  · cases hv
    obtain ⟨k1, k2, k3⟩ := vx_keep h0 e1 hS hA hf hL hF
    obtain ⟨t2, a1, b1⟩ := kk r u t T'.heap (locs ++ L) e1.symm (by rw [← e2]; exact X'.warmed.alike) hp hb k1 k2 k3 T' rfl X'
    exact ⟨t2, st t2 a1, b1⟩
  · obtain ⟨k1, k2, k3⟩ := vx_keep h0 e1 hS hAX hf hL hF
    obtain ⟨t2, a1, b1⟩ := kx E ce q u t T'.heap (locs ++ L) e1.symm (by rw [← e2]; exact X'.warmed.alike) hp hb k1 k2 k3 (by rw [e1]; exact hce) hcv hcl T' rfl X'
    exact ⟨t2, st.trans a1, b1⟩
theorem vx_calld {S SX : Type} {post : UInt64 → S → Prop} {px : SX → Prop} {B : S → State → Prop} {BX : String → SX → State → Prop} {AX : Nat → Prop} (hr : vx_Run p l e R s m args below meth c H locs cells slots mc ms (F0 m pc ls st0) rest (va_Qd post B A1 a) (vx_X px BX AX) free) (hS : va_S A0 H0 H locs) (hA : ∀ q, q < H.size → A1 q → A0 q) (hf : ∀ q, free q → A0 q) (hAX : ∀ q, q < H.size → AX q → A0 q)
    (kx : ∀ (E : String) (ce : Cell) (q9 : Addr) (u : SX) (t : State) (H1 : Heap) (locs1 : List Loc), t.heap = H1 → s.vm.Alike t.vm → px u → BX E u t → H.size ≤ H1.size → (∀ q : Nat, q < H.size → ¬ AX q → H1[q]? = H[q]?) → va_S A0 H0 H1 locs1 → H1[q9]? = some ce → ce.vm = .none → s.vm.findClass E = some ce.cls → vx_W p l e R s m args below meth c H1 locs1 (cells + mc) (slots + ms) Q (F0 m pc ls rest) q9)
    (kk : ∀ (r : UInt64) (u : S) (t : State) (H1 : Heap) (locs1 : List Loc), t.heap = H1 → s.vm.Alike t.vm → post r u → B u t → H.size ≤ H1.size → (∀ q : Nat, q < H.size → ¬ A1 q → H1[q]? = H[q]?) → va_S A0 H0 H1 locs1 → W p l e R s m args below meth c H1 locs1 (cells + mc) (slots + ms) Q (F0 m (pc + 3) ls (.double r :: rest))) : W p l e R s m args below meth c H locs cells slots Q (F0 m pc ls st0) := by
  intro T hT X
  rcases hr T hT X with ⟨v, st₀, t, T', L, h0, X', hL, e1, e2, ⟨⟨r, u, hv, hp, hb⟩, hF⟩, st⟩ | ⟨q, st₀, t, T', L, E, ce, h0, X', hL, e1, e2, ⟨u, hp, hb, hF⟩, hce, hcv, hcl, st⟩
  · cases hv
    obtain ⟨k1, k2, k3⟩ := vx_keep h0 e1 hS hA hf hL hF
    obtain ⟨t2, a1, b1⟩ := kk r u t T'.heap (locs ++ L) e1.symm (by rw [← e2]; exact X'.warmed.alike) hp hb k1 k2 k3 T' rfl X'
    exact ⟨t2, st t2 a1, b1⟩
  · obtain ⟨k1, k2, k3⟩ := vx_keep h0 e1 hS hAX hf hL hF
    obtain ⟨t2, a1, b1⟩ := kx E ce q u t T'.heap (locs ++ L) e1.symm (by rw [← e2]; exact X'.warmed.alike) hp hb k1 k2 k3 (by rw [e1]; exact hce) hcv hcl T' rfl X'
    exact ⟨t2, st.trans a1, b1⟩
theorem vx_callv {S SX : Type} {post : S → Prop} {px : SX → Prop} {B : S → State → Prop} {BX : String → SX → State → Prop} {AX : Nat → Prop} (hr : vx_Run p l e R s m args below meth c H locs cells slots mc ms (F0 m pc ls st0) rest (va_Qv post B A1 a) (vx_X px BX AX) free) (hS : va_S A0 H0 H locs) (hA : ∀ q, q < H.size → A1 q → A0 q) (hf : ∀ q, free q → A0 q) (hAX : ∀ q, q < H.size → AX q → A0 q)
    (kx : ∀ (E : String) (ce : Cell) (q9 : Addr) (u : SX) (t : State) (H1 : Heap) (locs1 : List Loc), t.heap = H1 → s.vm.Alike t.vm → px u → BX E u t → H.size ≤ H1.size → (∀ q : Nat, q < H.size → ¬ AX q → H1[q]? = H[q]?) → va_S A0 H0 H1 locs1 → H1[q9]? = some ce → ce.vm = .none → s.vm.findClass E = some ce.cls → vx_W p l e R s m args below meth c H1 locs1 (cells + mc) (slots + ms) Q (F0 m pc ls rest) q9)
    (kk : ∀ (u : S) (t : State) (H1 : Heap) (locs1 : List Loc), t.heap = H1 → s.vm.Alike t.vm → post u → B u t → H.size ≤ H1.size → (∀ q : Nat, q < H.size → ¬ A1 q → H1[q]? = H[q]?) → va_S A0 H0 H1 locs1 → W p l e R s m args below meth c H1 locs1 (cells + mc) (slots + ms) Q (F0 m (pc + 3) ls (rest))) : W p l e R s m args below meth c H locs cells slots Q (F0 m pc ls st0) := by
  intro T hT X
  rcases hr T hT X with ⟨v, st₀, t, T', L, h0, X', hL, e1, e2, ⟨⟨u, hv, hp, hb⟩, hF⟩, st⟩ | ⟨q, st₀, t, T', L, E, ce, h0, X', hL, e1, e2, ⟨u, hp, hb, hF⟩, hce, hcv, hcl, st⟩
  · cases hv
    obtain ⟨k1, k2, k3⟩ := vx_keep h0 e1 hS hA hf hL hF
    obtain ⟨t2, a1, b1⟩ := kk u t T'.heap (locs ++ L) e1.symm (by rw [← e2]; exact X'.warmed.alike) hp hb k1 k2 k3 T' rfl X'
    exact ⟨t2, st t2 a1, b1⟩
  · obtain ⟨k1, k2, k3⟩ := vx_keep h0 e1 hS hAX hf hL hF
    obtain ⟨t2, a1, b1⟩ := kx E ce q u t T'.heap (locs ++ L) e1.symm (by rw [← e2]; exact X'.warmed.alike) hp hb k1 k2 k3 (by rw [e1]; exact hce) hcv hcl T' rfl X'
    exact ⟨t2, st.trans a1, b1⟩
/-- caught by the row x of this method's table; the rows ahead don't take it -/
theorem vx_catch {own name : String} {E : String} {ce : Cell} {q : Addr} (hown : s.vm.findClass own = some m.cls) (pre : List ExceptionTableEntry) (x : ExceptionTableEntry) (suf : List ExceptionTableEntry) (hsplit : c.exceptionTable.toList = pre ++ x :: suf)
    (hpass : ∀ z ∈ pre, covers z pc = false ∨ (z.catchType ≠ 0 ∧ ∃ nm : String, (Cond.classLink own z.catchType nm).before args s = true ∧ va_Nc E nm s)) (hx : covers x pc = true) (h0 : x.catchType ≠ 0)
    (hlink : (Cond.classLink own x.catchType name).before args s = true) (hcast : (Cond.castable E name).before args s = true) (hcell : H[q]? = some ce) (hv : ce.vm = .none) (hcl : s.vm.findClass E = some ce.cls)
    (kk : W p l e R s m args below meth c H locs cells slots Q (F0 m x.handlerPc ls [.ref q])) : vx_W p l e R s m args below meth c H locs cells slots Q (F0 m pc ls rest) q := by
  intro T hT X
  have hpl : e.platform.magicAccessors = ({} : Platform).magicAccessors := by rw [X.admits.platform]
  obtain ⟨c3, c4, hc3, hc4, hasg⟩ := Cond.castable_spec hcast
  cases Option.some.inj (hc3.symm.trans hcl)
  obtain ⟨c5, hc5, hcl5⟩ := Cond.classLink_spec hown hlink e.platform hpl
  cases Option.some.inj (hc4.symm.trans hc5)
  obtain ⟨vm', X', st⟩ := X.thenCaughtThrough q (g := F0 m pc ls rest) rfl (Steps.refl _) (by rw [hT]; exact hcell) (by rw [hv]; rfl) (by obtain ⟨k9, h9, -⟩ := Vm.findClass_spec hcl; exact ⟨k9, h9⟩) pre x suf hsplit
    (fun z hz => by
      rcases hpass z hz with h | ⟨hz0, nm, hl1, hn1⟩
      · exact Or.inl h
      · obtain ⟨c6, hc6, hcl6⟩ := Cond.classLink_spec hown hl1 e.platform hpl
        obtain ⟨a8, b8, h1, h2, h3⟩ := hn1
        cases Option.some.inj (h1.symm.trans hcl)
        cases Option.some.inj (h2.symm.trans hc6)
        exact Or.inr ⟨hz0, _, hcl6, h3⟩) hx (Or.inr ⟨h0, c4, hcl5, hasg⟩)
  obtain ⟨t, a1, b1⟩ := kk (T.setVm vm') hT X'
  exact ⟨t, st.trans a1, b1⟩
end Rows
section Ends
variable {p : Program} {l : Launch} {e : Env} {R : Room} {s : State} {m : MethodId} {args : Array Value} {below : List Frame} {meth : Method} {c : Code} {H : Heap} {locs : List Loc} {cells slots : Nat} {Q : State → Prop}
variable {mc ms : Nat} {free : Addr → Prop} {A0 A1 : Nat → Prop} {H0 : Heap} {a : Array Value} {ls : Array Slot} {st0 rest : List Value}
variable {Qc : Array Value → State → Outcome → State → Prop} {XC : String → State → State → Prop}
/-- what a body that may throw owes at its end -/
def vx_MQ (below : List Frame) (Qc : Array Value → State → Outcome → State → Prop) (XC : String → State → State → Prop) (a : Array Value) (s : State) (mc ms : Nat) (free : Addr → Prop) : State → Prop := fun t =>
  ∃ o, t.status = .running ∧ Ended t below o ∧ vx_Q Qc XC mc ms free a s o t
theorem vx_ret {g : JFrame} {mc ms : Nat} (k : W p l e R s m args below meth c H locs cells slots (MQ below Qc args s mc ms free) g) : W p l e R s m args below meth c H locs cells slots (vx_MQ below Qc XC args s mc ms free) g := by
  intro T hT X
  obtain ⟨t, a1, o, b1, b2, b3, b4⟩ := k T hT X
  exact ⟨t, a1, o, b1, b2, Or.inl ⟨b3, b4⟩⟩
/-- not caught here: it goes on to the caller -/
theorem vx_widen {g : JFrame} {q : Addr} {k n : Nat} (h1 : cells ≤ k) (h2 : slots ≤ n) (kk : vx_W p l e R s m args below meth c H locs k n Q g q) : vx_W p l e R s m args below meth c H locs cells slots Q g q := fun T hT X => kk T hT (stand_widen X h1 h2)
theorem vx_out {pc : Nat} {E : String} {ce : Cell} {q : Addr} {mc ms : Nat} (hout : ∀ x ∈ c.exceptionTable.toList, covers x pc = false) (hlocks : meth.locks = false) (hcell : H[q]? = some ce) (hv : ce.vm = .none) (hcl : s.vm.findClass E = some ce.cls)
    (hx : ∀ t : State, t.heap = H → s.vm.Alike t.vm → XC E s t) (hf : ∀ z ∈ locs, free z.base) (hc : cells ≤ mc) (hs : slots ≤ ms) :
    vx_W p l e R s m args below meth c H locs cells slots (vx_MQ below Qc XC args s mc ms free) (F0 m pc ls rest) q := by
  intro T hT X
  obtain ⟨st1, hrun, hend, hW, hsm⟩ := X.leaveThrown q (g := F0 m pc ls rest) rfl rfl rfl hout hlocks
  have hcell9 : (T.setFrames (.throwing q :: below)).heap[q]? = some ce := by
    show T.heap[q]? = some ce
    rw [hT]; exact hcell
  exact ⟨_, st1, .threw q, hrun, hend, Or.inr ⟨q, rfl, E, ce, locs, hx _ hT hW.alike, hcell9, hv, hcl, hW, hsm.mono hc hs, hf⟩⟩
theorem vx_frame {U : State} {k n : Nat} (h : s.sameButNew ({ U with vm := s.vm } : State) locs k n) : s.heap.size ≤ U.heap.size ∧ ∀ q : Nat, q < s.heap.size → (∀ z ∈ locs, z.base ≠ q) → U.heap[q]? = s.heap[q]? := by
  obtain ⟨-, h2, -, -, -, h6⟩ := h
  refine ⟨h2, fun q hq hz => ?_⟩
  obtain ⟨c9, e1, e2, e3, e4⟩ := h6 q _ (Array.getElem?_eq_getElem hq)
  have hs : c9.slots = (s.heap[q]).slots := Array.ext_getElem? fun i => e4 i fun hm => hz _ hm rfl
  have h9 : c9 = s.heap[q] := by
    rw [hs] at e2
    exact e2
  have e5 : U.heap[q]? = some c9 := e1
  rw [e5, h9, Array.getElem?_eq_getElem hq]
/-- the words of a throw but the four that speak of the heap -/
def vx_no (w : Cond) : Bool := decide (w ≠ .isRef (.static Bundle.tN "UNASSIGNED_STACK" Bundle.steD)) && decide (w ≠ .isRef (.static Bundle.tN "SUPPRESSED_SENTINEL" Bundle.listD)) && decide (w ≠ .laysStatic Bundle.tN "UNASSIGNED_STACK" Bundle.steD) && decide (w ≠ .laysStatic Bundle.tN "SUPPRESSED_SENTINEL" Bundle.listD)
def vx_at0 (own : String) (ic : Nat) (X : String) (names : List String) : List Cond := (Bundle.ownAtoms0 own ic X names).filter vx_no
def vx_atS (own : String) (ic : Nat) (X : String) (names : List String) : List Cond := (Bundle.ownAtoms own ic X names).filter vx_no
/-- a word that the tables alone decide, or a good one -/
def vx_ot (w : Cond) : Bool := w.onTables || goodWord w
theorem vx_ot_at {args a' : Array Value} {s U : State} {w : Cond} (hW : s.WarmedH U.vm) (hvm : s.vm = U.vm) (hg : vx_ot w = true) (h : w.before args s = true) : w.before a' U = true := by
  simp only [vx_ot, Bool.or_eq_true] at hg
  rcases hg with hg | hg
  · exact va_tabs hg hvm h
  · exact word_at hW (good_of_word hg) h
/-- a list's words: the good ones out of the method's own list, the others by premises of their own -/
theorem vx_hat {args : Array Value} {s : State} {L B : List Cond} (h1 : ∀ w ∈ L.filter goodWord, w.before args s = true) (h2 : ∀ w ∈ L.filter (fun w => !goodWord w), w ∈ B) (h3 : ∀ w ∈ B, w.before args s = true) : ∀ w ∈ L, w.before args s = true := by
  intro w hw
  by_cases g : goodWord w = true
  · exact h1 w (List.mem_filter.mpr ⟨hw, g⟩)
  · refine h3 w (h2 w (List.mem_filter.mpr ⟨hw, ?_⟩))
    show (!goodWord w) = true
    cases hgw : goodWord w
    · rfl
    · exact absurd hgw g
theorem vx_c {args : Array Value} {s : State} {w : Cond} {B : List Cond} (h : w.before args s = true) (t : ∀ w ∈ B, w.before args s = true) : ∀ w' ∈ w :: B, w'.before args s = true := fun w' h' => (List.mem_cons.mp h').elim (fun e => by rw [e]; exact h) (t w')
theorem vx_n {args : Array Value} {s : State} : ∀ w ∈ ([] : List Cond), w.before args s = true := fun _ h => nomatch h
theorem vx_own {args : Array Value} {s : State} {L : List Cond} (h1 : ∀ w ∈ L.filter vx_no, w.before args s = true)
    (hU : (Cond.isRef (.static Bundle.tN "UNASSIGNED_STACK" Bundle.steD)).before args s = true) (hN : (Cond.isRef (.static Bundle.tN "SUPPRESSED_SENTINEL" Bundle.listD)).before args s = true)
    (lU : (Cond.laysStatic Bundle.tN "UNASSIGNED_STACK" Bundle.steD).before args s = true) (lN : (Cond.laysStatic Bundle.tN "SUPPRESSED_SENTINEL" Bundle.listD).before args s = true) : ∀ w ∈ L, w.before args s = true := by
  intro w hw
  by_cases e1 : w = .isRef (.static Bundle.tN "UNASSIGNED_STACK" Bundle.steD)
  · rw [e1]; exact hU
  · by_cases e2 : w = .isRef (.static Bundle.tN "SUPPRESSED_SENTINEL" Bundle.listD)
    · rw [e2]; exact hN
    · by_cases e3 : w = .laysStatic Bundle.tN "UNASSIGNED_STACK" Bundle.steD
      · rw [e3]; exact lU
      · by_cases e4 : w = .laysStatic Bundle.tN "SUPPRESSED_SENTINEL" Bundle.listD
        · rw [e4]; exact lN
        · exact h1 w (List.mem_filter.mpr ⟨hw, by unfold vx_no; rw [decide_eq_true e1, decide_eq_true e2, decide_eq_true e3, decide_eq_true e4]; rfl⟩)
/-- where a static field lies, its class's statics cell in H -/
def vx_L (C n d : String) (A : Nat → Prop) (U : State) (H : Heap) : Prop := ∃ (c : ClassId) (k : Class) (i : Nat) (f : Field) (a : Nat) (cell : Cell), U.vm.findClass C = some c ∧ U.fieldFound? C n d = some (c, k, i, f) ∧ f.isStatic = true ∧ k.statics = some a ∧ H[a]? = some cell ∧ cell.vm.isStatics = true ∧ cell.cls = c ∧ f.slot < cell.slots.size ∧ k.staticTypes[f.slot]? = some f.type ∧ ¬ A a
theorem vx_L.moved {C n d : String} {A : Nat → Prop} {u U : State} {H : Heap} (hvm : u.vm.Alike U.vm) (h : vx_L C n d A u H) : vx_L C n d A U H := by
  obtain ⟨c, k, i, f, a, cell, h1, h2, h3, h4, h5, h6, h7, h8, h9, h10⟩ := h
  obtain ⟨k', hi', he⟩ := State.fieldFound?_setVm hvm h2
  exact ⟨c, k', i, f, a, cell, by rw [hvm.findClass]; exact h1, hi', h3, by rw [he]; exact h4, h5, h6, h7, h8, by rw [he]; exact h9, h10⟩
theorem vx_L.kept {C n d : String} {A : Nat → Prop} {U : State} {H H1 : Heap} (h : vx_L C n d A U H) (hq : ∀ a : Nat, a < H.size → ¬ A a → H1[a]? = H[a]?) : vx_L C n d A U H1 := by
  obtain ⟨c, k, i, f, a, cell, h1, h2, h3, h4, h5, h6, h7, h8, h9, h10⟩ := h
  exact ⟨c, k, i, f, a, cell, h1, h2, h3, h4, by rw [hq a (Array.getElem?_eq_some_iff.mp h5).1 h10]; exact h5, h6, h7, h8, h9, h10⟩
theorem vx_L.narrow {C n d : String} {A B : Nat → Prop} {U : State} {H : Heap} (h : vx_L C n d A U H) (hAB : ∀ q, B q → A q) : vx_L C n d B U H := by
  obtain ⟨c, k, i, f, a, cell, h1, h2, h3, h4, h5, h6, h7, h8, h9, h10⟩ := h
  exact ⟨c, k, i, f, a, cell, h1, h2, h3, h4, h5, h6, h7, h8, h9, fun z => h10 (hAB _ z)⟩
theorem vx_L.word {C n d : String} {A : Nat → Prop} {s : State} {args : Array Value} (h : vx_L C n d A s s.heap) : (Cond.laysStatic C n d).before args s = true := by
  obtain ⟨c, k, i, f, a, cell, h1, h2, h3, h4, h5, h6, h7, h8, h9, -⟩ := h
  show (Cond.laysStatic C n d).holds args s none s [] = true
  exact Cond.laysStatic_of h1 h2 h3 h4 h5 h6 h7 h8 h9
/-- .. and what it holds: null or some reference -/
def vx_Zq (C n d : String) (A : Nat → Prop) (U : State) (H : Heap) : Prop := va_Zq C n d A U H ∧ vx_L C n d A U H
theorem vx_Zq.moved {C n d : String} {A : Nat → Prop} {u U : State} {H : Heap} (hvm : u.vm.Alike U.vm) (h : vx_Zq C n d A u H) : vx_Zq C n d A U H := ⟨va_Zq.moved hvm h.1, vx_L.moved hvm h.2⟩
theorem vx_Zq.kept {C n d : String} {A : Nat → Prop} {U : State} {H H1 : Heap} (h : vx_Zq C n d A U H) (hq : ∀ a : Nat, a < H.size → ¬ A a → H1[a]? = H[a]?) : vx_Zq C n d A U H1 := ⟨va_Zq.kept h.1 hq, vx_L.kept h.2 hq⟩
theorem vx_Zq.narrow {C n d : String} {A B : Nat → Prop} {U : State} {H : Heap} (h : vx_Zq C n d A U H) (hAB : ∀ q, B q → A q) : vx_Zq C n d B U H := ⟨va_Zq.narrow h.1 hAB, vx_L.narrow h.2 hAB⟩
theorem vx_Zqof {args : Array Value} {s : State} {C n d : String} {A : Nat → Prop} (hl : (Cond.laysStatic C n d).before args s = true) (hini : (Cond.initialized C).before args s = true) (h : (Cond.isRef (.static C n d)).before args s = true) (hA : ∀ a : Nat, a < s.heap.size → ¬ A a) : vx_Zq C n d A s s.heap := by
  refine ⟨va_Zqof hl hini h hA, ?_⟩
  obtain ⟨c, k, i, f, a, cell, h1, h2, h3, h4, h5, h6, h7, h8, h9⟩ := Cond.laysStatic_spec hl
  exact ⟨c, k, i, f, a, cell, h1, h2, h3, h4, h5, h6, h7, h8, h9, hA a (Array.getElem?_eq_some_iff.mp h5).1⟩
theorem vx_isRef {C n d : String} {v : Value} {A : Nat → Prop} {s : State} {args : Array Value} (h : va_Z C n d v A s s.heap) (hv : v.isRef = true) : (Cond.isRef (.static C n d)).before args s = true := by
  obtain ⟨cf, kf, fi, f, a, cell, h1, h2, h3, h4, h5, h6, h7, -⟩ := h
  have he : (Term.static C n d).eval args s none [] s = some v := by
    simp [Term.eval, State.fieldNamed?, h1, h2, h4, h5, h6, h7]
  simp only [Cond.before, Cond.holds, Cond.value, he]
  cases v <;> simp_all [Value.isRef]
theorem vx_isRefq {C n d : String} {A : Nat → Prop} {s : State} {args : Array Value} (h : va_Zq C n d A s s.heap) : (Cond.isRef (.static C n d)).before args s = true := by
  rcases h with h | ⟨t, h⟩
  · exact vx_isRef h rfl
  · exact vx_isRef h rfl
/-- the same frame, seen from here: as if the method were called anew in this heap -/
theorem vx_rebase {T : State} (X : Stand p l e R s m args below meth c T locs cells slots) {R' : Room} (hf : R'.frames ≤ R.frames) (hl : R'.locals ≤ R.locals) (hc : cells + R'.cells ≤ R.cells) (hs : slots + R'.slots ≤ R.slots) :
    Stand p l e R' ((T.setVm s.vm).setFrames (.invoking m args :: below)) m args below meth c T [] 0 0 := by
  have htop : (T.setVm s.vm).topJava?.isSome := X.here.top
  have hF : ((T.setVm s.vm).setFrames (.invoking m args :: below)).frames = .invoking m args :: below := State.frames_setFrames _ (State.cur_lt_of_top htop)
  obtain ⟨g₀, hg0⟩ := Option.isSome_iff_exists.mp htop
  obtain ⟨r, hr⟩ := State.topJava?_eq_some.mp hg0
  have hl9 : e.platform.stackLimits (T.setVm s.vm).me = e.platform.stackLimits s.me := X.limits
  have hb9 : (T.setVm s.vm).me.stackBytes = s.me.stackBytes := X.bytes
  refine ⟨X.admits, X.cas, X.clock, hF, ?_, X.hears, X.method, X.code, X.here, X.tail, X.warmed, ?_, ?_, ?_⟩
  · have h := X.room
    have hU : ((T.setVm s.vm).setFrames (.invoking m args :: below)).localsInUse = s.localsInUse := by
      rw [State.localsInUse_invoking hF (meth := meth) (c := c) X.method X.code, State.localsInUse_invoking X.frames X.method X.code]
    simp only [State.hasRoom, Bool.and_eq_true, decide_eq_true_eq] at h ⊢
    obtain ⟨⟨⟨⟨h1, h2, h3, h4, h5, h6⟩, h7⟩, h8⟩, h9⟩ := h
    rw [X.frames, List.length_cons] at h2 h3
    have q1 := X.heapSize
    have q2 := X.used
    simp only [hF, hU, List.length_cons, State.stackLimits_setFrames, State.stackBytes_setFrames, hl9, hb9]
    refine ⟨⟨⟨⟨by omega, by omega, by omega, by omega, by omega, h6⟩, ?_⟩, ?_⟩, X.book⟩
    · show T.heap.size + R'.cells ≤ e.platform.maxCells
      omega
    · show T.slotsUsed + R'.slots ≤ e.platform.maxSlots
      omega
  · rw [State.stackLimits_setFrames]; rfl
  · rw [State.stackBytes_setFrames]; rfl
  · refine ⟨?_, Nat.le_refl _, Nat.le_refl _, ?_, ?_, fun a c9 h9 => ⟨c9, h9, rfl, rfl, fun _ _ => rfl⟩⟩
    · obtain ⟨t, ht, -⟩ := State.frames_cons hr
      show T.setVm s.vm = { ((T.setVm s.vm).setFrames (.invoking m args :: below)).setFrames (T.setVm s.vm).frames with heap := T.heap, slotsUsed := T.slotsUsed }
      rw [State.setFrames_setFrames, State.setFrames_self ht]
      rfl
    · show T.slotsUsed = T.slotsUsed + ((T.heap.toList.drop T.heap.size).map (·.slots.size)).sum
      rw [List.drop_eq_nil_of_le (Nat.le_of_eq Array.length_toList)]
      rfl
    · show ((T.heap.toList.drop T.heap.size).map (·.slots.size)).sum ≤ 0
      rw [List.drop_eq_nil_of_le (Nat.le_of_eq Array.length_toList)]
      exact Nat.le_refl _
/-- 'throw new E()': new; dup; invokespecial; athrow -/
theorem vx_throw0 {cc : ByteArray} {pc : Nat} (hexec : p.tables.exec = Jvm.exec) (hb : c.code = cc) (hl : l.stackTraces = false) {own cls : String} {names : List String} {ik ic mc ms : Nat} {A : Nat → Prop}
    (hown : s.vm.findClass own = some m.cls) (hcls : Bundle.fit cls = true) (hnames : ∀ n ∈ names, Bundle.fit n = true)
    (hk : (Cond.classLink own ik cls).before args s = true) (hini : (Cond.initialized cls).before args s = true) (hat : ∀ w ∈ vx_at0 own ic cls names, w.before args s = true)
    (hgood : ∀ w ∈ Cond.classLink own ik cls :: Cond.initialized cls :: vx_at0 own ic cls names, vx_ot w = true)
    (hU : vx_Zq Bundle.tN "UNASSIGNED_STACK" Bundle.steD A s s.heap) (hN : vx_Zq Bundle.tN "SUPPRESSED_SENTINEL" Bundle.listD A s s.heap) (hS : va_S A s.heap H locs) (hsize : ls.size = c.maxLocals)
    (d0 : decode cc pc = .ok (.new ik, 3)) (d3 : decode cc (pc + 3) = .ok (.dup, 1)) (d4 : decode cc (pc + 4) = .ok (.invokespecial ic, 3)) (d7 : decode cc (pc + 7) = .ok (.athrow, 1))
    (hout : ∀ x ∈ c.exceptionTable.toList, covers x (pc + 7) = false)
    (hRframes : names.length + 3 < R.frames) (hRlocals : (rest.map fun v => v.category).sum + (13 * (names.length + 1) + 42) ≤ R.locals) (hRcells : cells + 1 ≤ R.cells) (hRslots : slots + 6 ≤ R.slots) (hlocks : meth.locks = false)
    (hx : ∀ t : State, s.vm.Alike t.vm → H.size ≤ t.heap.size → (∀ q : Nat, q < H.size → t.heap[q]? = H[q]?) → XC cls s t)
    (hf : ∀ z ∈ locs, free z.base) (hc : cells + 1 ≤ mc) (hs : slots + 6 ≤ ms) :
    W p l e R s m args below meth c H locs cells slots (vx_MQ below Qc XC args s mc ms free) (F0 m pc ls rest) := by
  intro T hT X
  have htr : e.platform.stackTraces = false := (show e.platform.stackTraces = l.stackTraces by rw [X.admits.platform]).trans hl
  have Y := vx_rebase X (R' := { frames := R.frames, locals := R.locals, cells := 1, slots := 6 }) (Nat.le_refl _) (Nat.le_refl _) hRcells hRslots
  obtain ⟨s', hA⟩ : ∃ z, z = (T.setVm s.vm).setFrames (.invoking m args :: below) := ⟨_, rfl⟩
  rw [← hA] at Y
  have hvm : s'.vm = s.vm := by rw [hA]; rfl
  have hhp : s'.heap = H := by rw [hA]; exact hT
  have hW0 : s.WarmedH s'.vm := by rw [hvm]; exact State.WarmedH.refl s
  have hat' : ∀ w ∈ vx_at0 own ic cls names, w.before args s' = true := fun w hw => vx_ot_at hW0 hvm.symm (hgood w (List.mem_cons_of_mem _ (List.mem_cons_of_mem _ hw))) (hat w hw)
  have hk' : (Cond.classLink own ik cls).before args s' = true := vx_ot_at hW0 hvm.symm (hgood _ List.mem_cons_self) hk
  have hini' : (Cond.initialized cls).before args s' = true := vx_ot_at hW0 hvm.symm (hgood _ (List.mem_cons_of_mem _ List.mem_cons_self)) hini
  have hU' : vx_Zq Bundle.tN "UNASSIGNED_STACK" Bundle.steD A s' s'.heap := by rw [hhp]; exact vx_Zq.moved hW0.alike (hU.kept hS.2.1)
  have hN' : vx_Zq Bundle.tN "SUPPRESSED_SENTINEL" Bundle.listD A s' s'.heap := by rw [hhp]; exact vx_Zq.moved hW0.alike (hN.kept hS.2.1)
  have h : ∀ w ∈ Bundle.ownAtoms0 own ic cls names, w.before args s' = true := vx_own hat' (vx_isRefq hU'.1) (vx_isRefq hN'.1) hU'.2.word hN'.2.word
  have hown' : s'.vm.findClass own = some m.cls := by rw [hvm]; exact hown
  have hins : (Cond.instantiable cls 6).before args s' = true := h _ (by simp [Bundle.ownAtoms0])
  obtain ⟨vm₁, cX, kX, hfX, hkX, -, -, X₁, st1⟩ := Y.newCold hexec (own := own) (C := cls) (index := ik) (n := 6) hown' hk' hins hini'
    (g := F0 m pc ls rest) rfl (by rw [hb]; exact d0) (Nat.le_refl _) (Nat.le_refl _)
  generalize hT1 : (T.setVm vm₁).pushCell { cls := cX, slots := kX.instanceTypes.map defaultValue, vm := .none } = T1 at X₁ st1
  have hcat : (Value.ref T.heap.size).category = 1 := rfl
  have hcellA : T1.heap[T.heap.size]? = some (freshCell cX kX) := by rw [← hT1]; exact State.heap_pushCell_size _ _
  have d3' : decode c.code (pc + 3) = .ok (.dup, 1) := by rw [hb]; exact d3
  obtain ⟨U, hsteps, hrun, hend, hW, hsame, ce, hce, hO⟩ := X₁.ctorThrow0 hexec htr (own := own) (cls := cls) (names := names) (ic := ic) hown' hcls hnames h (fun x hx => nomatch hx) hfX hkX hcellA (by rw [hhp, hT]; exact Nat.le_refl _)
    (g := { method := m, pc := pc + 4, locals := ls, stack := .ref T.heap.size :: .ref T.heap.size :: rest, locked := none }) rfl hsize rfl rfl (rest := rest) rfl
    (by rw [hb]; exact d4) (by rw [hb]; exact d7) hout hRframes (by simp only [List.map_cons, List.sum_cons, hcat]; omega) hlocks
  obtain ⟨f1, f2⟩ := vx_frame hsame
  rw [hhp] at f1 f2
  have hWs : s.WarmedH U.vm := State.WarmedH.trans hW0 hW
  have hcl : s.vm.findClass cls = some ce.cls := by
    have h9 := hO.cls
    rw [hvm] at h9
    exact h9
  have hall : s.sameButNew ({ U with vm := s.vm } : State) locs mc ms := by
    subst hA
    obtain ⟨e1, e2⟩ := hsame
    rw [State.setFrames_setFrames] at e1
    have h2 : (T.setVm s.vm).sameButNew ({ U with vm := s.vm } : State) [] (0 + 1) (0 + 6) := ⟨e1, e2⟩
    have h3 := X.same.trans h2
    rw [List.append_nil] at h3
    exact h3.mono hc hs
  refine ⟨U, ?_, .threw T.heap.size, hrun, hend, Or.inr ⟨T.heap.size, rfl, cls, ce, locs, hx U hWs.alike f1 (fun q hq => f2 q hq (fun z hz => nomatch hz)), hce, hO.vm, hcl, hWs, hall, hf⟩⟩
  refine st1 _ ?_
  show Steps p.tables e below (T1.setTop { method := m, pc := pc + 3, locals := ls, stack := .ref T.heap.size :: rest, locked := none }) _
  jvm_step X₁.here [X₁.here.top, hexec, d3', Value.category]
  exact hsteps
/-- 'throw new E("text")': new; dup; ldc; invokespecial; athrow -/
theorem vx_throwS {cc : ByteArray} {pc : Nat} (hexec : p.tables.exec = Jvm.exec) (hb : c.code = cc) (hl : l.stackTraces = false) {own cls text : String} {names : List String} {ik is ic mc ms sa : Nat} {A : Nat → Prop}
    (hown : s.vm.findClass own = some m.cls) (hcls : Bundle.fit cls = true) (hnames : ∀ n ∈ names, Bundle.fit n = true)
    (hk : (Cond.classLink own ik cls).before args s = true) (hini : (Cond.initialized cls).before args s = true) (hstr : vk_R own is text sa s) (hat : ∀ w ∈ vx_atS own ic cls names, w.before args s = true)
    (hgood : ∀ w ∈ Cond.classLink own ik cls :: Cond.initialized cls :: vx_atS own ic cls names, vx_ot w = true)
    (hU : vx_Zq Bundle.tN "UNASSIGNED_STACK" Bundle.steD A s s.heap) (hN : vx_Zq Bundle.tN "SUPPRESSED_SENTINEL" Bundle.listD A s s.heap) (hS : va_S A s.heap H locs) (hsize : ls.size = c.maxLocals)
    (d0 : decode cc pc = .ok (.new ik, 3)) (d3 : decode cc (pc + 3) = .ok (.dup, 1)) (d4 : decode cc (pc + 4) = .ok (.ldc is, 2)) (d6 : decode cc (pc + 6) = .ok (.invokespecial ic, 3)) (d9 : decode cc (pc + 9) = .ok (.athrow, 1))
    (hout : ∀ x ∈ c.exceptionTable.toList, covers x (pc + 9) = false)
    (hRframes : names.length + 3 < R.frames) (hRlocals : (rest.map fun v => v.category).sum + (13 * (names.length + 1) + 43) ≤ R.locals) (hRcells : cells + 1 ≤ R.cells) (hRslots : slots + 6 ≤ R.slots) (hlocks : meth.locks = false)
    (hx : ∀ t : State, s.vm.Alike t.vm → H.size ≤ t.heap.size → (∀ q : Nat, q < H.size → t.heap[q]? = H[q]?) → XC cls s t)
    (hf : ∀ z ∈ locs, free z.base) (hc : cells + 1 ≤ mc) (hs : slots + 6 ≤ ms) :
    W p l e R s m args below meth c H locs cells slots (vx_MQ below Qc XC args s mc ms free) (F0 m pc ls rest) := by
  intro T hT X
  have htr : e.platform.stackTraces = false := (show e.platform.stackTraces = l.stackTraces by rw [X.admits.platform]).trans hl
  have Y := vx_rebase X (R' := { frames := R.frames, locals := R.locals, cells := 1, slots := 6 }) (Nat.le_refl _) (Nat.le_refl _) hRcells hRslots
  obtain ⟨s', hA⟩ : ∃ z, z = (T.setVm s.vm).setFrames (.invoking m args :: below) := ⟨_, rfl⟩
  rw [← hA] at Y
  have hvm : s'.vm = s.vm := by rw [hA]; rfl
  have hhp : s'.heap = H := by rw [hA]; exact hT
  have hW0 : s.WarmedH s'.vm := by rw [hvm]; exact State.WarmedH.refl s
  have hat' : ∀ w ∈ vx_atS own ic cls names, w.before args s' = true := fun w hw => vx_ot_at hW0 hvm.symm (hgood w (List.mem_cons_of_mem _ (List.mem_cons_of_mem _ hw))) (hat w hw)
  have hk' : (Cond.classLink own ik cls).before args s' = true := vx_ot_at hW0 hvm.symm (hgood _ List.mem_cons_self) hk
  have hini' : (Cond.initialized cls).before args s' = true := vx_ot_at hW0 hvm.symm (hgood _ (List.mem_cons_of_mem _ List.mem_cons_self)) hini
  have hU' : vx_Zq Bundle.tN "UNASSIGNED_STACK" Bundle.steD A s' s'.heap := by rw [hhp]; exact vx_Zq.moved hW0.alike (hU.kept hS.2.1)
  have hN' : vx_Zq Bundle.tN "SUPPRESSED_SENTINEL" Bundle.listD A s' s'.heap := by rw [hhp]; exact vx_Zq.moved hW0.alike (hN.kept hS.2.1)
  have h : ∀ w ∈ Bundle.ownAtoms own ic cls names, w.before args s' = true := vx_own hat' (vx_isRefq hU'.1) (vx_isRefq hN'.1) hU'.2.word hN'.2.word
  have hown' : s'.vm.findClass own = some m.cls := by rw [hvm]; exact hown
  have hins : (Cond.instantiable cls 6).before args s' = true := h _ (by simp [Bundle.ownAtoms])
  obtain ⟨vm₁, cX, kX, hfX, hkX, -, -, X₁, st1⟩ := Y.newCold hexec (own := own) (C := cls) (index := ik) (n := 6) hown' hk' hins hini'
    (g := F0 m pc ls rest) rfl (by rw [hb]; exact d0) (Nat.le_refl _) (Nat.le_refl _)
  generalize hT1 : (T.setVm vm₁).pushCell { cls := cX, slots := kX.instanceTypes.map defaultValue, vm := .none } = T1 at X₁ st1
  have hcat : (Value.ref T.heap.size).category = 1 := rfl
  have hcellA : T1.heap[T.heap.size]? = some (freshCell cX kX) := by rw [← hT1]; exact State.heap_pushCell_size _ _
  have d3' : decode c.code (pc + 3) = .ok (.dup, 1) := by rw [hb]; exact d3
  have d4' : decode c.code (pc + 4) = .ok (.ldc is, 2) := by rw [hb]; exact d4
  have hstr' : vk_R own is text sa s' := vk_R.warm hW0 hstr
  obtain ⟨U, hsteps, hrun, hend, hW, hsame, ce, hce, hO⟩ := X₁.ctorThrowS hexec htr (own := own) (cls := cls) (names := names) (ic := ic) hown' hcls hnames h (fun x hx => nomatch hx) hfX hkX hcellA (by rw [hhp, hT]; exact Nat.le_refl _) (msg := .ref sa) rfl
    (g := { method := m, pc := pc + 6, locals := ls, stack := .ref sa :: .ref T.heap.size :: .ref T.heap.size :: rest, locked := none }) rfl hsize rfl rfl (rest := rest) rfl
    (by rw [hb]; exact d6) (by rw [hb]; exact d9) hout hRframes (by simp only [List.map_cons, List.sum_cons, hcat]; omega) hlocks
  obtain ⟨f1, f2⟩ := vx_frame hsame
  rw [hhp] at f1 f2
  have hWs : s.WarmedH U.vm := State.WarmedH.trans hW0 hW
  have hcl : s.vm.findClass cls = some ce.cls := by
    have h9 := hO.cls
    rw [hvm] at h9
    exact h9
  have hall : s.sameButNew ({ U with vm := s.vm } : State) locs mc ms := by
    subst hA
    obtain ⟨e1, e2⟩ := hsame
    rw [State.setFrames_setFrames] at e1
    have h2 : (T.setVm s.vm).sameButNew ({ U with vm := s.vm } : State) [] (0 + 1) (0 + 6) := ⟨e1, e2⟩
    have h3 := X.same.trans h2
    rw [List.append_nil] at h3
    exact h3.mono hc hs
  refine ⟨U, ?_, .threw T.heap.size, hrun, hend, Or.inr ⟨T.heap.size, rfl, cls, ce, locs, hx U hWs.alike f1 (fun q hq => f2 q hq (fun z hz => nomatch hz)), hce, hO.vm, hcl, hWs, hall, hf⟩⟩
  refine st1 _ ?_
  show Steps p.tables e below (T1.setTop { method := m, pc := pc + 3, locals := ls, stack := .ref T.heap.size :: rest, locked := none }) _
  jvm_step X₁.here [X₁.here.top, hexec, d3', Value.category]
  exact X₁.ldcString hexec (own := own) (text := text) (index := is) (a := sa) hown' hstr'.1 hstr'.2
    (g := { method := m, pc := pc + 4, locals := ls, stack := .ref T.heap.size :: .ref T.heap.size :: rest, locked := none }) rfl d4' _ hsteps
/-- 'throw new E("text")', the text by a wide index -/
theorem vx_throwSW {cc : ByteArray} {pc : Nat} (hexec : p.tables.exec = Jvm.exec) (hb : c.code = cc) (hl : l.stackTraces = false) {own cls text : String} {names : List String} {ik is ic mc ms sa : Nat} {A : Nat → Prop}
    (hown : s.vm.findClass own = some m.cls) (hcls : Bundle.fit cls = true) (hnames : ∀ n ∈ names, Bundle.fit n = true)
    (hk : (Cond.classLink own ik cls).before args s = true) (hini : (Cond.initialized cls).before args s = true) (hstr : vk_R own is text sa s) (hat : ∀ w ∈ vx_atS own ic cls names, w.before args s = true)
    (hgood : ∀ w ∈ Cond.classLink own ik cls :: Cond.initialized cls :: vx_atS own ic cls names, vx_ot w = true)
    (hU : vx_Zq Bundle.tN "UNASSIGNED_STACK" Bundle.steD A s s.heap) (hN : vx_Zq Bundle.tN "SUPPRESSED_SENTINEL" Bundle.listD A s s.heap) (hS : va_S A s.heap H locs) (hsize : ls.size = c.maxLocals)
    (d0 : decode cc pc = .ok (.new ik, 3)) (d3 : decode cc (pc + 3) = .ok (.dup, 1)) (d4 : decode cc (pc + 4) = .ok (.ldc_w is, 3)) (d7 : decode cc (pc + 7) = .ok (.invokespecial ic, 3)) (d10 : decode cc (pc + 10) = .ok (.athrow, 1))
    (hout : ∀ x ∈ c.exceptionTable.toList, covers x (pc + 10) = false)
    (hRframes : names.length + 3 < R.frames) (hRlocals : (rest.map fun v => v.category).sum + (13 * (names.length + 1) + 43) ≤ R.locals) (hRcells : cells + 1 ≤ R.cells) (hRslots : slots + 6 ≤ R.slots) (hlocks : meth.locks = false)
    (hx : ∀ t : State, s.vm.Alike t.vm → H.size ≤ t.heap.size → (∀ q : Nat, q < H.size → t.heap[q]? = H[q]?) → XC cls s t)
    (hf : ∀ z ∈ locs, free z.base) (hc : cells + 1 ≤ mc) (hs : slots + 6 ≤ ms) :
    W p l e R s m args below meth c H locs cells slots (vx_MQ below Qc XC args s mc ms free) (F0 m pc ls rest) := by
  intro T hT X
  have htr : e.platform.stackTraces = false := (show e.platform.stackTraces = l.stackTraces by rw [X.admits.platform]).trans hl
  have Y := vx_rebase X (R' := { frames := R.frames, locals := R.locals, cells := 1, slots := 6 }) (Nat.le_refl _) (Nat.le_refl _) hRcells hRslots
  obtain ⟨s', hA⟩ : ∃ z, z = (T.setVm s.vm).setFrames (.invoking m args :: below) := ⟨_, rfl⟩
  rw [← hA] at Y
  have hvm : s'.vm = s.vm := by rw [hA]; rfl
  have hhp : s'.heap = H := by rw [hA]; exact hT
  have hW0 : s.WarmedH s'.vm := by rw [hvm]; exact State.WarmedH.refl s
  have hat' : ∀ w ∈ vx_atS own ic cls names, w.before args s' = true := fun w hw => vx_ot_at hW0 hvm.symm (hgood w (List.mem_cons_of_mem _ (List.mem_cons_of_mem _ hw))) (hat w hw)
  have hk' : (Cond.classLink own ik cls).before args s' = true := vx_ot_at hW0 hvm.symm (hgood _ List.mem_cons_self) hk
  have hini' : (Cond.initialized cls).before args s' = true := vx_ot_at hW0 hvm.symm (hgood _ (List.mem_cons_of_mem _ List.mem_cons_self)) hini
  have hU' : vx_Zq Bundle.tN "UNASSIGNED_STACK" Bundle.steD A s' s'.heap := by rw [hhp]; exact vx_Zq.moved hW0.alike (hU.kept hS.2.1)
  have hN' : vx_Zq Bundle.tN "SUPPRESSED_SENTINEL" Bundle.listD A s' s'.heap := by rw [hhp]; exact vx_Zq.moved hW0.alike (hN.kept hS.2.1)
  have h : ∀ w ∈ Bundle.ownAtoms own ic cls names, w.before args s' = true := vx_own hat' (vx_isRefq hU'.1) (vx_isRefq hN'.1) hU'.2.word hN'.2.word
  have hown' : s'.vm.findClass own = some m.cls := by rw [hvm]; exact hown
  have hins : (Cond.instantiable cls 6).before args s' = true := h _ (by simp [Bundle.ownAtoms])
  obtain ⟨vm₁, cX, kX, hfX, hkX, -, -, X₁, st1⟩ := Y.newCold hexec (own := own) (C := cls) (index := ik) (n := 6) hown' hk' hins hini'
    (g := F0 m pc ls rest) rfl (by rw [hb]; exact d0) (Nat.le_refl _) (Nat.le_refl _)
  generalize hT1 : (T.setVm vm₁).pushCell { cls := cX, slots := kX.instanceTypes.map defaultValue, vm := .none } = T1 at X₁ st1
  have hcat : (Value.ref T.heap.size).category = 1 := rfl
  have hcellA : T1.heap[T.heap.size]? = some (freshCell cX kX) := by rw [← hT1]; exact State.heap_pushCell_size _ _
  have d3' : decode c.code (pc + 3) = .ok (.dup, 1) := by rw [hb]; exact d3
  have d4' : decode c.code (pc + 4) = .ok (.ldc_w is, 3) := by rw [hb]; exact d4
  have hstr' : vk_R own is text sa s' := vk_R.warm hW0 hstr
  obtain ⟨U, hsteps, hrun, hend, hW, hsame, ce, hce, hO⟩ := X₁.ctorThrowS hexec htr (own := own) (cls := cls) (names := names) (ic := ic) hown' hcls hnames h (fun x hx => nomatch hx) hfX hkX hcellA (by rw [hhp, hT]; exact Nat.le_refl _) (msg := .ref sa) rfl
    (g := { method := m, pc := pc + 7, locals := ls, stack := .ref sa :: .ref T.heap.size :: .ref T.heap.size :: rest, locked := none }) rfl hsize rfl rfl (rest := rest) rfl
    (by rw [hb]; exact d7) (by rw [hb]; exact d10) hout hRframes (by simp only [List.map_cons, List.sum_cons, hcat]; omega) hlocks
  obtain ⟨f1, f2⟩ := vx_frame hsame
  rw [hhp] at f1 f2
  have hWs : s.WarmedH U.vm := State.WarmedH.trans hW0 hW
  have hcl : s.vm.findClass cls = some ce.cls := by
    have h9 := hO.cls
    rw [hvm] at h9
    exact h9
  have hall : s.sameButNew ({ U with vm := s.vm } : State) locs mc ms := by
    subst hA
    obtain ⟨e1, e2⟩ := hsame
    rw [State.setFrames_setFrames] at e1
    have h2 : (T.setVm s.vm).sameButNew ({ U with vm := s.vm } : State) [] (0 + 1) (0 + 6) := ⟨e1, e2⟩
    have h3 := X.same.trans h2
    rw [List.append_nil] at h3
    exact h3.mono hc hs
  refine ⟨U, ?_, .threw T.heap.size, hrun, hend, Or.inr ⟨T.heap.size, rfl, cls, ce, locs, hx U hWs.alike f1 (fun q hq => f2 q hq (fun z hz => nomatch hz)), hce, hO.vm, hcl, hWs, hall, hf⟩⟩
  refine st1 _ ?_
  show Steps p.tables e below (T1.setTop { method := m, pc := pc + 3, locals := ls, stack := .ref T.heap.size :: rest, locked := none }) _
  jvm_step X₁.here [X₁.here.top, hexec, d3', Value.category]
  exact X₁.ldcStringW hexec (own := own) (text := text) (index := is) (a := sa) hown' hstr'.1 hstr'.2
    (g := { method := m, pc := pc + 4, locals := ls, stack := .ref T.heap.size :: .ref T.heap.size :: rest, locked := none }) rfl d4' _ hsteps
end Ends
section Bodies
variable {l : Launch}
theorem vx_ofW {y : MethodName} {ws ws' : List Cond} {rm : Room} {Pc : Array Value → State → Prop} {Qc : Array Value → State → Outcome → State → Prop} {XC : String → State → State → Prop} {mc ms : Nat} {free : Addr → Prop} {cc : ByteArray} {maxL : Nat} {ret : Option FieldType}
    (hy : plainName y.cls = true) (hw : ws = Cond.code y cc maxL ret :: ws')
    (body : ∀ p e s m args below meth c s₁, BodyLoose p l y (headSpec ws rm) cc maxL ret e s m args below meth c s₁ → c.maxLocals = maxL → (∀ x ∈ c.exceptionTable.toList, False) → Pc args s →
      W p l e (headSpec ws rm).room s m args below meth c s.heap [] 0 0 (vx_MQ below Qc XC args s mc ms free) (entryFrame m args maxL)) : vx_Met l y ws rm Pc Qc XC mc ms free := by
  refine MetFree.of_bodyS (code := cc) (maxLocals := maxL) (ret := ret) hy ?_ ?_
  · intro args s m h hn
    obtain ⟨meth, c, h1, h2, h3, h4, h5, h6, -, -⟩ := Cond.code_spec hn (atoms_spec (ws := ws) h _ (by rw [hw]; exact List.mem_cons_self))
    exact ⟨meth, c, h1, h2, h3, h4, h5, h6⟩
  · intro p e s m args below meth c s₁ B hml hP _
    have hh0 : s₁.heap = s.heap := by rw [B.state]; rfl
    have ht : ∀ x ∈ c.exceptionTable.toList, False := by
      obtain ⟨meth9, c9, h1, h2, -, -, -, -, h7, -⟩ := Cond.code_spec B.named (atoms_spec (ws := ws) B.pre _ (by rw [hw]; exact List.mem_cons_self))
      cases Option.some.inj (h1.symm.trans B.method)
      cases Option.some.inj (h2.symm.trans (Stand.of_body B).code)
      intro x hx
      rw [Array.isEmpty_iff.mp h7] at hx
      cases hx
    obtain ⟨t, a1, o, b1, b2, b3⟩ := body p e s m args below meth c s₁ B hml ht hP s₁ hh0 (Stand.of_body B)
    exact ⟨t, o, a1, b1, b2, b3⟩
/-- the table of a body with handlers -/
theorem vx_table {p : Program} {x y : MethodName} {S : Spec} {cc bytes : ByteArray} {maxL maxL' : Nat} {ret ret' : Option FieldType} {e : Env} {s s₁ : State} {m : MethodId} {args : Array Value} {below : List Frame} {meth : Method} {c : Code} {hh : List (Nat × Nat × Nat × Nat)}
    (B : BodyLoose p l y S cc maxL ret e s m args below meth c s₁) (h : (Cond.codeWith y bytes maxL' ret' hh).before args s = true) : c.exceptionTable.toList = tableOf hh := by
  obtain ⟨m9, meth9, c9, hn9, h1, h2, -, -, h6, -⟩ := Cond.codeWith_spec h
  cases Option.some.inj (hn9.symm.trans B.named)
  cases Option.some.inj (h1.symm.trans B.method)
  cases Option.some.inj (h2.symm.trans (Stand.of_body B).code)
  rw [← h6, table_eq]
end Bodies
end VXA
/-! ===== END ===== -/
/-! ===== BEGIN a static call of a method with an exception table ===== -/
section VXS
variable {p : Program} {l : Launch} {e : Env} {R : Room} {s : State} {m : MethodId} {args : Array Value} {below : List Frame} {meth : Method} {c : Code} {T : State} {H : Heap} {locs : List Loc} {cells slots : Nat}
abbrev vx_CSW (R : Room) (s : State) (args : Array Value) (own : String) (index : Nat) (y : MethodName) (bytes : ByteArray) (maxL : Nat) (ret : Option FieldType) (hh : List (Nat × Nat × Nat × Nat)) (ws : List Cond) (rm : Room) (mc ms n : Nat) : Prop :=
  (rm.cells = mc ∧ rm.slots = ms ∧ rm.frames + 1 ≤ R.frames ∧ 8 + (maxL + 11) + rm.locals ≤ R.locals ∧ (∀ w ∈ ws, ∀ (a' : Array Value) (U : State), s.WarmedH U.vm → w.before a' U = true) ∧ Cond.codeWith y bytes maxL ret hh ∈ ws) ∧
  (Cond.codeWith y bytes maxL ret hh).before args s = true ∧ (Cond.initialized y.cls).before args s = true ∧ (y.cls ≠ "java/lang/invoke/MethodHandle" ∧ y.cls ≠ "java/lang/invoke/VarHandle") ∧
  (∀ sig, parseMethodDescriptor y.desc = some sig → n = sig.parameters.length) ∧ (Cond.methodLink own index y).before args s = true ∧ (Cond.static y).before args s = true
theorem vx_cwSW {own : String} {index maxL mc ms : Nat} {y : MethodName} {bytes : ByteArray} {ret : Option FieldType} {hh : List (Nat × Nat × Nat × Nat)} {Ts ws ws' : List Cond} {rm : Room} (n : Nat) (ht : ∀ w ∈ Ts, w.before args s = true) (hT : GoodIn Ts (va_wsS own index y ws)) (hw : ws = Cond.codeWith y bytes maxL ret hh :: ws') (hrc : rm.cells = mc) (hrs : rm.slots = ms)
    (hd : y.cls ≠ "java/lang/invoke/MethodHandle" ∧ y.cls ≠ "java/lang/invoke/VarHandle" ∧ (parseMethodDescriptor y.desc).map (fun d => d.parameters.length) = some n) (hR : rm.frames + 1 ≤ R.frames ∧ 8 + (maxL + 11) + rm.locals ≤ R.locals) :
    vx_CSW R s args own index y bytes maxL ret hh ws rm mc ms n := by
  have ok : ∀ w ∈ va_wsS own index y ws, w.before args s = true := fun w h => ht w (hT w h).1
  have hG : GoodIn Ts ws := fun w h => hT w (by unfold va_wsS; exact List.mem_append_right _ h)
  have hc : Cond.codeWith y bytes maxL ret hh ∈ ws := by rw [hw]; exact List.mem_cons_self
  refine ⟨⟨hrc, hrs, hR.1, hR.2, pay_in ht hG, hc⟩, ht _ (hG _ hc).1, ok _ (by simp [va_wsS]), ⟨hd.1, hd.2.1⟩, fun sig h => ?_, ok _ (by simp [va_wsS]), ok _ (by simp [va_wsS])⟩
  have h2 := hd.2.2
  rw [h] at h2
  exact (Option.some.inj h2).symm
theorem vx_callSW (X : Stand p l e R s m args below meth c T locs cells slots) (hexec : p.tables.exec = Jvm.exec) {own : String} {index : Nat} {y : MethodName} {bytes : ByteArray} {maxL : Nat} {ret : Option FieldType} {hh : List (Nat × Nat × Nat × Nat)}
    (hown : s.vm.findClass own = some m.cls) (hlink : (Cond.methodLink own index y).before args s = true) (hstat : (Cond.static y).before args s = true) (hinit : (Cond.initialized y.cls).before args s = true)
    (hcode : (Cond.codeWith y bytes maxL ret hh).before args s = true) (hy : y.cls ≠ "java/lang/invoke/MethodHandle" ∧ y.cls ≠ "java/lang/invoke/VarHandle")
    {W9 : Nat} {Pre : Pt → Array Value → Prop} {Post : Pt → Array Value → Option Value → Pt → Prop} (hK : Back l R p e below s args y 3 W9 Pre Post)
    {g : JFrame} (hg : g.method = m) (hsize : g.locals.size = c.maxLocals) {argsL rest : List Value} (hlen : ∀ sig, parseMethodDescriptor y.desc = some sig → argsL.length = sig.parameters.length)
    (hstack : g.stack = argsL.reverse ++ rest) (hW : 2 * g.monitorRoom + (rest.map fun v => v.category).sum ≤ W9) (hdg : decode c.code g.pc = .ok (.invokestatic index, 3))
    (hpre : ∀ vm₁, s.WarmedH vm₁ → Pre ⟨T.setVm vm₁, locs, cells, slots⟩ argsL.toArray) :
    ∃ (v : Option Value) (vm₁ : Vm) (B : Pt), s.WarmedH vm₁ ∧ Stand p l e R s m args below meth c B.U B.locs B.cells B.slots ∧ Post ⟨T.setVm vm₁, locs, cells, slots⟩ argsL.toArray v B ∧
      ∀ target, Steps p.tables e below (B.U.setTop { g with pc := g.pc + 3, stack := v.toList ++ rest }) target → Steps p.tables e below (T.setTop g) target := by
  obtain ⟨mk, methM, cM, hnamed, hmethM, -, -, -, -, -, -, hsigM⟩ := Cond.codeWith_spec hcode
  have hstatic : methM.isStatic = true := Cond.static_spec hnamed hmethM hstat
  obtain ⟨kP, hkP, -⟩ := className_of_methodNamed hnamed
  have hinitP : kP.init = .initialized := Cond.initialized_spec (findClass_of_methodNamed hnamed) hkP hinit
  obtain ⟨vm₁, X₁, hstep₁⟩ := X.invokestatic hexec hown hlink hnamed hmethM hstatic hkP hinitP hy (g := g) hg (argsL := argsL) (rest := rest) (hlen _ hsigM) hstack hdg
  obtain ⟨v, B, X', hpost, hsteps⟩ := hK m meth c ⟨T.setVm vm₁, locs, cells, slots⟩ { g with stack := rest } (.invokestatic index) mk argsL.toArray X₁ hg hsize hdg hW (X₁.named hnamed) (hpre vm₁ X₁.warmed)
  exact ⟨v, vm₁, B, X₁.warmed, X', hpost, fun target h => hstep₁ _ fun acts => by rw [doInvoke_state]; exact hsteps.trans h⟩
theorem vx_runSW {y : MethodName} {bytes cc : ByteArray} {maxL nL mc ms n index : Nat} {ret : Option FieldType} {hh : List (Nat × Nat × Nat × Nat)} {ws : List Cond} {rm : Room} {Pc : Array Value → State → Prop} {Qc : Array Value → State → Outcome → State → Prop} {free : Addr → Prop} {Ts : List Cond} {own : String} {As rest : List Value} {g : JFrame}
    (S : CallFix p m c cc nL s args Ts own) (hM : Met l y ws rm Pc Qc mc ms free) (cw : vx_CSW R s args own index y bytes maxL ret hh ws rm mc ms n) (hp : PreS s H Pc As)
    (hg : g.method = m) (hn : As.length = n) (hsize : g.locals.size = nL) (hstack : g.stack = As.reverse ++ rest) (hW : 2 * g.monitorRoom + (rest.map fun v => v.category).sum ≤ 8) (hdg : decode cc g.pc = .ok (.invokestatic index, 3)) (hf : cells + mc ≤ R.cells ∧ slots + ms ≤ R.slots) :
    va_Run p l e R s m args below meth c H locs cells slots mc ms g rest (Qc As.toArray) (free) := by
  obtain ⟨⟨hrc, hrs, hfr, hlo, hws, hcw⟩, hcode, hini, hy, hlen, hl, hstt⟩ := cw
  have hK : Back l R p e below s args y 3 8 (PreOf R mc ms Pc) (PostOf Qc mc ms free) := va_backW (hh := hh) (bytes := bytes) (maxL := maxL) (ret := ret) hM hp.1 hrc hrs hfr hlo hws hcw (fun a' U hW => word_at hW (Or.inl (by first | rfl | simp [Cond.onTables, Cond.keeps, Cond.steady])) hini)
  obtain ⟨hx, hb, hml, ho, -⟩ := S
  intro T hT X
  obtain ⟨v, vm₁, ⟨U', l2, c2, s2⟩, hW₁, X', ⟨g', mk, t, L, e1, e2, hq, h1, hL, h2, h3⟩, st⟩ := vx_callSW X hx (hh := hh) (bytes := bytes) (maxL := maxL) (ret := ret) ho hl hstt hini hcode hy hK hg (hsize.trans hml.symm) (argsL := As) (rest := rest) (fun sig h => hn.trans (hlen sig h)) hstack hW (by rw [hb]; exact hdg)
    (fun vm₁ hW₁ => ⟨hf.1, hf.2, hp.2 (T.setVm vm₁) hT hW₁⟩)
  dsimp only [Pt.U, Pt.locs, Pt.cells, Pt.slots] at X' e1 e2 h1 h2 h3 st
  subst h1; subst h2; subst h3
  exact ⟨v, (T.setVm vm₁).calling g' mk As.toArray, t, U', L, hT, X', hL, e1, e2, hq, st⟩
/-- not caught here, past rows that name other classes: it goes on to the caller -/
theorem vx_outP {p : Program} {l : Launch} {e : Env} {R : Room} {s : State} {m : MethodId} {args : Array Value} {below : List Frame} {meth : Method} {c : Code} {H : Heap} {locs : List Loc} {cells slots : Nat} {free : Addr → Prop} {ls : Array Slot} {rest : List Value} {Qc : Array Value → State → Outcome → State → Prop} {XC : String → State → State → Prop}
    {pc : Nat} {own E : String} {ce : Cell} {q : Addr} {mc ms : Nat} (hown : s.vm.findClass own = some m.cls) (hlocks : meth.locks = false)
    (hpass : ∀ z ∈ c.exceptionTable.toList, covers z pc = false ∨ (z.catchType ≠ 0 ∧ ∃ nm : String, (Cond.classLink own z.catchType nm).before args s = true ∧ va_Nc E nm s)) (hcell : H[q]? = some ce) (hv : ce.vm = .none) (hcl : s.vm.findClass E = some ce.cls)
    (hx : ∀ t : State, t.heap = H → s.vm.Alike t.vm → XC E s t) (hf : ∀ z ∈ locs, free z.base) (hc : cells ≤ mc) (hs : slots ≤ ms) :
    vx_W p l e R s m args below meth c H locs cells slots (vx_MQ below Qc XC args s mc ms free) (F0 m pc ls rest) q := by
  intro T hT X
  have hpl : e.platform.magicAccessors = ({} : Platform).magicAccessors := by rw [X.admits.platform]
  obtain ⟨vm', hW', X', st⟩ := X.outThrough hlocks q (g := F0 m pc ls rest) rfl rfl rfl (cell := ce) (by rw [hT]; exact hcell) (by rw [hv]; rfl)
    (by obtain ⟨k9, h9, -⟩ := Vm.findClass_spec hcl; exact ⟨k9, h9⟩) (fun z hz => by
      rcases hpass z hz with h | ⟨hz0, nm, hl1, hn1⟩
      · exact Or.inl h
      · obtain ⟨c6, hc6, hcl6⟩ := Cond.classLink_spec hown hl1 e.platform hpl
        obtain ⟨a8, b8, h1, h2, h3⟩ := hn1
        cases Option.some.inj (h1.symm.trans hcl)
        cases Option.some.inj (h2.symm.trans hc6)
        exact Or.inr ⟨hz0, _, hcl6, h3⟩)
  obtain ⟨g₀, hfr⟩ := X'.frames_eq
  have hcell9 : ((T.setVm vm').setFrames (.throwing q :: below)).heap[q]? = some ce := by
    show T.heap[q]? = some ce
    rw [hT]; exact hcell
  have hend : Ended ((T.setVm vm').setFrames (.throwing q :: below)) below (.threw q) := State.frames_setFrames _ (State.cur_lt_of_frames hfr)
  refine ⟨(T.setVm vm').setFrames (.throwing q :: below), ?_, .threw q, X'.here.running, hend, Or.inr ⟨q, rfl, E, ce, locs, hx _ hT (X'.ends _).1.alike, hcell9, hv, hcl, (X'.ends _).1, (X'.ends _).2.mono hc hs, hf⟩⟩
  rw [X.pushThrowing_eq]
  exact st
/-- a thing of a world lies in the heap -/
theorem vx_lt {D : va_G} {cl : List vw_C} {ws : va_W} {H1 : Heap} (h : va_P D cl ws H1) {k : Nat} {q : Nat × va_E} (hk : ws[k]? = some q) : q.1 < H1.size := (h k q hk).lt
end VXS
/-! ===== END ===== -/
/-! ===== BEGIN methods with a table of their own: called by a name, returning or throwing ===== -/
section VXH
/-! vx_backW, vx_callVX, vx_callSX, vx_callVW, vx_runVW, vx_runVX, vx_runSX, vx_ofWH follow the same proofs as their sisters above (Free/Laws.lean, Shelf42/LK1.lean); vx_outP calls Shelf42/NT130.lean (outThrough). -/
section
variable {l : Launch} {R : Room} {p : Program} {e : Env} {below : List Frame} {s : State} {sargs : Array Value} {y : MethodName} {len W9 : Nat}
theorem vx_backW {ws : List Cond} {rm : Room} {Pc : Array Value → State → Prop} {Qc : Array Value → State → Outcome → State → Prop} {XC : String → State → State → Prop} {mc ms : Nat} {free : Addr → Prop} {bytes : ByteArray} {maxL : Nat} {ret : Option FieldType} {hh : List (Nat × Nat × Nat × Nat)}
    (hM : vx_Met l y ws rm Pc Qc XC mc ms free) (hblind : FrameBlind Pc) (hrc : rm.cells = mc) (hrs : rm.slots = ms)
    (hframes : rm.frames + 1 ≤ R.frames) (hlocals : W9 + (maxL + 11) + rm.locals ≤ R.locals)
    (hws : ∀ w ∈ ws, ∀ a' U, s.WarmedH U.vm → w.before a' U = true) (hcode : Cond.codeWith y bytes maxL ret hh ∈ ws) (hinit : ∀ a' U, s.WarmedH U.vm → (Cond.initialized y.cls).before a' U = true) :
    vx_Back l R p e below s sargs y len W9 (PreOf R mc ms Pc) (PostOf Qc mc ms free) (vx_Post XC mc ms free) := by
  intro m meth c A g ig mk a X hg hsize hdg hW hn hp
  have h1 : (headSpec ws rm).pre.before a A.U = true := atoms_intro fun w hw => hws w hw _ _ X.warmed
  have h2 : (Cond.codeWith y bytes maxL ret hh).before a A.U = true := hws _ hcode _ _ X.warmed
  have h3 : (Cond.initialized y.cls).before a A.U = true := hinit _ _ X.warmed
  have h4 : A.cells + (headSpec ws rm).room.cells ≤ R.cells := by rw [show (headSpec ws rm).room.cells = mc from hrc]; exact hp.1
  have h5 : A.slots + (headSpec ws rm).room.slots ≤ R.slots := by rw [show (headSpec ws rm).room.slots = ms from hrs]; exact hp.2.1
  have hPc : Pc a (A.U.calling g mk a) := hblind _ _ _ _ hp.2.2
  obtain ⟨U, Ls, c0, s0⟩ := A
  dsimp only [Pt.U, Pt.locs, Pt.cells, Pt.slots] at h1 h2 h3 h4 h5 X hn hPc ⊢
  obtain ⟨m9, methY, cY, hn9, hmY, hcY, -, hlY, -⟩ := Cond.codeWith_spec h2
  cases Option.some.inj (hn9.symm.trans hn)
  obtain ⟨kY, hkY, -⟩ := className_of_methodNamed hn
  have hinitY : kY.init = .initialized := Cond.initialized_spec (findClass_of_methodNamed hn) hkY h3
  have h : At U g.method c below := by rw [hg]; exact X.here
  have hlocals9 : W9 + (maxL + 11) + (headSpec ws rm).room.locals ≤ R.locals := hlocals
  have happ : (headSpec ws rm).appliesLoose y e.platform (U.calling g mk a) = true :=
    Spec.appliesLoose_calling (g := g) h hdg hn hkY hinitY
      (X.room_calling (g := g) (R' := (headSpec ws rm).room) hsize hmY hcY hframes (by rw [hlY]; omega) h4 h5) h1
  obtain ⟨mid, hmid⟩ := h.above
  have hfr : (U.setTop g).frames = (.java g :: mid) ++ below := by rw [State.frames_setTop' g h.top, hmid]; rfl
  obtain ⟨o, s₂, hsteps, -, hend, hq⟩ := Steps.callFree hM p X.admits X.cas X.clock (acts := []) hfr happ hPc trivial
  have hq' : vx_Q Qc XC mc ms free a (U.calling g mk a) o s₂ := hq
  rw [State.frames_setTop' g h.top] at hend
  obtain ⟨g₀, hg0⟩ := Option.isSome_iff_exists.mp h.top
  obtain ⟨r, hr⟩ := State.topJava?_eq_some.mp hg0
  have hr' : (({ U with heap := s₂.heap, slotsUsed := s₂.slotsUsed } : State).setVm s₂.vm).frames = .java g₀ :: r := hr
  rcases hq' with ⟨hqc, L, hfe, hL⟩ | ⟨q, rfl, E, ce, L, hx, hce, hcv, hcl, hW₂, hsm, hL⟩
  · obtain ⟨⟨v, rfl⟩, hW₂, e2, q2, q3, q4, q5, q6⟩ := id hfe
    have e3 : s₂ = ({ (U.calling g mk a).setFrames s₂.frames with heap := s₂.heap, slotsUsed := s₂.slotsUsed } : State).setVm s₂.vm := by
      have : s₂ = ({ s₂ with vm := (U.calling g mk a).vm } : State).setVm s₂.vm := rfl
      rw [e2] at this
      exact this
    obtain ⟨c₂, i₂, len₂, hc₂, hd₂, hf₂⟩ := hend
    have hW' : U.WarmedH s₂.vm := hW₂
    have hcc : c₂ = c := by
      have h1 : s₂.code? g.method = U.code? g.method := by
        rw [State.code?_eq, State.code?_eq, hW'.alike.method?]
      exact Option.some.inj (hc₂.symm.trans (h1.trans h.code))
    subst hcc
    have hlen : len₂ = len := by rw [hdg] at hd₂; cases hd₂; rfl
    subst hlen
    have hs₂ : s₂ = (({ U with heap := s₂.heap, slotsUsed := s₂.slotsUsed } : State).setVm s₂.vm).setTop { g with pc := g.pc + len₂, stack := v.toList ++ g.stack } := by
      refine e3.trans ?_
      rw [hf₂, State.calling_eq h.top, State.setFrames_setFrames, State.setTop_of_frames _ hr', hr]
      rfl
    have hsame : U.sameButNew ({ U with heap := s₂.heap, slotsUsed := s₂.slotsUsed } : State) L mc ms := by
      refine ⟨?_, q2, q3, q4, q5, q6⟩
      obtain ⟨t, ht, -⟩ := State.frames_cons hr
      show ({ U with heap := s₂.heap, slotsUsed := s₂.slotsUsed } : State) = { U.setFrames U.frames with heap := s₂.heap, slotsUsed := s₂.slotsUsed }
      rw [State.setFrames_self ht]
    subst hg
    refine Or.inl ⟨v, ⟨(({ U with heap := s₂.heap, slotsUsed := s₂.slotsUsed } : State).setVm s₂.vm), Ls ++ L, c0 + mc, s0 + ms⟩,
      ⟨X.admits, X.cas, X.clock, X.frames, X.room, X.hears, X.method, X.code, (X.here.setHeapUsed s₂.heap s₂.slotsUsed).setVm hW'.alike, X.tail, State.WarmedH.trans X.warmed hW', X.limits, X.bytes, X.same.trans (hsame.setVm s.vm)⟩,
      ⟨g, mk, s₂, L, rfl, rfl, hqc, rfl, hL, rfl, rfl⟩, ?_⟩
    show Steps p.tables e below _ ((({ U with heap := s₂.heap, slotsUsed := s₂.slotsUsed } : State).setVm s₂.vm).setTop { g with pc := g.pc + len₂, stack := v.toList ++ g.stack })
    rw [← hs₂]
    exact hsteps
  · obtain ⟨e2, q2, q3, q4, q5, q6⟩ := id hsm
    have e3 : s₂ = ({ (U.calling g mk a).setFrames s₂.frames with heap := s₂.heap, slotsUsed := s₂.slotsUsed } : State).setVm s₂.vm := by
      have : s₂ = ({ s₂ with vm := (U.calling g mk a).vm } : State).setVm s₂.vm := rfl
      rw [e2] at this
      exact this
    have hf₂ : s₂.frames = .throwing q :: .java g :: U.frames.tail := hend
    have hW' : U.WarmedH s₂.vm := hW₂
    have hs₂ : s₂ = ((({ U with heap := s₂.heap, slotsUsed := s₂.slotsUsed } : State).setVm s₂.vm).setTop g).pushFrame (.throwing q) := by
      refine e3.trans ?_
      rw [hf₂, State.calling_eq h.top, State.setFrames_setFrames, State.pushFrame, State.frames_setTop _ hr', State.setTop_of_frames _ hr', State.setFrames_setFrames, hr]
      rfl
    have hsame : U.sameButNew ({ U with heap := s₂.heap, slotsUsed := s₂.slotsUsed } : State) L mc ms := by
      refine ⟨?_, q2, q3, q4, q5, q6⟩
      obtain ⟨t, ht, -⟩ := State.frames_cons hr
      show ({ U with heap := s₂.heap, slotsUsed := s₂.slotsUsed } : State) = { U.setFrames U.frames with heap := s₂.heap, slotsUsed := s₂.slotsUsed }
      rw [State.setFrames_self ht]
    subst hg
    refine Or.inr ⟨q, ⟨(({ U with heap := s₂.heap, slotsUsed := s₂.slotsUsed } : State).setVm s₂.vm), Ls ++ L, c0 + mc, s0 + ms⟩,
      ⟨X.admits, X.cas, X.clock, X.frames, X.room, X.hears, X.method, X.code, (X.here.setHeapUsed s₂.heap s₂.slotsUsed).setVm hW'.alike, X.tail, State.WarmedH.trans X.warmed hW', X.limits, X.bytes, X.same.trans (hsame.setVm s.vm)⟩,
      ⟨g, mk, s₂, L, E, ce, rfl, rfl, hx, hce, hcv, hcl, rfl, hL, rfl, rfl⟩, ?_⟩
    show Steps p.tables e below _ (((({ U with heap := s₂.heap, slotsUsed := s₂.slotsUsed } : State).setVm s₂.vm).setTop g).pushFrame (.throwing q))
    rw [← hs₂]
    exact hsteps
end
variable {p : Program} {l : Launch} {e : Env} {R : Room} {s : State} {m : MethodId} {args : Array Value} {below : List Frame} {meth : Method} {c : Code} {T : State} {H : Heap} {locs : List Loc} {cells slots : Nat}
theorem vx_callVX (X : Stand p l e R s m args below meth c T locs cells slots) (hexec : p.tables.exec = Jvm.exec) {own C : String} {index : Nat} {y : MethodName} {bytes : ByteArray} {maxL : Nat} {ret : Option FieldType} {hh : List (Nat × Nat × Nat × Nat)}
    (hown : s.vm.findClass own = some m.cls) (hlink : (Cond.methodLink own index y).before args s = true) (hinst : (Cond.instanceMethod y).before args s = true) (hsel : (Cond.selects C y y).before args s = true)
    (hcode : (Cond.codeWith y bytes maxL ret hh).before args s = true) (hy : y.cls ≠ "java/lang/invoke/MethodHandle" ∧ y.cls ≠ "java/lang/invoke/VarHandle")
    {W9 : Nat} {Pre : Pt → Array Value → Prop} {Post : Pt → Array Value → Option Value → Pt → Prop} {PostX : Pt → Array Value → Addr → Pt → Prop} (hK : vx_Back l R p e below s args y 3 W9 Pre Post PostX)
    {b : Addr} {cellB : Cell} (hcell : T.heap[b]? = some cellB) (hobj : cellB.vm.isStatics = false) (hcls : s.vm.findClass C = some cellB.cls)
    {g : JFrame} (hg : g.method = m) (hsize : g.locals.size = c.maxLocals) {argsL rest : List Value} (hlen : ∀ sig, parseMethodDescriptor y.desc = some sig → argsL.length = sig.parameters.length)
    (hstack : g.stack = argsL.reverse ++ .ref b :: rest) (hW : 2 * g.monitorRoom + (rest.map fun v => v.category).sum ≤ W9) (hdg : decode c.code g.pc = .ok (.invokevirtual index, 3))
    (hpre : ∀ vm₁, s.WarmedH vm₁ → Pre ⟨T.setVm vm₁, locs, cells, slots⟩ (Value.ref b :: argsL).toArray) :
    (∃ (v : Option Value) (vm₁ : Vm) (B : Pt), s.WarmedH vm₁ ∧ Stand p l e R s m args below meth c B.U B.locs B.cells B.slots ∧ Post ⟨T.setVm vm₁, locs, cells, slots⟩ (Value.ref b :: argsL).toArray v B ∧
      ∀ target, Steps p.tables e below (B.U.setTop { g with pc := g.pc + 3, stack := v.toList ++ rest }) target → Steps p.tables e below (T.setTop g) target) ∨
    (∃ (q : Addr) (vm₁ : Vm) (B : Pt), s.WarmedH vm₁ ∧ Stand p l e R s m args below meth c B.U B.locs B.cells B.slots ∧ PostX ⟨T.setVm vm₁, locs, cells, slots⟩ (Value.ref b :: argsL).toArray q B ∧
      Steps p.tables e below (T.setTop g) ((B.U.setTop { g with stack := rest }).pushFrame (.throwing q))) := by
  obtain ⟨mk, methM, hnamed, hmethM, hstM, habM⟩ := Cond.instanceMethod_spec hinst
  obtain ⟨m8, methM', cM, hn8, hmethM', -, -, -, -, -, -, hsigM⟩ := Cond.codeWith_spec hcode
  cases Option.some.inj (hn8.symm.trans hnamed)
  cases hmethM.symm.trans hmethM'
  obtain ⟨c2, r2, m2, q1, q2, q3, q4, kP, hkP, hkPi⟩ := Cond.selects_spec hsel
  cases hcls.symm.trans q1
  cases (State.methodFound?_of_named hnamed hy).symm.trans q2
  cases hnamed.symm.trans q3
  have hselP : selectMethod e.platform s.vm cellB.cls mk = .method mk := by rw [Launch.admits_selectMethod X.admits]; exact q4
  obtain ⟨vm₁, X₁, hstep₁⟩ := X.invokevirtual hexec hown hlink hnamed hmethM hstM hkP hkPi hy (a := b) (cell := cellB) hcell
    (fun z h => by rw [h] at hobj; cases hobj) hselP hmethM habM hkP hkPi (g := g) hg (argsL := argsL) (rest := rest) (hlen _ hsigM) hstack hdg
  rcases hK m meth c ⟨T.setVm vm₁, locs, cells, slots⟩ { g with stack := rest } (.invokevirtual index) mk (Value.ref b :: argsL).toArray X₁ hg hsize hdg hW (X₁.named hnamed) (hpre vm₁ X₁.warmed) with ⟨v, B, X', hpost, hsteps⟩ | ⟨q, B, X', hpost, hsteps⟩
  · exact Or.inl ⟨v, vm₁, B, X₁.warmed, X', hpost, fun target h => hstep₁ _ fun acts => by rw [doInvoke_state]; exact hsteps.trans h⟩
  · exact Or.inr ⟨q, vm₁, B, X₁.warmed, X', hpost, hstep₁ _ fun acts => by rw [doInvoke_state]; exact hsteps⟩
theorem vx_callSX (X : Stand p l e R s m args below meth c T locs cells slots) (hexec : p.tables.exec = Jvm.exec) {own : String} {index : Nat} {y : MethodName} {bytes : ByteArray} {maxL : Nat} {ret : Option FieldType} {hh : List (Nat × Nat × Nat × Nat)}
    (hown : s.vm.findClass own = some m.cls) (hlink : (Cond.methodLink own index y).before args s = true) (hstat : (Cond.static y).before args s = true) (hinit : (Cond.initialized y.cls).before args s = true)
    (hcode : (Cond.codeWith y bytes maxL ret hh).before args s = true) (hy : y.cls ≠ "java/lang/invoke/MethodHandle" ∧ y.cls ≠ "java/lang/invoke/VarHandle")
    {W9 : Nat} {Pre : Pt → Array Value → Prop} {Post : Pt → Array Value → Option Value → Pt → Prop} {PostX : Pt → Array Value → Addr → Pt → Prop} (hK : vx_Back l R p e below s args y 3 W9 Pre Post PostX)
    {g : JFrame} (hg : g.method = m) (hsize : g.locals.size = c.maxLocals) {argsL rest : List Value} (hlen : ∀ sig, parseMethodDescriptor y.desc = some sig → argsL.length = sig.parameters.length)
    (hstack : g.stack = argsL.reverse ++ rest) (hW : 2 * g.monitorRoom + (rest.map fun v => v.category).sum ≤ W9) (hdg : decode c.code g.pc = .ok (.invokestatic index, 3))
    (hpre : ∀ vm₁, s.WarmedH vm₁ → Pre ⟨T.setVm vm₁, locs, cells, slots⟩ argsL.toArray) :
    (∃ (v : Option Value) (vm₁ : Vm) (B : Pt), s.WarmedH vm₁ ∧ Stand p l e R s m args below meth c B.U B.locs B.cells B.slots ∧ Post ⟨T.setVm vm₁, locs, cells, slots⟩ argsL.toArray v B ∧
      ∀ target, Steps p.tables e below (B.U.setTop { g with pc := g.pc + 3, stack := v.toList ++ rest }) target → Steps p.tables e below (T.setTop g) target) ∨
    (∃ (q : Addr) (vm₁ : Vm) (B : Pt), s.WarmedH vm₁ ∧ Stand p l e R s m args below meth c B.U B.locs B.cells B.slots ∧ PostX ⟨T.setVm vm₁, locs, cells, slots⟩ argsL.toArray q B ∧
      Steps p.tables e below (T.setTop g) ((B.U.setTop { g with stack := rest }).pushFrame (.throwing q))) := by
  obtain ⟨mk, methM, cM, hnamed, hmethM, -, -, -, -, -, -, hsigM⟩ := Cond.codeWith_spec hcode
  have hstatic : methM.isStatic = true := Cond.static_spec hnamed hmethM hstat
  obtain ⟨kP, hkP, -⟩ := className_of_methodNamed hnamed
  have hinitP : kP.init = .initialized := Cond.initialized_spec (findClass_of_methodNamed hnamed) hkP hinit
  obtain ⟨vm₁, X₁, hstep₁⟩ := X.invokestatic hexec hown hlink hnamed hmethM hstatic hkP hinitP hy (g := g) hg (argsL := argsL) (rest := rest) (hlen _ hsigM) hstack hdg
  rcases hK m meth c ⟨T.setVm vm₁, locs, cells, slots⟩ { g with stack := rest } (.invokestatic index) mk argsL.toArray X₁ hg hsize hdg hW (X₁.named hnamed) (hpre vm₁ X₁.warmed) with ⟨v, B, X', hpost, hsteps⟩ | ⟨q, B, X', hpost, hsteps⟩
  · exact Or.inl ⟨v, vm₁, B, X₁.warmed, X', hpost, fun target h => hstep₁ _ fun acts => by rw [doInvoke_state]; exact hsteps.trans h⟩
  · exact Or.inr ⟨q, vm₁, B, X₁.warmed, X', hpost, hstep₁ _ fun acts => by rw [doInvoke_state]; exact hsteps⟩
theorem vx_callVW (X : Stand p l e R s m args below meth c T locs cells slots) (hexec : p.tables.exec = Jvm.exec) {own C : String} {index : Nat} {y : MethodName} {bytes : ByteArray} {maxL : Nat} {ret : Option FieldType} {hh : List (Nat × Nat × Nat × Nat)}
    (hown : s.vm.findClass own = some m.cls) (hlink : (Cond.methodLink own index y).before args s = true) (hinst : (Cond.instanceMethod y).before args s = true) (hsel : (Cond.selects C y y).before args s = true)
    (hcode : (Cond.codeWith y bytes maxL ret hh).before args s = true) (hy : y.cls ≠ "java/lang/invoke/MethodHandle" ∧ y.cls ≠ "java/lang/invoke/VarHandle")
    {W9 : Nat} {Pre : Pt → Array Value → Prop} {Post : Pt → Array Value → Option Value → Pt → Prop} (hK : Back l R p e below s args y 3 W9 Pre Post)
    {b : Addr} {cellB : Cell} (hcell : T.heap[b]? = some cellB) (hobj : cellB.vm.isStatics = false) (hcls : s.vm.findClass C = some cellB.cls)
    {g : JFrame} (hg : g.method = m) (hsize : g.locals.size = c.maxLocals) {argsL rest : List Value} (hlen : ∀ sig, parseMethodDescriptor y.desc = some sig → argsL.length = sig.parameters.length)
    (hstack : g.stack = argsL.reverse ++ .ref b :: rest) (hW : 2 * g.monitorRoom + (rest.map fun v => v.category).sum ≤ W9) (hdg : decode c.code g.pc = .ok (.invokevirtual index, 3))
    (hpre : ∀ vm₁, s.WarmedH vm₁ → Pre ⟨T.setVm vm₁, locs, cells, slots⟩ (Value.ref b :: argsL).toArray) :
    ∃ (v : Option Value) (vm₁ : Vm) (B : Pt), s.WarmedH vm₁ ∧ Stand p l e R s m args below meth c B.U B.locs B.cells B.slots ∧ Post ⟨T.setVm vm₁, locs, cells, slots⟩ (Value.ref b :: argsL).toArray v B ∧
      ∀ target, Steps p.tables e below (B.U.setTop { g with pc := g.pc + 3, stack := v.toList ++ rest }) target → Steps p.tables e below (T.setTop g) target := by
  obtain ⟨mk, methM, hnamed, hmethM, hstM, habM⟩ := Cond.instanceMethod_spec hinst
  obtain ⟨m8, methM', cM, hn8, hmethM', -, -, -, -, -, -, hsigM⟩ := Cond.codeWith_spec hcode
  cases Option.some.inj (hn8.symm.trans hnamed)
  cases hmethM.symm.trans hmethM'
  obtain ⟨c2, r2, m2, q1, q2, q3, q4, kP, hkP, hkPi⟩ := Cond.selects_spec hsel
  cases hcls.symm.trans q1
  cases (State.methodFound?_of_named hnamed hy).symm.trans q2
  cases hnamed.symm.trans q3
  have hselP : selectMethod e.platform s.vm cellB.cls mk = .method mk := by rw [Launch.admits_selectMethod X.admits]; exact q4
  obtain ⟨vm₁, X₁, hstep₁⟩ := X.invokevirtual hexec hown hlink hnamed hmethM hstM hkP hkPi hy (a := b) (cell := cellB) hcell
    (fun z h => by rw [h] at hobj; cases hobj) hselP hmethM habM hkP hkPi (g := g) hg (argsL := argsL) (rest := rest) (hlen _ hsigM) hstack hdg
  obtain ⟨v, B, X', hpost, hsteps⟩ := hK m meth c ⟨T.setVm vm₁, locs, cells, slots⟩ { g with stack := rest } (.invokevirtual index) mk (Value.ref b :: argsL).toArray X₁ hg hsize hdg hW (X₁.named hnamed) (hpre vm₁ X₁.warmed)
  exact ⟨v, vm₁, B, X₁.warmed, X', hpost, fun target h => hstep₁ _ fun acts => by rw [doInvoke_state]; exact hsteps.trans h⟩
abbrev vx_CVW (R : Room) (s : State) (args : Array Value) (own C : String) (index : Nat) (y : MethodName) (bytes : ByteArray) (maxL : Nat) (ret : Option FieldType) (hh : List (Nat × Nat × Nat × Nat)) (ws : List Cond) (rm : Room) (mc ms n : Nat) : Prop :=
  (rm.cells = mc ∧ rm.slots = ms ∧ rm.frames + 1 ≤ R.frames ∧ 8 + (maxL + 11) + rm.locals ≤ R.locals ∧ (∀ w ∈ ws, ∀ (a' : Array Value) (U : State), s.WarmedH U.vm → w.before a' U = true) ∧ Cond.codeWith y bytes maxL ret hh ∈ ws) ∧
  (Cond.codeWith y bytes maxL ret hh).before args s = true ∧ (Cond.initialized y.cls).before args s = true ∧ (y.cls ≠ "java/lang/invoke/MethodHandle" ∧ y.cls ≠ "java/lang/invoke/VarHandle") ∧
  (∀ sig, parseMethodDescriptor y.desc = some sig → n = sig.parameters.length) ∧ (Cond.methodLink own index y).before args s = true ∧ (Cond.instanceMethod y).before args s = true ∧ (Cond.selects C y y).before args s = true
theorem vx_cwVW {own C : String} {index maxL mc ms : Nat} {y : MethodName} {bytes : ByteArray} {ret : Option FieldType} {hh : List (Nat × Nat × Nat × Nat)} {Ts ws ws' : List Cond} {rm : Room} (n : Nat) (ht : ∀ w ∈ Ts, w.before args s = true) (hT : GoodIn Ts (wsV own index C y ws)) (hw : ws = Cond.codeWith y bytes maxL ret hh :: ws') (hrc : rm.cells = mc) (hrs : rm.slots = ms)
    (hd : y.cls = C ∧ y.cls ≠ "java/lang/invoke/MethodHandle" ∧ y.cls ≠ "java/lang/invoke/VarHandle" ∧ (parseMethodDescriptor y.desc).map (fun d => d.parameters.length) = some n) (hR : rm.frames + 1 ≤ R.frames ∧ 8 + (maxL + 11) + rm.locals ≤ R.locals) :
    vx_CVW R s args own C index y bytes maxL ret hh ws rm mc ms n := by
  obtain ⟨hC, hd⟩ := hd
  subst hC
  have ok : ∀ w ∈ wsV own index y.cls y ws, w.before args s = true := fun w h => ht w (hT w h).1
  have hG : GoodIn Ts ws := fun w h => hT w (by unfold wsV; exact List.mem_append_right _ h)
  have hc : Cond.codeWith y bytes maxL ret hh ∈ ws := by rw [hw]; exact List.mem_cons_self
  refine ⟨⟨hrc, hrs, hR.1, hR.2, pay_in ht hG, hc⟩, ht _ (hG _ hc).1, ok _ (by simp [wsV]), ⟨hd.1, hd.2.1⟩, fun sig h => ?_, ok _ (by simp [wsV]), ok _ (by simp [wsV]), ok _ (by simp [wsV])⟩
  have h2 := hd.2.2
  rw [h] at h2
  exact (Option.some.inj h2).symm
theorem vx_runVW {y : MethodName} {bytes cc : ByteArray} {maxL nL mc ms n index : Nat} {ret : Option FieldType} {hh : List (Nat × Nat × Nat × Nat)} {ws : List Cond} {rm : Room} {Pc : Array Value → State → Prop} {Qc : Array Value → State → Outcome → State → Prop} {free : Addr → Prop} {Ts : List Cond} {own C : String} {b : Addr} {As rest : List Value} {g : JFrame}
    (S : CallFix p m c cc nL s args Ts own) (hM : Met l y ws rm Pc Qc mc ms free) (cw : vx_CVW R s args own C index y bytes maxL ret hh ws rm mc ms n) (hp : PreV s H C b Pc As)
    (hg : g.method = m) (hn : As.length = n) (hsize : g.locals.size = nL) (hstack : g.stack = As.reverse ++ .ref b :: rest) (hW : 2 * g.monitorRoom + (rest.map fun v => v.category).sum ≤ 8) (hdg : decode cc g.pc = .ok (.invokevirtual index, 3)) (hf : cells + mc ≤ R.cells ∧ slots + ms ≤ R.slots) :
    va_Run p l e R s m args below meth c H locs cells slots mc ms g rest (Qc (Value.ref b :: As).toArray) free := by
  obtain ⟨⟨hrc, hrs, hfr, hlo, hws, hcw⟩, hcode, hini, hy, hlen, hl, hin, hse⟩ := cw
  have hK : Back l R p e below s args y 3 8 (PreOf R mc ms Pc) (PostOf Qc mc ms free) := va_backW (hh := hh) (bytes := bytes) (maxL := maxL) (ret := ret) hM hp.1 hrc hrs hfr hlo hws hcw (fun a' U hW => word_at hW (Or.inl (by first | rfl | simp [Cond.onTables, Cond.keeps, Cond.steady])) hini)
  obtain ⟨hx, hb, hml, ho, -⟩ := S
  obtain ⟨-, ⟨cellB, hcB, hoB, hclB⟩, hPc⟩ := hp
  intro T hT X
  obtain ⟨v, vm₁, ⟨U', l2, c2, s2⟩, hW₁, X', ⟨g', mk, t, L, e1, e2, hq, h1, hL, h2, h3⟩, st⟩ := vx_callVW X hx (C := C) (hh := hh) (bytes := bytes) (maxL := maxL) (ret := ret) ho hl hin hse hcode hy hK (by rw [hT]; exact hcB) hoB hclB hg (hsize.trans hml.symm) (argsL := As) (rest := rest) (fun sig h => hn.trans (hlen sig h)) hstack hW (by rw [hb]; exact hdg)
    (fun vm₁ hW₁ => ⟨hf.1, hf.2, hPc (T.setVm vm₁) hT hW₁⟩)
  dsimp only [Pt.U, Pt.locs, Pt.cells, Pt.slots] at X' e1 e2 h1 h2 h3 st
  subst h1; subst h2; subst h3
  exact ⟨v, (T.setVm vm₁).calling g' mk (Value.ref b :: As).toArray, t, U', L, hT, X', hL, e1, e2, hq, st⟩
section
variable {y : MethodName} {bytes cc : ByteArray} {maxL nL mc ms n index : Nat} {ret : Option FieldType} {ws : List Cond} {rm : Room} {Pc : Array Value → State → Prop} {Qc : Array Value → State → Outcome → State → Prop} {XC : String → State → State → Prop} {free : Addr → Prop} {Ts : List Cond} {own C : String} {b : Addr} {As rest : List Value} {g : JFrame}
theorem vx_runVX {hh : List (Nat × Nat × Nat × Nat)} (S : CallFix p m c cc nL s args Ts own) (hM : vx_Met l y ws rm Pc Qc XC mc ms free) (cw : vx_CVW R s args own C index y bytes maxL ret hh ws rm mc ms n) (hp : PreV s H C b Pc As)
    (hg : g.method = m) (hn : As.length = n) (hsize : g.locals.size = nL) (hstack : g.stack = As.reverse ++ .ref b :: rest) (hW : 2 * g.monitorRoom + (rest.map fun v => v.category).sum ≤ 8) (hdg : decode cc g.pc = .ok (.invokevirtual index, 3)) (hf : cells + mc ≤ R.cells ∧ slots + ms ≤ R.slots) :
    vx_Run p l e R s m args below meth c H locs cells slots mc ms g rest (Qc (Value.ref b :: As).toArray) XC free := by
  obtain ⟨⟨hrc, hrs, hfr, hlo, hws, hcw⟩, hcode, hini, hy, hlen, hl, hin, hse⟩ := cw
  have hK : vx_Back l R p e below s args y 3 8 (PreOf R mc ms Pc) (PostOf Qc mc ms free) (vx_Post XC mc ms free) := vx_backW (hh := hh) (bytes := bytes) (maxL := maxL) (ret := ret) hM hp.1 hrc hrs hfr hlo hws hcw (fun a' U hW => word_at hW (Or.inl (by first | rfl | simp [Cond.onTables, Cond.keeps, Cond.steady])) hini)
  obtain ⟨hx, hb, hml, ho, -⟩ := S
  obtain ⟨-, ⟨cellB, hcB, hoB, hclB⟩, hPc⟩ := hp
  intro T hT X
  rcases vx_callVX X hx (C := C) (hh := hh) (bytes := bytes) (maxL := maxL) (ret := ret) ho hl hin hse hcode hy hK (by rw [hT]; exact hcB) hoB hclB hg (hsize.trans hml.symm) (argsL := As) (rest := rest) (fun sig h => hn.trans (hlen sig h)) hstack hW (by rw [hb]; exact hdg)
    (fun vm₁ hW₁ => ⟨hf.1, hf.2, hPc (T.setVm vm₁) hT hW₁⟩) with ⟨v, vm₁, ⟨U', l2, c2, s2⟩, hW₁, X', ⟨g', mk, t, L, e1, e2, hq, h1, hL, h2, h3⟩, st⟩ | ⟨q, vm₁, ⟨U', l2, c2, s2⟩, hW₁, X', ⟨g', mk, t, L, E, ce, e1, e2, hq, hce, hcv, hcl, h1, hL, h2, h3⟩, st⟩
  · dsimp only [Pt.U, Pt.locs, Pt.cells, Pt.slots] at X' e1 e2 h1 h2 h3 st
    subst h1; subst h2; subst h3
    exact Or.inl ⟨v, (T.setVm vm₁).calling g' mk (Value.ref b :: As).toArray, t, U', L, hT, X', hL, e1, e2, hq, st⟩
  · dsimp only [Pt.U, Pt.locs, Pt.cells, Pt.slots] at X' e1 e2 h1 h2 h3 st hcl
    subst h1; subst h2; subst h3
    exact Or.inr ⟨q, (T.setVm vm₁).calling g' mk (Value.ref b :: As).toArray, t, U', L, E, ce, hT, X', hL, e1, e2, hq, hce, hcv, vx_cls hW₁ hcl, st⟩
theorem vx_runSX {hh : List (Nat × Nat × Nat × Nat)} (S : CallFix p m c cc nL s args Ts own) (hM : vx_Met l y ws rm Pc Qc XC mc ms free) (cw : vx_CSW R s args own index y bytes maxL ret hh ws rm mc ms n) (hp : PreS s H Pc As)
    (hg : g.method = m) (hn : As.length = n) (hsize : g.locals.size = nL) (hstack : g.stack = As.reverse ++ rest) (hW : 2 * g.monitorRoom + (rest.map fun v => v.category).sum ≤ 8) (hdg : decode cc g.pc = .ok (.invokestatic index, 3)) (hf : cells + mc ≤ R.cells ∧ slots + ms ≤ R.slots) :
    vx_Run p l e R s m args below meth c H locs cells slots mc ms g rest (Qc As.toArray) XC free := by
  obtain ⟨⟨hrc, hrs, hfr, hlo, hws, hcw⟩, hcode, hini, hy, hlen, hl, hstt⟩ := cw
  have hK : vx_Back l R p e below s args y 3 8 (PreOf R mc ms Pc) (PostOf Qc mc ms free) (vx_Post XC mc ms free) := vx_backW (hh := hh) (bytes := bytes) (maxL := maxL) (ret := ret) hM hp.1 hrc hrs hfr hlo hws hcw (fun a' U hW => word_at hW (Or.inl (by first | rfl | simp [Cond.onTables, Cond.keeps, Cond.steady])) hini)
  obtain ⟨hx, hb, hml, ho, -⟩ := S
  intro T hT X
  rcases vx_callSX X hx (hh := hh) (bytes := bytes) (maxL := maxL) (ret := ret) ho hl hstt hini hcode hy hK hg (hsize.trans hml.symm) (argsL := As) (rest := rest) (fun sig h => hn.trans (hlen sig h)) hstack hW (by rw [hb]; exact hdg)
    (fun vm₁ hW₁ => ⟨hf.1, hf.2, hp.2 (T.setVm vm₁) hT hW₁⟩) with ⟨v, vm₁, ⟨U', l2, c2, s2⟩, hW₁, X', ⟨g', mk, t, L, e1, e2, hq, h1, hL, h2, h3⟩, st⟩ | ⟨q, vm₁, ⟨U', l2, c2, s2⟩, hW₁, X', ⟨g', mk, t, L, E, ce, e1, e2, hq, hce, hcv, hcl, h1, hL, h2, h3⟩, st⟩
  · dsimp only [Pt.U, Pt.locs, Pt.cells, Pt.slots] at X' e1 e2 h1 h2 h3 st
    subst h1; subst h2; subst h3
    exact Or.inl ⟨v, (T.setVm vm₁).calling g' mk As.toArray, t, U', L, hT, X', hL, e1, e2, hq, st⟩
  · dsimp only [Pt.U, Pt.locs, Pt.cells, Pt.slots] at X' e1 e2 h1 h2 h3 st hcl
    subst h1; subst h2; subst h3
    exact Or.inr ⟨q, (T.setVm vm₁).calling g' mk As.toArray, t, U', L, E, ce, hT, X', hL, e1, e2, hq, hce, hcv, vx_cls hW₁ hcl, st⟩
end
end VXH
theorem vx_ofWH {l : Launch} {y : MethodName} {ws ws' : List Cond} {rm : Room} {Pc : Array Value → State → Prop} {Qc : Array Value → State → Outcome → State → Prop} {XC : String → State → State → Prop} {mc ms : Nat} {free : Addr → Prop} {cc : ByteArray} {maxL : Nat} {ret : Option FieldType} {hh : List (Nat × Nat × Nat × Nat)}
    (hy : plainName y.cls = true) (hw : ws = Cond.codeWith y cc maxL ret hh :: ws')
    (body : ∀ p e s m args below meth c s₁, BodyLoose p l y (headSpec ws rm) cc maxL ret e s m args below meth c s₁ → c.maxLocals = maxL → Pc args s →
      W p l e (headSpec ws rm).room s m args below meth c s.heap [] 0 0 (vx_MQ below Qc XC args s mc ms free) (entryFrame m args maxL)) : vx_Met l y ws rm Pc Qc XC mc ms free := by
  refine MetFree.of_bodyS (code := cc) (maxLocals := maxL) (ret := ret) hy ?_ ?_
  · intro args s m h hn
    obtain ⟨m9, meth, c, hn9, h1, h2, h3, h4, -, h5, h6, -⟩ := Cond.codeWith_spec (atoms_spec (ws := ws) h _ (by rw [hw]; exact List.mem_cons_self))
    cases hn.symm.trans hn9
    exact ⟨meth, c, h1, h2, h3, h4, h5, h6⟩
  · intro p e s m args below meth c s₁ B hml hP _
    have hh0 : s₁.heap = s.heap := by rw [B.state]; rfl
    obtain ⟨t, a1, o, b1, b2, b3⟩ := body p e s m args below meth c s₁ B hml hP s₁ hh0 (Stand.of_body B)
    exact ⟨t, o, a1, b1, b2, b3⟩
/-! ===== END ===== -/
end
section
def RX0 : String := "ZoneCapacity$Auction"
def TX0 : u_T := fun k => match k with
  | 0 => ("ZoneCapacity$Auction", "market", "LZoneCapacity$Market;", true)
  | 1 => ("ZoneCapacity$Auction", "prices", "[I", true)
  | 2 => ("ZoneCapacity$Auction", "nets", "[I", true)
  | 3 => ("ZoneCapacity$Auction", "servedUnits", "[I", true)
  | 4 => ("ZoneCapacity$Auction", "takenUnits", "[I", true)
  | 5 => ("ZoneCapacity$Auction", "units", "[I", true)
  | 6 => ("ZoneCapacity$Auction", "its", "[I", true)
  | 7 => ("ZoneCapacity$Auction", "levels", "[I", true)
  | 8 => ("ZoneCapacity$Auction", "lows", "[I", true)
  | 9 => ("ZoneCapacity$Auction", "highs", "[I", true)
  | 10 => ("ZoneCapacity$Auction", "filledAt", "I", false)
  | _ => ("ZoneCapacity$Auction", "top", "I", false)
def tyX0 : Nat → FieldType := fun k => match k with
  | 0 => .object "ZoneCapacity$Market"
  | 1 => .array .int
  | 2 => .array .int
  | 3 => .array .int
  | 4 => .array .int
  | 5 => .array .int
  | 6 => .array .int
  | 7 => .array .int
  | 8 => .array .int
  | 9 => .array .int
  | 10 => .int
  | _ => .int
theorem nmX0 : ∀ a, a < 12 → ∀ b, b < 12 → a ≠ b → (TX0 a).2.1 ≠ (TX0 b).2.1 := by decide +kernel
theorem tyX0_ok : ∀ k, k < 12 → parseFieldDescriptor (TX0 k).2.2.1 = some (tyX0 k) := by decide +kernel
abbrev cX0_init : ByteArray := prog_2_method_1_code
def yX0_init : MethodName := ⟨RX0, "<init>", "()V"⟩
abbrev cX0_clear : ByteArray := prog_2_method_2_code
def yX0_clear : MethodName := ⟨RX0, "clear", "()V"⟩
abbrev cX0_levelOf : ByteArray := prog_2_method_3_code
def yX0_levelOf : MethodName := ⟨RX0, "levelOf", "(II)I"⟩
abbrev cX0_readLines : ByteArray := prog_2_method_4_code
def yX0_readLines : MethodName := ⟨RX0, "readLines", "()V"⟩
abbrev cX0_readTop : ByteArray := prog_2_method_5_code
def yX0_readTop : MethodName := ⟨RX0, "readTop", "()V"⟩
abbrev cX0_fillLevels : ByteArray := prog_2_method_6_code
def yX0_fillLevels : MethodName := ⟨RX0, "fillLevels", "(II[I)V"⟩
abbrev cX0_unitsBelow : ByteArray := prog_2_method_7_code
def yX0_unitsBelow : MethodName := ⟨RX0, "unitsBelow", "(II)I"⟩
abbrev cX0_leastPrice : ByteArray := prog_2_method_8_code
def yX0_leastPrice : MethodName := ⟨RX0, "leastPrice", "(II)I"⟩
abbrev cX0_part : ByteArray := prog_2_method_9_code
def yX0_part : MethodName := ⟨RX0, "part", "(I)V"⟩
abbrev cX0_partToLines : ByteArray := prog_2_method_10_code
def yX0_partToLines : MethodName := ⟨RX0, "partToLines", "(III)I"⟩
abbrev cX0_partToInner : ByteArray := prog_2_method_11_code
def yX0_partToInner : MethodName := ⟨RX0, "partToInner", "(III)I"⟩
abbrev cX0_takenOf : ByteArray := prog_2_method_12_code
def yX0_takenOf : MethodName := ⟨RX0, "takenOf", "(I)I"⟩
abbrev cX0_boundOf : ByteArray := prog_2_method_13_code
def yX0_boundOf : MethodName := ⟨RX0, "boundOf", "(I)I"⟩
abbrev cX0_surplusOfAll : ByteArray := prog_2_method_14_code
def yX0_surplusOfAll : MethodName := ⟨RX0, "surplusOfAll", "()J"⟩
abbrev cX0_rentOf : ByteArray := prog_2_method_15_code
def yX0_rentOf : MethodName := ⟨RX0, "rentOf", "(I)J"⟩
abbrev cX0_paidTo : ByteArray := prog_2_method_16_code
def yX0_paidTo : MethodName := ⟨RX0, "paidTo", "(I)J"⟩
abbrev cX0_paidToOwner : ByteArray := prog_2_method_17_code
def yX0_paidToOwner : MethodName := ⟨RX0, "paidToOwner", "(I)J"⟩
def RX1 : String := "ZoneCapacity$Market"
def TX1 : u_T := fun k => match k with
  | 0 => ("ZoneCapacity$Market", "zones", "LZoneCapacity$Zones;", true)
  | _ => ("ZoneCapacity$Market", "offers", "LZoneCapacity$Offers;", true)
def tyX1 : Nat → FieldType := fun k => match k with
  | 0 => .object "ZoneCapacity$Zones"
  | _ => .object "ZoneCapacity$Offers"
theorem nmX1 : ∀ a, a < 2 → ∀ b, b < 2 → a ≠ b → (TX1 a).2.1 ≠ (TX1 b).2.1 := by decide +kernel
theorem tyX1_ok : ∀ k, k < 2 → parseFieldDescriptor (TX1 k).2.2.1 = some (tyX1 k) := by decide +kernel
abbrev cX1_init : ByteArray := prog_3_method_1_code
def yX1_init : MethodName := ⟨RX1, "<init>", "()V"⟩
abbrev cX1_copyFrom : ByteArray := prog_3_method_2_code
def yX1_copyFrom : MethodName := ⟨RX1, "copyFrom", "(LZoneCapacity$Market;)V"⟩
def RX2 : String := "ZoneCapacity$Offers"
def TX2 : u_T := fun k => match k with
  | 0 => ("ZoneCapacity$Offers", "many", "I", false)
  | 1 => ("ZoneCapacity$Offers", "ceiling", "I", false)
  | 2 => ("ZoneCapacity$Offers", "floors", "[I", true)
  | 3 => ("ZoneCapacity$Offers", "zones", "[I", true)
  | 4 => ("ZoneCapacity$Offers", "sizes", "[I", true)
  | 5 => ("ZoneCapacity$Offers", "kinds", "[I", true)
  | 6 => ("ZoneCapacity$Offers", "owners", "[I", true)
  | 7 => ("ZoneCapacity$Offers", "must", "[I", true)
  | 8 => ("ZoneCapacity$Offers", "free", "[I", true)
  | 9 => ("ZoneCapacity$Offers", "steps", "[I", true)
  | 10 => ("ZoneCapacity$Offers", "stepUnits", "[I", true)
  | _ => ("ZoneCapacity$Offers", "stepPrices", "[I", true)
def tyX2 : Nat → FieldType := fun k => match k with
  | 0 => .int
  | 1 => .int
  | 2 => .array .int
  | 3 => .array .int
  | 4 => .array .int
  | 5 => .array .int
  | 6 => .array .int
  | 7 => .array .int
  | 8 => .array .int
  | 9 => .array .int
  | 10 => .array .int
  | _ => .array .int
theorem nmX2 : ∀ a, a < 12 → ∀ b, b < 12 → a ≠ b → (TX2 a).2.1 ≠ (TX2 b).2.1 := by decide +kernel
theorem tyX2_ok : ∀ k, k < 12 → parseFieldDescriptor (TX2 k).2.2.1 = some (tyX2 k) := by decide +kernel
abbrev cX2_init : ByteArray := prog_4_method_1_code
def yX2_init : MethodName := ⟨RX2, "<init>", "()V"⟩
abbrev cX2_copyFrom : ByteArray := prog_4_method_2_code
def yX2_copyFrom : MethodName := ⟨RX2, "copyFrom", "(LZoneCapacity$Offers;)V"⟩
abbrev cX2_has : ByteArray := prog_4_method_3_code
def yX2_has : MethodName := ⟨RX2, "has", "(I)Z"⟩
abbrev cX2_add : ByteArray := prog_4_method_4_code
def yX2_add : MethodName := ⟨RX2, "add", "(IIIIZZ)I"⟩
abbrev cX2_addStep : ByteArray := prog_4_method_5_code
def yX2_addStep : MethodName := ⟨RX2, "addStep", "(III)I"⟩
abbrev cX2_dropSteps : ByteArray := prog_4_method_6_code
def yX2_dropSteps : MethodName := ⟨RX2, "dropSteps", "(I)I"⟩
abbrev cX2_lastPrice : ByteArray := prog_4_method_7_code
def yX2_lastPrice : MethodName := ⟨RX2, "lastPrice", "(I)I"⟩
abbrev cX2_rest : ByteArray := prog_4_method_8_code
def yX2_rest : MethodName := ⟨RX2, "rest", "(I)I"⟩
abbrev cX2_changeCeiling : ByteArray := prog_4_method_9_code
def yX2_changeCeiling : MethodName := ⟨RX2, "changeCeiling", "(I)Z"⟩
abbrev cX2_dropFloors : ByteArray := prog_4_method_10_code
def yX2_dropFloors : MethodName := ⟨RX2, "dropFloors", "()V"⟩
abbrev cX2_silence : ByteArray := prog_4_method_11_code
def yX2_silence : MethodName := ⟨RX2, "silence", "(I)V"⟩
abbrev cX2_silenceOwner : ByteArray := prog_4_method_12_code
def yX2_silenceOwner : MethodName := ⟨RX2, "silenceOwner", "(I)V"⟩
abbrev cX2_bitsIn : ByteArray := prog_4_method_13_code
def yX2_bitsIn : MethodName := ⟨RX2, "bitsIn", "(I)I"⟩
abbrev cX2_hasLine : ByteArray := prog_4_method_14_code
def yX2_hasLine : MethodName := ⟨RX2, "hasLine", "(II)Z"⟩
abbrev cX2_unitsOf : ByteArray := prog_4_method_15_code
def yX2_unitsOf : MethodName := ⟨RX2, "unitsOf", "(II)I"⟩
abbrev cX2_itsOf : ByteArray := prog_4_method_16_code
def yX2_itsOf : MethodName := ⟨RX2, "itsOf", "(II)I"⟩
def RX3 : String := "ZoneCapacity$Tape"
def TX3 : u_T := fun k => match k with
  | 0 => ("ZoneCapacity$Tape", "bytes", "[I", true)
  | _ => ("ZoneCapacity$Tape", "length", "I", false)
def tyX3 : Nat → FieldType := fun k => match k with
  | 0 => .array .int
  | _ => .int
theorem nmX3 : ∀ a, a < 2 → ∀ b, b < 2 → a ≠ b → (TX3 a).2.1 ≠ (TX3 b).2.1 := by decide +kernel
theorem tyX3_ok : ∀ k, k < 2 → parseFieldDescriptor (TX3 k).2.2.1 = some (tyX3 k) := by decide +kernel
abbrev cX3_init : ByteArray := prog_5_method_1_code
def yX3_init : MethodName := ⟨RX3, "<init>", "()V"⟩
abbrev cX3_append : ByteArray := prog_5_method_2_code
def yX3_append : MethodName := ⟨RX3, "append", "(I)V"⟩
def RX4 : String := "ZoneCapacity$Teller"
def TX4 : u_T := fun k => match k with
  | 0 => ("ZoneCapacity$Teller", "tape", "LZoneCapacity$Tape;", true)
  | 1 => ("ZoneCapacity$Teller", "draft", "LZoneCapacity$Market;", true)
  | 2 => ("ZoneCapacity$Teller", "fault", "I", false)
  | 3 => ("ZoneCapacity$Teller", "token", "I", false)
  | 4 => ("ZoneCapacity$Teller", "place", "I", false)
  | 5 => ("ZoneCapacity$Teller", "number", "I", false)
  | 6 => ("ZoneCapacity$Teller", "next", "I", false)
  | _ => ("ZoneCapacity$Teller", "got", "I", false)
def tyX4 : Nat → FieldType := fun k => match k with
  | 0 => .object "ZoneCapacity$Tape"
  | 1 => .object "ZoneCapacity$Market"
  | 2 => .int
  | 3 => .int
  | 4 => .int
  | 5 => .int
  | 6 => .int
  | _ => .int
theorem nmX4 : ∀ a, a < 8 → ∀ b, b < 8 → a ≠ b → (TX4 a).2.1 ≠ (TX4 b).2.1 := by decide +kernel
theorem tyX4_ok : ∀ k, k < 8 → parseFieldDescriptor (TX4 k).2.2.1 = some (tyX4 k) := by decide +kernel
abbrev cX4_init : ByteArray := prog_6_method_1_code
def yX4_init : MethodName := ⟨RX4, "<init>", "()V"⟩
abbrev cX4_tellAll : ByteArray := prog_6_method_2_code
def yX4_tellAll : MethodName := ⟨RX4, "tellAll", "()I"⟩
abbrev cX4_tellStatement : ByteArray := prog_6_method_3_code
def yX4_tellStatement : MethodName := ⟨RX4, "tellStatement", "()Z"⟩
abbrev cX4_tellZone : ByteArray := prog_6_method_4_code
def yX4_tellZone : MethodName := ⟨RX4, "tellZone", "()Z"⟩
abbrev cX4_tellCurve : ByteArray := prog_6_method_5_code
def yX4_tellCurve : MethodName := ⟨RX4, "tellCurve", "()Z"⟩
abbrev cX4_tellResource : ByteArray := prog_6_method_6_code
def yX4_tellResource : MethodName := ⟨RX4, "tellResource", "()Z"⟩
abbrev cX4_tellOffer : ByteArray := prog_6_method_7_code
def yX4_tellOffer : MethodName := ⟨RX4, "tellOffer", "()Z"⟩
abbrev cX4_tellFloor : ByteArray := prog_6_method_8_code
def yX4_tellFloor : MethodName := ⟨RX4, "tellFloor", "()Z"⟩
abbrev cX4_tellCeiling : ByteArray := prog_6_method_9_code
def yX4_tellCeiling : MethodName := ⟨RX4, "tellCeiling", "()Z"⟩
abbrev cX4_tellLimits : ByteArray := prog_6_method_10_code
def yX4_tellLimits : MethodName := ⟨RX4, "tellLimits", "()Z"⟩
abbrev cX4_takeNumber : ByteArray := prog_6_method_11_code
def yX4_takeNumber : MethodName := ⟨RX4, "takeNumber", "(II)Z"⟩
abbrev cX4_takeWord : ByteArray := prog_6_method_12_code
def yX4_takeWord : MethodName := ⟨RX4, "takeWord", "(Ljava/lang/String;)Z"⟩
abbrev cX4_takeEnd : ByteArray := prog_6_method_13_code
def yX4_takeEnd : MethodName := ⟨RX4, "takeEnd", "()Z"⟩
abbrev cX4_blame : ByteArray := prog_6_method_14_code
def yX4_blame : MethodName := ⟨RX4, "blame", "(II)Z"⟩
abbrev cX4_isWord : ByteArray := prog_6_method_15_code
def yX4_isWord : MethodName := ⟨RX4, "isWord", "(Ljava/lang/String;)Z"⟩
abbrev cX4_advance : ByteArray := prog_6_method_16_code
def yX4_advance : MethodName := ⟨RX4, "advance", "()V"⟩
abbrev cX4_isBlank : ByteArray := prog_6_method_17_code
def yX4_isBlank : MethodName := ⟨RX4, "isBlank", "(I)Z"⟩
abbrev cX4_isLetter : ByteArray := prog_6_method_18_code
def yX4_isLetter : MethodName := ⟨RX4, "isLetter", "(I)Z"⟩
abbrev cX4_isDigit : ByteArray := prog_6_method_19_code
def yX4_isDigit : MethodName := ⟨RX4, "isDigit", "(I)Z"⟩
def RX5 : String := "ZoneCapacity$Zones"
def TX5 : u_T := fun k => match k with
  | 0 => ("ZoneCapacity$Zones", "many", "I", false)
  | 1 => ("ZoneCapacity$Zones", "outer", "[I", true)
  | 2 => ("ZoneCapacity$Zones", "in", "[I", true)
  | 3 => ("ZoneCapacity$Zones", "out", "[I", true)
  | 4 => ("ZoneCapacity$Zones", "points", "[I", true)
  | 5 => ("ZoneCapacity$Zones", "pointUnits", "[I", true)
  | _ => ("ZoneCapacity$Zones", "pointPrices", "[I", true)
def tyX5 : Nat → FieldType := fun k => match k with
  | 0 => .int
  | 1 => .array .int
  | 2 => .array .int
  | 3 => .array .int
  | 4 => .array .int
  | 5 => .array .int
  | _ => .array .int
theorem nmX5 : ∀ a, a < 7 → ∀ b, b < 7 → a ≠ b → (TX5 a).2.1 ≠ (TX5 b).2.1 := by decide +kernel
theorem tyX5_ok : ∀ k, k < 7 → parseFieldDescriptor (TX5 k).2.2.1 = some (tyX5 k) := by decide +kernel
abbrev cX5_init : ByteArray := prog_7_method_1_code
def yX5_init : MethodName := ⟨RX5, "<init>", "()V"⟩
abbrev cX5_copyFrom : ByteArray := prog_7_method_2_code
def yX5_copyFrom : MethodName := ⟨RX5, "copyFrom", "(LZoneCapacity$Zones;)V"⟩
abbrev cX5_has : ByteArray := prog_7_method_3_code
def yX5_has : MethodName := ⟨RX5, "has", "(I)Z"⟩
abbrev cX5_hasInner : ByteArray := prog_7_method_4_code
def yX5_hasInner : MethodName := ⟨RX5, "hasInner", "(I)Z"⟩
abbrev cX5_add : ByteArray := prog_7_method_5_code
def yX5_add : MethodName := ⟨RX5, "add", "(III)I"⟩
abbrev cX5_addPoint : ByteArray := prog_7_method_6_code
def yX5_addPoint : MethodName := ⟨RX5, "addPoint", "(III)I"⟩
abbrev cX5_dropPoints : ByteArray := prog_7_method_7_code
def yX5_dropPoints : MethodName := ⟨RX5, "dropPoints", "(I)I"⟩
abbrev cX5_wanted : ByteArray := prog_7_method_8_code
def yX5_wanted : MethodName := ⟨RX5, "wanted", "(I)I"⟩
abbrev cX5_firstPrice : ByteArray := prog_7_method_9_code
def yX5_firstPrice : MethodName := ⟨RX5, "firstPrice", "(I)I"⟩
abbrev cX5_lastPrice : ByteArray := prog_7_method_10_code
def yX5_lastPrice : MethodName := ⟨RX5, "lastPrice", "(I)I"⟩
abbrev cX5_worthOf : ByteArray := prog_7_method_11_code
def yX5_worthOf : MethodName := ⟨RX5, "worthOf", "(II)I"⟩
abbrev cX5_fallen : ByteArray := prog_7_method_12_code
def yX5_fallen : MethodName := ⟨RX5, "fallen", "(III)I"⟩
abbrev cX5_worthOfFirst : ByteArray := prog_7_method_13_code
def yX5_worthOfFirst : MethodName := ⟨RX5, "worthOfFirst", "(II)J"⟩
abbrev cX5_wantedFrom : ByteArray := prog_7_method_14_code
def yX5_wantedFrom : MethodName := ⟨RX5, "wantedFrom", "(II)I"⟩
abbrev cX5_wantedBetween : ByteArray := prog_7_method_15_code
def yX5_wantedBetween : MethodName := ⟨RX5, "wantedBetween", "(IIII)I"⟩
abbrev cX5_cut : ByteArray := prog_7_method_16_code
def yX5_cut : MethodName := ⟨RX5, "cut", "(II)I"⟩
def RX6 : String := "ZoneCapacity"
def TX6 : u_T := fun k => match k with
  | 0 => ("ZoneCapacity", "now", "LZoneCapacity$Auction;", true)
  | 1 => ("ZoneCapacity", "trial", "LZoneCapacity$Auction;", true)
  | 2 => ("ZoneCapacity", "teller", "LZoneCapacity$Teller;", true)
  | 3 => ("ZoneCapacity", "firstKept", "LZoneCapacity$Market;", true)
  | 4 => ("ZoneCapacity", "secondKept", "LZoneCapacity$Market;", true)
  | 5 => ("ZoneCapacity", "firstIsKept", "Z", false)
  | _ => ("ZoneCapacity", "secondIsKept", "Z", false)
def tyX6 : Nat → FieldType := fun k => match k with
  | 0 => .object "ZoneCapacity$Auction"
  | 1 => .object "ZoneCapacity$Auction"
  | 2 => .object "ZoneCapacity$Teller"
  | 3 => .object "ZoneCapacity$Market"
  | 4 => .object "ZoneCapacity$Market"
  | 5 => .boolean
  | _ => .boolean
theorem nmX6 : ∀ a, a < 7 → ∀ b, b < 7 → a ≠ b → (TX6 a).2.1 ≠ (TX6 b).2.1 := by decide +kernel
theorem tyX6_ok : ∀ k, k < 7 → parseFieldDescriptor (TX6 k).2.2.1 = some (tyX6 k) := by decide +kernel
abbrev cX6_init : ByteArray := prog_1_method_1_code
def yX6_init : MethodName := ⟨RX6, "<init>", "()V"⟩
abbrev cX6_feed : ByteArray := prog_1_method_2_code
def yX6_feed : MethodName := ⟨RX6, "feed", "(IIIII)I"⟩
abbrev cX6_end : ByteArray := prog_1_method_3_code
def yX6_end : MethodName := ⟨RX6, "end", "(I)Z"⟩
abbrev cX6_tell : ByteArray := prog_1_method_4_code
def yX6_tell : MethodName := ⟨RX6, "tell", "()I"⟩
abbrev cX6_fault : ByteArray := prog_1_method_5_code
def yX6_fault : MethodName := ⟨RX6, "fault", "()I"⟩
abbrev cX6_zone : ByteArray := prog_1_method_6_code
def yX6_zone : MethodName := ⟨RX6, "zone", "(III)I"⟩
abbrev cX6_point : ByteArray := prog_1_method_7_code
def yX6_point : MethodName := ⟨RX6, "point", "(III)I"⟩
abbrev cX6_resource : ByteArray := prog_1_method_8_code
def yX6_resource : MethodName := ⟨RX6, "resource", "(IIIIZ)I"⟩
abbrev cX6_step : ByteArray := prog_1_method_9_code
def yX6_step : MethodName := ⟨RX6, "step", "(III)I"⟩
abbrev cX6_drop : ByteArray := prog_1_method_10_code
def yX6_drop : MethodName := ⟨RX6, "drop", "(IZ)I"⟩
abbrev cX6_set : ByteArray := prog_1_method_11_code
def yX6_set : MethodName := ⟨RX6, "set", "(III)Z"⟩
abbrev cX6_keep : ByteArray := prog_1_method_12_code
def yX6_keep : MethodName := ⟨RX6, "keep", "(I)Z"⟩
abbrev cX6_back : ByteArray := prog_1_method_13_code
def yX6_back : MethodName := ⟨RX6, "back", "(I)Z"⟩
abbrev cX6_count : ByteArray := prog_1_method_14_code
def yX6_count : MethodName := ⟨RX6, "count", "(I)I"⟩
abbrev cX6_zoneOf : ByteArray := prog_1_method_15_code
def yX6_zoneOf : MethodName := ⟨RX6, "zoneOf", "(II)I"⟩
abbrev cX6_resourceOf : ByteArray := prog_1_method_16_code
def yX6_resourceOf : MethodName := ⟨RX6, "resourceOf", "(II)I"⟩
abbrev cX6_line : ByteArray := prog_1_method_17_code
def yX6_line : MethodName := ⟨RX6, "line", "(IIZ)I"⟩
abbrev cX6_worth : ByteArray := prog_1_method_18_code
def yX6_worth : MethodName := ⟨RX6, "worth", "(II)I"⟩
abbrev cX6_wants : ByteArray := prog_1_method_19_code
def yX6_wants : MethodName := ⟨RX6, "wants", "(II)I"⟩
abbrev cX6_level : ByteArray := prog_1_method_20_code
def yX6_level : MethodName := ⟨RX6, "level", "(IIZ)I"⟩
abbrev cX6_price : ByteArray := prog_1_method_21_code
def yX6_price : MethodName := ⟨RX6, "price", "(I)I"⟩
abbrev cX6_net : ByteArray := prog_1_method_22_code
def yX6_net : MethodName := ⟨RX6, "net", "(I)I"⟩
abbrev cX6_served : ByteArray := prog_1_method_23_code
def yX6_served : MethodName := ⟨RX6, "served", "(I)I"⟩
abbrev cX6_taken : ByteArray := prog_1_method_24_code
def yX6_taken : MethodName := ⟨RX6, "taken", "(II)I"⟩
abbrev cX6_binds : ByteArray := prog_1_method_25_code
def yX6_binds : MethodName := ⟨RX6, "binds", "(I)I"⟩
abbrev cX6_surplus : ByteArray := prog_1_method_26_code
def yX6_surplus : MethodName := ⟨RX6, "surplus", "()J"⟩
abbrev cX6_rent : ByteArray := prog_1_method_27_code
def yX6_rent : MethodName := ⟨RX6, "rent", "(I)J"⟩
abbrev cX6_paid : ByteArray := prog_1_method_28_code
def yX6_paid : MethodName := ⟨RX6, "paid", "(I)J"⟩
abbrev cX6_charged : ByteArray := prog_1_method_29_code
def yX6_charged : MethodName := ⟨RX6, "charged", "(I)J"⟩
abbrev cX6_without : ByteArray := prog_1_method_30_code
def yX6_without : MethodName := ⟨RX6, "without", "(II)I"⟩
abbrev cX6_pivotal : ByteArray := prog_1_method_31_code
def yX6_pivotal : MethodName := ⟨RX6, "pivotal", "(II)I"⟩
abbrev cX6_wider : ByteArray := prog_1_method_32_code
def yX6_wider : MethodName := ⟨RX6, "wider", "(IIZ)J"⟩
abbrev cX6_needs : ByteArray := prog_1_method_33_code
def yX6_needs : MethodName := ⟨RX6, "needs", "(I)I"⟩
abbrev cX6_freely : ByteArray := prog_1_method_34_code
def yX6_freely : MethodName := ⟨RX6, "freely", "(I)I"⟩
abbrev cX6_gain : ByteArray := prog_1_method_35_code
def yX6_gain : MethodName := ⟨RX6, "gain", "(III)J"⟩
abbrev cX6_best : ByteArray := prog_1_method_36_code
def yX6_best : MethodName := ⟨RX6, "best", "(II)I"⟩
abbrev cX6_isNarrow : ByteArray := prog_1_method_37_code
def yX6_isNarrow : MethodName := ⟨RX6, "isNarrow", "(II)Z"⟩
abbrev cX6_gainAt : ByteArray := prog_1_method_38_code
def yX6_gainAt : MethodName := ⟨RX6, "gainAt", "(III)J"⟩
abbrev cX6_at : ByteArray := prog_1_method_39_code
def yX6_at : MethodName := ⟨RX6, "at", "([II)I"⟩
abbrev cX6_put : ByteArray := prog_1_method_40_code
def yX6_put : MethodName := ⟨RX6, "put", "([III)V"⟩
abbrev cX6_change : ByteArray := prog_1_method_41_code
def yX6_change : MethodName := ⟨RX6, "change", "([III)Z"⟩
abbrev cX6_copyRow : ByteArray := prog_1_method_42_code
def yX6_copyRow : MethodName := ⟨RX6, "copyRow", "([I[I)V"⟩
abbrev cX6_within : ByteArray := prog_1_method_43_code
def yX6_within : MethodName := ⟨RX6, "within", "(III)Z"⟩
def RX7 : String := "ZoneCapacityModel"
def TX7 : u_T := fun k => match k with
  | 0 => ("ZoneCapacityModel", "raised", "I", false)
  | 1 => ("ZoneCapacityModel", "w", "[I", true)
  | 2 => ("ZoneCapacityModel", "kept", "[I", true)
  | 3 => ("ZoneCapacityModel", "isKept", "[Z", true)
  | 4 => ("ZoneCapacityModel", "draft", "[I", true)
  | 5 => ("ZoneCapacityModel", "gone", "I", false)
  | 6 => ("ZoneCapacityModel", "noFloors", "Z", false)
  | 7 => ("ZoneCapacityModel", "low", "[I", true)
  | 8 => ("ZoneCapacityModel", "high", "[I", true)
  | 9 => ("ZoneCapacityModel", "prices", "[I", true)
  | 10 => ("ZoneCapacityModel", "nets", "[I", true)
  | 11 => ("ZoneCapacityModel", "serves", "[I", true)
  | 12 => ("ZoneCapacityModel", "takes", "[I", true)
  | 13 => ("ZoneCapacityModel", "hadSteps", "[I", true)
  | 14 => ("ZoneCapacityModel", "tape", "[I", true)
  | 15 => ("ZoneCapacityModel", "taped", "I", false)
  | 16 => ("ZoneCapacityModel", "fault", "I", false)
  | 17 => ("ZoneCapacityModel", "at", "I", false)
  | 18 => ("ZoneCapacityModel", "wrong", "I", false)
  | 19 => ("ZoneCapacityModel", "value", "I", false)
  | 20 => ("ZoneCapacityModel", "place", "I", false)
  | 21 => ("ZoneCapacityModel", "statements", "I", false)
  | _ => ("ZoneCapacityModel", "told", "[I", true)
def tyX7 : Nat → FieldType := fun k => match k with
  | 0 => .int
  | 1 => .array .int
  | 2 => .array .int
  | 3 => .array .boolean
  | 4 => .array .int
  | 5 => .int
  | 6 => .boolean
  | 7 => .array .int
  | 8 => .array .int
  | 9 => .array .int
  | 10 => .array .int
  | 11 => .array .int
  | 12 => .array .int
  | 13 => .array .int
  | 14 => .array .int
  | 15 => .int
  | 16 => .int
  | 17 => .int
  | 18 => .int
  | 19 => .int
  | 20 => .int
  | 21 => .int
  | _ => .array .int
theorem nmX7 : ∀ a, a < 23 → ∀ b, b < 23 → a ≠ b → (TX7 a).2.1 ≠ (TX7 b).2.1 := by decide +kernel
theorem tyX7_ok : ∀ k, k < 23 → parseFieldDescriptor (TX7 k).2.2.1 = some (tyX7 k) := by decide +kernel
abbrev cX7_init : ByteArray := prog_9_method_1_code
def yX7_init : MethodName := ⟨RX7, "<init>", "()V"⟩
abbrev cX7_thrown : ByteArray := prog_9_method_2_code
def yX7_thrown : MethodName := ⟨RX7, "thrown", "()I"⟩
abbrev cX7_in : ByteArray := prog_9_method_3_code
def yX7_in : MethodName := ⟨RX7, "in", "(III)Z"⟩
abbrev cX7_isZone : ByteArray := prog_9_method_4_code
def yX7_isZone : MethodName := ⟨RX7, "isZone", "(I)Z"⟩
abbrev cX7_isResource : ByteArray := prog_9_method_5_code
def yX7_isResource : MethodName := ⟨RX7, "isResource", "(I)Z"⟩
abbrev cX7_isPrice : ByteArray := prog_9_method_6_code
def yX7_isPrice : MethodName := ⟨RX7, "isPrice", "(I)Z"⟩
abbrev cX7_ofZone : ByteArray := prog_9_method_7_code
def yX7_ofZone : MethodName := ⟨RX7, "ofZone", "(II)I"⟩
abbrev cX7_ofResource : ByteArray := prog_9_method_8_code
def yX7_ofResource : MethodName := ⟨RX7, "ofResource", "(II)I"⟩
abbrev cX7_pointUnits : ByteArray := prog_9_method_9_code
def yX7_pointUnits : MethodName := ⟨RX7, "pointUnits", "(II)I"⟩
abbrev cX7_pointPrice : ByteArray := prog_9_method_10_code
def yX7_pointPrice : MethodName := ⟨RX7, "pointPrice", "(II)I"⟩
abbrev cX7_wanted : ByteArray := prog_9_method_11_code
def yX7_wanted : MethodName := ⟨RX7, "wanted", "(I)I"⟩
abbrev cX7_worthOf : ByteArray := prog_9_method_12_code
def yX7_worthOf : MethodName := ⟨RX7, "worthOf", "(II)I"⟩
abbrev cX7_wantedAt : ByteArray := prog_9_method_13_code
def yX7_wantedAt : MethodName := ⟨RX7, "wantedAt", "(II)I"⟩
abbrev cX7_lineUnits : ByteArray := prog_9_method_14_code
def yX7_lineUnits : MethodName := ⟨RX7, "lineUnits", "(II)I"⟩
abbrev cX7_lineIts : ByteArray := prog_9_method_15_code
def yX7_lineIts : MethodName := ⟨RX7, "lineIts", "(II)I"⟩
abbrev cX7_isLine : ByteArray := prog_9_method_16_code
def yX7_isLine : MethodName := ⟨RX7, "isLine", "(II)Z"⟩
abbrev cX7_offered : ByteArray := prog_9_method_17_code
def yX7_offered : MethodName := ⟨RX7, "offered", "(IIZ)I"⟩
abbrev cX7_cut : ByteArray := prog_9_method_18_code
def yX7_cut : MethodName := ⟨RX7, "cut", "(II)I"⟩
abbrev cX7_laysLevels : ByteArray := prog_9_method_19_code
def yX7_laysLevels : MethodName := ⟨RX7, "laysLevels", "(II)V"⟩
abbrev cX7_leastPrice : ByteArray := prog_9_method_20_code
def yX7_leastPrice : MethodName := ⟨RX7, "leastPrice", "(II)I"⟩
abbrev cX7_priceOf : ByteArray := prog_9_method_21_code
def yX7_priceOf : MethodName := ⟨RX7, "priceOf", "(I)I"⟩
abbrev cX7_takesOwn : ByteArray := prog_9_method_22_code
def yX7_takesOwn : MethodName := ⟨RX7, "takesOwn", "(II)I"⟩
abbrev cX7_clears : ByteArray := prog_9_method_23_code
def yX7_clears : MethodName := ⟨RX7, "clears", "()V"⟩
abbrev cX7_clearsAll : ByteArray := prog_9_method_24_code
def yX7_clearsAll : MethodName := ⟨RX7, "clearsAll", "()V"⟩
abbrev cX7_surplusNow : ByteArray := prog_9_method_25_code
def yX7_surplusNow : MethodName := ⟨RX7, "surplusNow", "()J"⟩
abbrev cX7_takenOf : ByteArray := prog_9_method_26_code
def yX7_takenOf : MethodName := ⟨RX7, "takenOf", "(I)I"⟩
abbrev cX7_zone : ByteArray := prog_9_method_27_code
def yX7_zone : MethodName := ⟨RX7, "zone", "(III)I"⟩
abbrev cX7_canPoint : ByteArray := prog_9_method_28_code
def yX7_canPoint : MethodName := ⟨RX7, "canPoint", "(III)Z"⟩
abbrev cX7_point : ByteArray := prog_9_method_29_code
def yX7_point : MethodName := ⟨RX7, "point", "(III)I"⟩
abbrev cX7_addPoint : ByteArray := prog_9_method_30_code
def yX7_addPoint : MethodName := ⟨RX7, "addPoint", "(III)V"⟩
abbrev cX7_addResource : ByteArray := prog_9_method_31_code
def yX7_addResource : MethodName := ⟨RX7, "addResource", "(IIIIII)I"⟩
abbrev cX7_resource : ByteArray := prog_9_method_32_code
def yX7_resource : MethodName := ⟨RX7, "resource", "(IIIIZ)I"⟩
abbrev cX7_stepped : ByteArray := prog_9_method_33_code
def yX7_stepped : MethodName := ⟨RX7, "stepped", "(I)I"⟩
abbrev cX7_addStep : ByteArray := prog_9_method_34_code
def yX7_addStep : MethodName := ⟨RX7, "addStep", "(III)V"⟩
abbrev cX7_step : ByteArray := prog_9_method_35_code
def yX7_step : MethodName := ⟨RX7, "step", "(III)I"⟩
abbrev cX7_drop : ByteArray := prog_9_method_36_code
def yX7_drop : MethodName := ⟨RX7, "drop", "(IZ)I"⟩
abbrev cX7_placeOf : ByteArray := prog_9_method_37_code
def yX7_placeOf : MethodName := ⟨RX7, "placeOf", "(III)I"⟩
abbrev cX7_set : ByteArray := prog_9_method_38_code
def yX7_set : MethodName := ⟨RX7, "set", "(III)Z"⟩
abbrev cX7_keep : ByteArray := prog_9_method_39_code
def yX7_keep : MethodName := ⟨RX7, "keep", "(I)Z"⟩
abbrev cX7_back : ByteArray := prog_9_method_40_code
def yX7_back : MethodName := ⟨RX7, "back", "(I)Z"⟩
abbrev cX7_count : ByteArray := prog_9_method_41_code
def yX7_count : MethodName := ⟨RX7, "count", "(I)I"⟩
abbrev cX7_zoneOf : ByteArray := prog_9_method_42_code
def yX7_zoneOf : MethodName := ⟨RX7, "zoneOf", "(II)I"⟩
abbrev cX7_resourceOf : ByteArray := prog_9_method_43_code
def yX7_resourceOf : MethodName := ⟨RX7, "resourceOf", "(II)I"⟩
abbrev cX7_line : ByteArray := prog_9_method_44_code
def yX7_line : MethodName := ⟨RX7, "line", "(IIZ)I"⟩
abbrev cX7_worth : ByteArray := prog_9_method_45_code
def yX7_worth : MethodName := ⟨RX7, "worth", "(II)I"⟩
abbrev cX7_wants : ByteArray := prog_9_method_46_code
def yX7_wants : MethodName := ⟨RX7, "wants", "(II)I"⟩
abbrev cX7_level : ByteArray := prog_9_method_47_code
def yX7_level : MethodName := ⟨RX7, "level", "(IIZ)I"⟩
abbrev cX7_price : ByteArray := prog_9_method_48_code
def yX7_price : MethodName := ⟨RX7, "price", "(I)I"⟩
abbrev cX7_net : ByteArray := prog_9_method_49_code
def yX7_net : MethodName := ⟨RX7, "net", "(I)I"⟩
abbrev cX7_served : ByteArray := prog_9_method_50_code
def yX7_served : MethodName := ⟨RX7, "served", "(I)I"⟩
abbrev cX7_taken : ByteArray := prog_9_method_51_code
def yX7_taken : MethodName := ⟨RX7, "taken", "(II)I"⟩
abbrev cX7_binds : ByteArray := prog_9_method_52_code
def yX7_binds : MethodName := ⟨RX7, "binds", "(I)I"⟩
abbrev cX7_surplus : ByteArray := prog_9_method_53_code
def yX7_surplus : MethodName := ⟨RX7, "surplus", "()J"⟩
abbrev cX7_rent : ByteArray := prog_9_method_54_code
def yX7_rent : MethodName := ⟨RX7, "rent", "(I)J"⟩
abbrev cX7_paidTo : ByteArray := prog_9_method_55_code
def yX7_paidTo : MethodName := ⟨RX7, "paidTo", "(I)J"⟩
abbrev cX7_paid : ByteArray := prog_9_method_56_code
def yX7_paid : MethodName := ⟨RX7, "paid", "(I)J"⟩
abbrev cX7_charged : ByteArray := prog_9_method_57_code
def yX7_charged : MethodName := ⟨RX7, "charged", "(I)J"⟩
abbrev cX7_without : ByteArray := prog_9_method_58_code
def yX7_without : MethodName := ⟨RX7, "without", "(II)I"⟩
abbrev cX7_pivotal : ByteArray := prog_9_method_59_code
def yX7_pivotal : MethodName := ⟨RX7, "pivotal", "(II)I"⟩
abbrev cX7_wider : ByteArray := prog_9_method_60_code
def yX7_wider : MethodName := ⟨RX7, "wider", "(IIZ)J"⟩
abbrev cX7_needs : ByteArray := prog_9_method_61_code
def yX7_needs : MethodName := ⟨RX7, "needs", "(I)I"⟩
abbrev cX7_freely : ByteArray := prog_9_method_62_code
def yX7_freely : MethodName := ⟨RX7, "freely", "(I)I"⟩
abbrev cX7_offersAll : ByteArray := prog_9_method_63_code
def yX7_offersAll : MethodName := ⟨RX7, "offersAll", "(IZ)V"⟩
abbrev cX7_gainOf : ByteArray := prog_9_method_64_code
def yX7_gainOf : MethodName := ⟨RX7, "gainOf", "(III)J"⟩
abbrev cX7_gain : ByteArray := prog_9_method_65_code
def yX7_gain : MethodName := ⟨RX7, "gain", "(III)J"⟩
abbrev cX7_best : ByteArray := prog_9_method_66_code
def yX7_best : MethodName := ⟨RX7, "best", "(II)I"⟩
abbrev cX7_four : ByteArray := prog_9_method_67_code
def yX7_four : MethodName := ⟨RX7, "four", "(I)V"⟩
abbrev cX7_feed : ByteArray := prog_9_method_68_code
def yX7_feed : MethodName := ⟨RX7, "feed", "(IIIII)I"⟩
abbrev cX7_end : ByteArray := prog_9_method_69_code
def yX7_end : MethodName := ⟨RX7, "end", "(I)Z"⟩
abbrev cX7_here : ByteArray := prog_9_method_70_code
def yX7_here : MethodName := ⟨RX7, "here", "()I"⟩
abbrev cX7_fails : ByteArray := prog_9_method_71_code
def yX7_fails : MethodName := ⟨RX7, "fails", "(II)Z"⟩
abbrev cX7_isDigit : ByteArray := prog_9_method_72_code
def yX7_isDigit : MethodName := ⟨RX7, "isDigit", "()Z"⟩
abbrev cX7_number : ByteArray := prog_9_method_73_code
def yX7_number : MethodName := ⟨RX7, "number", "(III)Z"⟩
abbrev cX7_ends : ByteArray := prog_9_method_74_code
def yX7_ends : MethodName := ⟨RX7, "ends", "()Z"⟩
abbrev cX7_isWord : ByteArray := prog_9_method_75_code
def yX7_isWord : MethodName := ⟨RX7, "isWord", "()Z"⟩
abbrev cX7_readWord : ByteArray := prog_9_method_76_code
def yX7_readWord : MethodName := ⟨RX7, "readWord", "()J"⟩
abbrev cX7_readZone : ByteArray := prog_9_method_77_code
def yX7_readZone : MethodName := ⟨RX7, "readZone", "(I)Z"⟩
abbrev cX7_readCurve : ByteArray := prog_9_method_78_code
def yX7_readCurve : MethodName := ⟨RX7, "readCurve", "()Z"⟩
abbrev cX7_readResource : ByteArray := prog_9_method_79_code
def yX7_readResource : MethodName := ⟨RX7, "readResource", "(I)Z"⟩
abbrev cX7_readOffer : ByteArray := prog_9_method_80_code
def yX7_readOffer : MethodName := ⟨RX7, "readOffer", "(I)Z"⟩
abbrev cX7_readSet : ByteArray := prog_9_method_81_code
def yX7_readSet : MethodName := ⟨RX7, "readSet", "(III)Z"⟩
abbrev cX7_readStatement : ByteArray := prog_9_method_82_code
def yX7_readStatement : MethodName := ⟨RX7, "readStatement", "()Z"⟩
abbrev cX7_tell : ByteArray := prog_9_method_83_code
def yX7_tell : MethodName := ⟨RX7, "tell", "()I"⟩
abbrev cX7_fault : ByteArray := prog_9_method_84_code
def yX7_fault : MethodName := ⟨RX7, "fault", "()I"⟩
def RL : String := "ZoneCapacityLaw"
abbrev cL_zoneOf : ByteArray := method_3_code
def yL_zoneOf : MethodName := ⟨RL, "zoneOf", "(LZoneCapacity;II[J)I"⟩
abbrev cL_resourceOf : ByteArray := method_4_code
def yL_resourceOf : MethodName := ⟨RL, "resourceOf", "(LZoneCapacity;II[J)I"⟩
abbrev cL_law : ByteArray := code
def yL_law : MethodName := ⟨RL, "law", "([I)Z"⟩

abbrev wslX0 : List Cond := u_ws RX0 TX0 12
abbrev wslX1 : List Cond := u_ws RX1 TX1 2
abbrev wslX2 : List Cond := u_ws RX2 TX2 12
abbrev wslX3 : List Cond := u_ws RX3 TX3 2
abbrev wslX4 : List Cond := u_ws RX4 TX4 8
abbrev wslX5 : List Cond := u_ws RX5 TX5 7
abbrev wslX6 : List Cond := u_ws RX6 TX6 7
abbrev wslX7 : List Cond := u_ws RX7 TX7 23
def TW : List Cond := lw_tbl.filter goodWord
theorem tw_mem {w : Cond} (h : w ∈ lw_tbl) (g : goodWord w = true) : w ∈ TW := List.mem_filter.mpr ⟨h, g⟩
def tw_chk (ids : List Nat) (ws : List Cond) : Bool := decide (ids.map (fun i => lw_tbl[i]?) = ws.map some) && ws.all goodWord
theorem tw_of {ids : List Nat} {ws : List Cond} (h : tw_chk ids ws = true) : ∀ w ∈ ws, w ∈ TW := by
  intro w hw
  unfold tw_chk at h
  rw [Bool.and_eq_true, decide_eq_true_eq] at h
  refine tw_mem ?_ (List.all_eq_true.mp h.2 w hw)
  have : some w ∈ ws.map some := List.mem_map.mpr ⟨w, hw, rfl⟩
  rw [← h.1] at this
  obtain ⟨i, -, hi⟩ := List.mem_map.mp this
  exact List.mem_of_getElem? hi
theorem tw_good {y : MethodName} {bytes : ByteArray} {maxL : Nat} {ret : Option FieldType} (h : Cond.code y bytes maxL ret ∈ TW) : GoodIn TW (Cond.code y bytes maxL ret :: TW) := by
  intro w hw
  have hw : w ∈ TW := by
    rcases List.mem_cons.mp hw with e | e
    · rw [e]; exact h
    · exact e
  exact ⟨hw, good_of_word (List.mem_filter.mp hw).2⟩
theorem iwX0 : ∀ w ∈ wslX0, w ∈ TW := tw_of (ids := [241, 243, 245, 247, 249, 251, 253, 255, 257, 259, 261, 263]) (by decide +kernel)
theorem iwX1 : ∀ w ∈ wslX1, w ∈ TW := tw_of (ids := [219, 221]) (by decide +kernel)
theorem iwX2 : ∀ w ∈ wslX2, w ∈ TW := tw_of (ids := [186, 188, 190, 192, 194, 196, 198, 200, 202, 204, 206, 208]) (by decide +kernel)
theorem iwX3 : ∀ w ∈ wslX3, w ∈ TW := tw_of (ids := [283, 285]) (by decide +kernel)
theorem iwX4 : ∀ w ∈ wslX4, w ∈ TW := tw_of (ids := [301, 303, 305, 307, 309, 311, 313, 315]) (by decide +kernel)
theorem iwX5 : ∀ w ∈ wslX5, w ∈ TW := tw_of (ids := [136, 138, 140, 142, 144, 146, 148]) (by decide +kernel)
theorem iwX6 : ∀ w ∈ wslX6, w ∈ TW := tw_of (ids := [327, 329, 331, 333, 335, 337, 339]) (by decide +kernel)
theorem iwX7 : ∀ w ∈ wslX7, w ∈ TW := tw_of (ids := [961, 963, 965, 967, 969, 971, 973, 975, 977, 979, 981, 983, 985, 987, 989, 991, 993, 995, 997, 999, 1001, 1003, 1005]) (by decide +kernel)
end
section
abbrev Mem : Type := Nat → Nat → Int32
def up2 (mm : Mem) (c i : Nat) (v : Int32) : Mem := fun a j => if a = c ∧ j = i then v else mm a j
def Kl : List Nat := [7, 8, 8, 9, 8, 8, 8, 8, 8, 8, 8, 8, 8, 8, 6, 0, 1, 5, 8, 8, 8, 8, 8, 8, 2, 8, 8, 8, 8, 8, 8, 8, 8, 8, 8, 8, 8, 8, 8, 8, 8, 8, 8, 8, 0, 1, 5, 8, 8, 8, 8, 8, 8, 2, 8, 8, 8, 8, 8, 8, 8, 8, 8, 8, 8, 8, 8, 8, 8, 8, 8, 8, 8, 4, 3, 8, 1, 5, 8, 8, 8, 8, 8, 8, 2, 8, 8, 8, 8, 8, 8, 8, 8, 8, 8, 1, 5, 8, 8, 8, 8, 8, 8, 2, 8, 8, 8, 8, 8, 8, 8, 8, 8, 8, 1, 5, 8, 8, 8, 8, 8, 8, 2, 8, 8, 8, 8, 8, 8, 8, 8, 8, 8, 10]
def Ll : List Nat := [0, 235, 470, 2, 235, 6, 6, 6, 6, 6, 48, 7, 500, 6, 0, 0, 0, 0, 6, 6, 6, 6, 24, 24, 0, 4, 12, 12, 12, 12, 12, 12, 12, 36, 36, 6, 6, 6, 48, 48, 48, 6, 6, 6, 0, 0, 0, 6, 6, 6, 6, 24, 24, 0, 4, 12, 12, 12, 12, 12, 12, 12, 36, 36, 6, 6, 6, 48, 48, 48, 6, 6, 6, 0, 0, 500, 0, 0, 6, 6, 6, 6, 24, 24, 0, 4, 12, 12, 12, 12, 12, 12, 12, 36, 36, 0, 0, 6, 6, 6, 6, 24, 24, 0, 4, 12, 12, 12, 12, 12, 12, 12, 36, 36, 0, 0, 6, 6, 6, 6, 24, 24, 0, 4, 12, 12, 12, 12, 12, 12, 12, 36, 36, 1]
def kd (c : Nat) : Nat := Kl.getD c 99
def ln (c : Nat) : Nat := Ll.getD c 0
def nfl (ci : Nat) : Nat := match ci with | 0 => 12 | 1 => 2 | 2 => 12 | 3 => 2 | 4 => 8 | 5 => 7 | 6 => 7 | 7 => 23 | _ => 0
def rfk (ci k c : Nat) : Option Nat := match ci, k with | 0, 0 => some (c + 1) | 0, 1 => some (c + 20) | 0, 2 => some (c + 21) | 0, 3 => some (c + 22) | 0, 4 => some (c + 23) | 0, 5 => some (c + 24) | 0, 6 => some (c + 25) | 0, 7 => some (c + 26) | 0, 8 => some (c + 27) | 0, 9 => some (c + 28) | 1, 0 => some (c + 1) | 1, 1 => some (c + 8) | 2, 2 => some (c + 1) | 2, 3 => some (c + 2) | 2, 4 => some (c + 3) | 2, 5 => some (c + 4) | 2, 6 => some (c + 5) | 2, 7 => some (c + 6) | 2, 8 => some (c + 7) | 2, 9 => some (c + 8) | 2, 10 => some (c + 9) | 2, 11 => some (c + 10) | 3, 0 => some (75) | 4, 0 => some (74) | 4, 1 => some (76) | 5, 1 => some (c + 1) | 5, 2 => some (c + 2) | 5, 3 => some (c + 3) | 5, 4 => some (c + 4) | 5, 5 => some (c + 5) | 5, 6 => some (c + 6) | 6, 0 => some (15) | 6, 1 => some (44) | 6, 2 => some (73) | 6, 3 => some (95) | 6, 4 => some (114) | 7, 1 => some (1) | 7, 2 => some (2) | 7, 3 => some (3) | 7, 4 => some (4) | 7, 7 => some (5) | 7, 8 => some (6) | 7, 9 => some (7) | 7, 10 => some (8) | 7, 11 => some (9) | 7, 12 => some (10) | 7, 13 => some (11) | 7, 14 => some (12) | 7, 22 => some (13) | _, _ => none
abbrev zcls : List vw_C := [(RX0, TX0, 12), (RX1, TX1, 2), (RX2, TX2, 12), (RX3, TX3, 2), (RX4, TX4, 8), (RX5, TX5, 7), (RX6, TX6, 7), (RX7, TX7, 23)]
def tyA (ci : Nat) : Nat → FieldType := match ci with | 0 => tyX0 | 1 => tyX1 | 2 => tyX2 | 3 => tyX3 | 4 => tyX4 | 5 => tyX5 | 6 => tyX6 | 7 => tyX7 | _ => fun _ => .int
/-- addresses of the cells by their ids, classes, the array classes (int, boolean, long), the texts' rows -/
abbrev Cfg : Type := (Nat → Nat) × va_G × ClassId × ClassId × ClassId
abbrev Lv : Type := List (Nat × Value)
abbrev Tb : Type := List (Nat × Instr × Nat × Nat)
abbrev NC : Nat := 134
def cvv (C : Cfg) : Value → Value
  | .ref a => .ref (C.1 a)
  | .null => .null
  | .int x => .int x
  | .long x => .long x
  | .float x => .float x
  | .double x => .double x
  | .retAddr x => .retAddr x
def fvv (C : Cfg) (f : Nat → Int32) (ci c k : Nat) : Value := match rfk ci k c with
  | some q => .ref (C.1 q)
  | none => .int (f k)
def fl (C : Cfg) (f : Nat → Int32) (ci c : Nat) : List Value := (List.range (nfl ci)).map (fvv C f ci c)
def celx (C : Cfg) (c : Nat) (f : Nat → Int32) : va_E :=
  if kd c < 8 then .inr (kd c, fl C f (kd c) c) else if kd c = 8 then .inl (C.2.2.1, ln c, .inl f) else if kd c = 9 then .inl (C.2.2.2.1, ln c, .inl f) else .inl (C.2.2.2.2, ln c, .inr (.inl (fun i => (f i).toInt64)))
def cel (C : Cfg) (mm : Mem) (c : Nat) : va_E := celx C c (mm c)
def wl (C : Cfg) (mm : Mem) : va_W := (List.range NC).map (fun c => (C.1 c, cel C mm c))
def tys (C : Cfg) : List (ClassId × FieldType) := [(C.2.2.1, .int), (C.2.2.2.1, .boolean), (C.2.2.2.2, .long)]
def ztx : List (Nat × String × List Int32) := [(42, "zone", [122, 111, 110, 101]), (51, "curve", [99, 117, 114, 118, 101]), (56, "resource", [114, 101, 115, 111, 117, 114, 99, 101]), (61, "offer", [111, 102, 102, 101, 114]), (66, "floor", [102, 108, 111, 111, 114]), (71, "ceiling", [99, 101, 105, 108, 105, 110, 103]), (76, "limits", [108, 105, 109, 105, 116, 115]), (130, "must", [109, 117, 115, 116]), (135, "free", [102, 114, 101, 101])]
def ztl : List Nat := ztx.map (fun q => q.2.2.length)
def ztb : List (List Int32) := ztx.map (fun q => q.2.2)
def zns : List (String × Nat × MethodName × String) := [("ZoneCapacity", 9, ⟨"ZoneCapacity$Auction", "<init>", "()V"⟩, "ZoneCapacity"), ("ZoneCapacity$Auction", 11, ⟨"ZoneCapacity$Market", "<init>", "()V"⟩, "ZoneCapacity"), ("ZoneCapacity$Zones", 34, ⟨"ZoneCapacity", "put", "([III)V"⟩, "ZoneCapacity"), ("ZoneCapacity$Market", 18, ⟨"ZoneCapacity$Offers", "<init>", "()V"⟩, "ZoneCapacity"), ("ZoneCapacity", 21, ⟨"ZoneCapacity$Teller", "<init>", "()V"⟩, "ZoneCapacity"), ("ZoneCapacity$Teller", 11, ⟨"ZoneCapacity$Tape", "<init>", "()V"⟩, "ZoneCapacity"), ("ZoneCapacity$Teller", 20, ⟨"ZoneCapacity$Market", "<init>", "()V"⟩, "ZoneCapacity"), ("ZoneCapacity", 28, ⟨"ZoneCapacity$Market", "<init>", "()V"⟩, "ZoneCapacity"), ("ZoneCapacity$Tape", 19, ⟨"ZoneCapacity", "put", "([III)V"⟩, "ZoneCapacity"), ("ZoneCapacity$Zones", 38, ⟨"ZoneCapacity", "copyRow", "([I[I)V"⟩, "ZoneCapacity"), ("ZoneCapacity$Offers", 49, ⟨"ZoneCapacity", "copyRow", "([I[I)V"⟩, "ZoneCapacity"), ("ZoneCapacity$Teller", 186, ⟨"ZoneCapacity", "at", "([II)I"⟩, "ZoneCapacity"), ("ZoneCapacity$Teller", 169, ⟨"ZoneCapacity", "within", "(III)Z"⟩, "ZoneCapacity"), ("ZoneCapacity$Zones", 46, ⟨"ZoneCapacity", "at", "([II)I"⟩, "ZoneCapacity"), ("ZoneCapacity$Offers", 53, ⟨"ZoneCapacity", "put", "([III)V"⟩, "ZoneCapacity"), ("ZoneCapacity$Offers", 57, ⟨"ZoneCapacity", "at", "([II)I"⟩, "ZoneCapacity"), ("ZoneCapacity$Teller", 154, ⟨"ZoneCapacity", "put", "([III)V"⟩, "ZoneCapacity"), ("ZoneCapacity$Offers", 69, ⟨"ZoneCapacity", "within", "(III)Z"⟩, "ZoneCapacity"), ("ZoneCapacity$Auction", 56, ⟨"ZoneCapacity", "put", "([III)V"⟩, "ZoneCapacity"), ("ZoneCapacity$Auction", 69, ⟨"ZoneCapacity", "at", "([II)I"⟩, "ZoneCapacity")]
def TF : List Cond := lw_tbl.filter (fun w => w.faceAtom && w.onTables)
/-- the texts, and the static field that their methods read -/
def Sx (C : Cfg) (A : Nat → Prop) (U : State) (H : Heap) : Prop :=
  vk_S 9 ztl ztb (fun i => C.1 (1000 + i)) (fun i => C.1 (2000 + i)) A U H ∧ (∀ i q, ztx[i]? = some q → vk_R "ZoneCapacity$Teller" q.1 q.2.1 (C.1 (1000 + i)) U) ∧ va_Z "java/lang/String" "COMPACT_STRINGS" "Z" (.int 1) A U H ∧ (∀ q ∈ zns, va_Nw (.methodLinkNest q.1 q.2.1 q.2.2.1 q.2.2.2) U) ∧ (va_Z "jdk/internal/util/Preconditions" "SIOOBE_FORMATTER" "Ljava/util/function/BiFunction;" .null A U H ∨ va_Z "jdk/internal/util/Preconditions" "SIOOBE_FORMATTER" "Ljava/util/function/BiFunction;" (.ref (C.1 3000)) A U H) ∧ (∀ w ∈ TF, va_Nw w U) ∧ vx_Zq Bundle.tN "UNASSIGNED_STACK" Bundle.steD A U H ∧ vx_Zq Bundle.tN "SUPPRESSED_SENTINEL" Bundle.listD A U H
theorem va_Nw.face {w : Cond} {s U : State} (hc : w.faceAtom = true ∧ w.onTables = true) (hW : s.WarmedH U.vm) (hZ : va_Nw w s) : va_Nw w U := va_tabs hc.2 (rfl : (s.setVm U.vm).vm = U.vm) (Cond.faceAtom_setVm hW.alike w hc.1 hZ)
theorem tf_ok {w : Cond} (h : w ∈ TF) : w.faceAtom = true ∧ w.onTables = true := by
  have := (List.mem_filter.mp h).2
  simpa using this
theorem Sx.go {C : Cfg} {A B : Nat → Prop} {s U : State} {H H1 : Heap} (h : Sx C A s H) (hW : s.WarmedH U.vm) (hAB : ∀ q, B q → A q) (hq : ∀ a : Nat, a < H.size → ¬ A a → H1[a]? = H[a]?) : Sx C B U H1 :=
  ⟨((h.1.moved hW.alike).kept hq).narrow hAB, fun i q e => (h.2.1 i q e).warm hW, ((h.2.2.1.moved hW.alike).kept hq).narrow hAB, fun q m => (h.2.2.2.1 q m).warmM hW, h.2.2.2.2.1.elim (fun z => Or.inl (((z.moved hW.alike).kept hq).narrow hAB)) (fun z => Or.inr (((z.moved hW.alike).kept hq).narrow hAB)), fun w m => (h.2.2.2.2.2.1 w m).face (tf_ok m) hW, ((vx_Zq.moved hW.alike h.2.2.2.2.2.2.1).kept hq).narrow hAB, ((vx_Zq.moved hW.alike h.2.2.2.2.2.2.2).kept hq).narrow hAB⟩
def Aw (C : Cfg) : Nat → Prop := fun q => ∃ c, c < NC ∧ C.1 c = q
def Wd (C : Cfg) (mm : Mem) (U : State) : Prop := va_P C.2.1 zcls (wl C mm) U.heap ∧ va_K C.2.1 zcls (tys C) U ∧ Sx C (Aw C) U U.heap
def Dj (C : Cfg) : Prop := ∀ i j : Nat, i < NC → j < NC → C.1 i = C.1 j → i = j
def Ob (c ci : Nat) : Prop := c < NC ∧ kd c = ci
abbrev Ev : Type := Program × Launch × Env × Room × State × MethodId × Array Value × List Frame × Method × Code × (State → Prop) × Cfg × Nat × Nat × (Nat → Prop) × Option Value × Mem
def G : Ev → Nat → Nat → Lv → List Value → Mem → Prop
  | (p, l, e, R, s, m, args, below, meth, c, Q, C, kc, ks, A, _, _), nL, pc, lv, st, mm => ∀ (H : Heap) (locs : List Loc) (ls : Array Slot), va_P C.2.1 zcls (wl C mm) H → va_S A s.heap H locs → lv_has ls nL (lv.map (fun q => (q.1, cvv C q.2))) → W p l e R s m args below meth c H locs kc ks Q (F0 m pc ls (st.map (cvv C)))
def Bx : Ev → String → Tb → Nat → Option FieldType → Prop
  | (p, _, _, R, s, m, args, _, meth, c, _, C, kc, ks, A, _, _), own, tb, nL, ret => p.tables.exec = Jvm.exec ∧ (∀ q ∈ tb, decode c.code q.1 = .ok (q.2.1, q.2.2.1) ∧ q.1 + q.2.2.1 = q.2.2.2) ∧ c.maxLocals = nL ∧ s.vm.findClass own = some m.cls ∧ (∀ w ∈ TW, w.before args s = true) ∧ va_K C.2.1 zcls (tys C) s ∧ Dj C ∧ (∀ c, c < NC → A (C.1 c)) ∧ Sx C A s s.heap ∧ meth.sig.returnType = ret ∧ meth.locks = false ∧ kc ≤ R.cells ∧ ks ≤ R.slots
/-- which end the state is asked for: a method's own -/
def QC (C : Cfg) (A : Nat → Prop) (r : Option Value) (mo : Mem) : Array Value → State → Outcome → State → Prop := fun _ st oc t => oc = .returned (r.map (cvv C)) ∧ Wd C mo t ∧ va_F A st t
def Rt : Ev → Prop
  | (_, _, _, _, s, _, args, below, _, _, Q, C, kc, ks, A, res, mo) => Q = MQ below (QC C A res mo) args s kc ks A
def Rs : Ev → Option Value → Mem → Prop
  | (_, _, _, _, _, _, _, _, _, _, _, _, _, _, _, res, mo), r, mm => res = r ∧ mo = mm
/-- what is known of a method that is called: its code, its number of arguments -/
def MI (y : MethodName) (bytes : ByteArray) (maxL : Nat) (rt : Option FieldType) (n : Nat) : Prop := Cond.code y bytes maxL rt ∈ TW ∧ plainName y.cls = true ∧ (y.cls ≠ "java/lang/invoke/MethodHandle" ∧ y.cls ≠ "java/lang/invoke/VarHandle" ∧ (parseMethodDescriptor y.desc).map (fun d => d.parameters.length) = some n) ∧ Cond.initialized y.cls ∈ TW
/-- launch, configuration and room of the walk -/
def Ec : Ev → Launch → Cfg → Room → Prop
  | (_, l, _, R, _, _, _, _, _, _, _, C, _, _, _, _, _), l', C', R' => l = l' ∧ C = C' ∧ R = R'
section BXS
variable {p : Program} {l : Launch} {e : Env} {R : Room} {s : State} {m : MethodId} {args : Array Value} {below : List Frame} {meth : Method} {c : Code} {Q : State → Prop} {C : Cfg} {kc ks : Nat} {A : Nat → Prop} {res : Option Value} {mo : Mem} {own : String} {tb : Tb} {nL : Nat} {ret : Option FieldType}
variable {pc nx len : Nat} {ins : Instr} {mm : Mem} {H : Heap} {locs : List Loc} {ls : Array Slot} {rest : List Value}
theorem Bx.dec (B : Bx (p, l, e, R, s, m, args, below, meth, c, Q, C, kc, ks, A, res, mo) own tb nL ret) {i : Nat} (h : tb[i]? = some (pc, ins, len, nx)) : decode c.code pc = .ok (ins, len) ∧ pc + len = nx := by
  have h1 : ∀ q ∈ tb, decode c.code q.1 = .ok (q.2.1, q.2.2.1) ∧ q.1 + q.2.2.1 = q.2.2.2 := B.2.1
  exact h1 (pc, ins, len, nx) (List.mem_of_getElem? h)
theorem Bx.hown (B : Bx (p, l, e, R, s, m, args, below, meth, c, Q, C, kc, ks, A, res, mo) own tb nL ret) : s.vm.findClass own = some m.cls := B.2.2.2.1
theorem Bx.tw (B : Bx (p, l, e, R, s, m, args, below, meth, c, Q, C, kc, ks, A, res, mo) own tb nL ret) : ∀ w ∈ TW, w.before args s = true := B.2.2.2.2.1
theorem Bx.K (B : Bx (p, l, e, R, s, m, args, below, meth, c, Q, C, kc, ks, A, res, mo) own tb nL ret) : va_K C.2.1 zcls (tys C) s := B.2.2.2.2.2.1
theorem Bx.dj (B : Bx (p, l, e, R, s, m, args, below, meth, c, Q, C, kc, ks, A, res, mo) own tb nL ret) : Dj C := B.2.2.2.2.2.2.1
theorem Bx.aa (B : Bx (p, l, e, R, s, m, args, below, meth, c, Q, C, kc, ks, A, res, mo) own tb nL ret) : ∀ c, c < NC → A (C.1 c) := B.2.2.2.2.2.2.2.1
theorem Bx.sx (B : Bx (p, l, e, R, s, m, args, below, meth, c, Q, C, kc, ks, A, res, mo) own tb nL ret) : Sx C A s s.heap := B.2.2.2.2.2.2.2.2.1
theorem Bx.ml (B : Bx (p, l, e, R, s, m, args, below, meth, c, Q, C, kc, ks, A, res, mo) own tb nL ret) : c.maxLocals = nL := B.2.2.1
theorem Bx.rt (B : Bx (p, l, e, R, s, m, args, below, meth, c, Q, C, kc, ks, A, res, mo) own tb nL ret) : meth.sig.returnType = ret := B.2.2.2.2.2.2.2.2.2.1
theorem Bx.lk (B : Bx (p, l, e, R, s, m, args, below, meth, c, Q, C, kc, ks, A, res, mo) own tb nL ret) : meth.locks = false := B.2.2.2.2.2.2.2.2.2.2.1
theorem Bx.rm (B : Bx (p, l, e, R, s, m, args, below, meth, c, Q, C, kc, ks, A, res, mo) own tb nL ret) : kc ≤ R.cells ∧ ks ≤ R.slots := B.2.2.2.2.2.2.2.2.2.2.2
theorem cvv_cat (C : Cfg) (v : Value) : (cvv C v).category = v.category := by cases v <;> rfl
theorem lvm {C : Cfg} {lv : Lv} {j q : Nat} {v : Value} (h : lv[j]? = some (q, v)) : (lv.map (fun q => (q.1, cvv C q.2)))[j]? = some (q, cvv C v) := by
  rw [List.getElem?_map, h]
  rfl
theorem lvs {C : Cfg} {lv lv' : Lv} {js : List Nat} (h : js.filterMap (fun j => lv[j]?) = lv') : lv_pick (lv.map (fun q => (q.1, cvv C q.2))) js = lv'.map (fun q => (q.1, cvv C q.2)) := by
  subst h
  unfold lv_pick
  rw [List.map_filterMap]
  congr 1
  funext j
  rw [List.getElem?_map]
def zs1 (lv : Lv) (i : Nat) (v : Value) : Lv := (i, v) :: lv.filter (fun q => !(q.1 == i) && !(q.1 + 1 == i && q.2.category == 2))
def zs2 (lv : Lv) (i : Nat) (v : Value) : Lv := (i, v) :: lv.filter (fun q => !(q.1 == i) && (!(q.1 == i + 1) && !(q.1 + 1 == i && q.2.category == 2)))
theorem zs1_map (C : Cfg) (lv : Lv) (i : Nat) (v : Value) : (i, cvv C v) :: (lv.map (fun q => (q.1, cvv C q.2))).filter (fun q => !(q.1 == i) && !(q.1 + 1 == i && q.2.category == 2)) = (zs1 lv i v).map (fun q => (q.1, cvv C q.2)) := by
  unfold zs1
  rw [List.map_cons, List.filter_map]
  congr 3
  funext q
  simp only [Function.comp, cvv_cat]
theorem zs2_map (C : Cfg) (lv : Lv) (i : Nat) (v : Value) : (i, cvv C v) :: (lv.map (fun q => (q.1, cvv C q.2))).filter (fun q => !(q.1 == i) && (!(q.1 == i + 1) && !(q.1 + 1 == i && q.2.category == 2))) = (zs2 lv i v).map (fun q => (q.1, cvv C q.2)) := by
  unfold zs2
  rw [List.map_cons, List.filter_map]
  congr 3
  funext q
  simp only [Function.comp, cvv_cat]
theorem i32_nlt {x y : Int32} (h : ¬ x < y) : y ≤ x := Int32.not_lt.mp h
theorem i32_nlt2 {x y : Int32} (h : y ≤ x) : ¬ x < y := Int32.not_lt.mpr h
def inb (i : Int32) (n : Nat) : Bool := !(decide (i < 0) || decide (n ≤ i.toNatClampNeg))
theorem inb_in {i : Int32} {n : Nat} (h : inb i n = true) : vp_in i n := by
  unfold inb at h
  unfold vp_in
  simpa using h
theorem wl_get {C : Cfg} {mm : Mem} {q : Nat} (h : q < NC) : (wl C mm)[q]? = some (C.1 q, cel C mm q) := by
  unfold wl
  rw [List.getElem?_map, List.getElem?_range h]
  rfl
theorem wl_at {C : Cfg} {mm : Mem} {q : Nat} {x : Nat × va_E} (h : (wl C mm)[q]? = some x) : q < NC ∧ x = (C.1 q, cel C mm q) := by
  by_cases hq : q < NC
  · rw [wl_get hq] at h
    exact ⟨hq, (Option.some.inj h).symm⟩
  · unfold wl at h
    rw [List.getElem?_map, List.getElem?_eq_none (by rw [List.length_range]; omega)] at h
    cases h
theorem wl_D (B : Bx (p, l, e, R, s, m, args, below, meth, c, Q, C, kc, ks, A, res, mo) own tb nL ret) (mm : Mem) : va_D A (wl C mm) := by
  refine ⟨fun i j x y hx hy hxy => ?_, fun k x hx => ?_⟩
  · obtain ⟨h1, rfl⟩ := wl_at hx
    obtain ⟨h2, rfl⟩ := wl_at hy
    exact B.dj i j h1 h2 hxy
  · obtain ⟨h1, rfl⟩ := wl_at hx
    exact B.aa k h1
theorem cel_obj {C : Cfg} {mm : Mem} {q ci : Nat} (h : kd q = ci) (hc : ci < 8) : cel C mm q = .inr (ci, fl C (mm q) ci q) := by
  unfold cel celx
  rw [h, if_pos hc]
theorem wl_arr {C : Cfg} {mm : Mem} {q : Nat} (h : Ob q 8) : (wl C mm)[q]? = some (C.1 q, .inl (C.2.2.1, ln q, .inl (mm q))) := by
  rw [wl_get h.1]
  unfold cel celx
  rw [h.2]
  rfl
theorem wl_arz {C : Cfg} {mm : Mem} {q : Nat} (h : Ob q 9) : (wl C mm)[q]? = some (C.1 q, .inl (C.2.2.2.1, ln q, .inl (mm q))) := by
  rw [wl_get h.1]
  unfold cel celx
  rw [h.2]
  rfl
theorem wl_arl {C : Cfg} {mm : Mem} {q : Nat} (h : Ob q 10) : (wl C mm)[q]? = some (C.1 q, .inl (C.2.2.2.2, ln q, .inr (.inl (fun i => (mm q i).toInt64)))) := by
  rw [wl_get h.1]
  unfold cel celx
  rw [h.2]
  rfl
theorem up2_eq (mm : Mem) (q k : Nat) (v : Int32) : up2 mm q k v q = upd (mm q) k v := by
  funext j
  simp [up2, upd]
theorem up2_ne (mm : Mem) {q c : Nat} (k : Nat) (v : Int32) (h : c ≠ q) : up2 mm q k v c = mm c := by
  funext j
  simp [up2, h]
theorem cel_congr {C : Cfg} {mm mm' : Mem} {c : Nat} (h : mm' c = mm c) : cel C mm' c = cel C mm c := congrArg (celx C c) h
theorem wl_upd {C : Cfg} {mm mm' : Mem} {q : Nat} {x : va_E} (hq : q < NC) (he : cel C mm' q = x) (ho : ∀ c, c ≠ q → mm' c = mm c) : (wl C mm).set q (C.1 q, x) = wl C mm' := by
  apply List.ext_getElem?
  intro j
  by_cases hj : j = q
  · subst hj
    rw [List.getElem?_set_self (by unfold wl; rw [List.length_map, List.length_range]; exact hq), wl_get hq, he]
  · rw [List.getElem?_set_ne (Ne.symm hj)]
    by_cases hl : j < NC
    · rw [wl_get hl, wl_get hl, cel_congr (ho j hj)]
    · unfold wl
      rw [List.getElem?_map, List.getElem?_map, List.getElem?_eq_none (by rw [List.length_range]; omega), Option.map_none, Option.map_none]
theorem wl_setI {C : Cfg} {mm : Mem} {q : Nat} (h : Ob q 8) (k : Nat) (v : Int32) : (wl C mm).set q (C.1 q, .inl (C.2.2.1, ln q, .inl (upd (mm q) k v))) = wl C (up2 mm q k v) := by
  refine wl_upd h.1 ?_ (fun c hc => up2_ne mm k v hc)
  unfold cel celx
  rw [h.2, up2_eq]
  rfl
theorem wl_setZ {C : Cfg} {mm : Mem} {q : Nat} (h : Ob q 9) (k : Nat) (v : Int32) : (wl C mm).set q (C.1 q, .inl (C.2.2.2.1, ln q, .inl (upd (mm q) k v))) = wl C (up2 mm q k v) := by
  refine wl_upd h.1 ?_ (fun c hc => up2_ne mm k v hc)
  unfold cel celx
  rw [h.2, up2_eq]
  rfl
theorem wl_setL {C : Cfg} {mm : Mem} {q : Nat} (h : Ob q 10) (k : Nat) (v : Int32) : (wl C mm).set q (C.1 q, .inl (C.2.2.2.2, ln q, .inr (.inl (vp_updL (fun i => (mm q i).toInt64) k v.toInt64)))) = wl C (up2 mm q k v) := by
  refine wl_upd h.1 ?_ (fun c hc => up2_ne mm k v hc)
  unfold cel celx
  rw [h.2, up2_eq]
  have : (fun i => (upd (mm q) k v i).toInt64) = vp_updL (fun i => (mm q i).toInt64) k v.toInt64 := by
    funext i
    unfold upd vp_updL
    by_cases hi : i = k <;> simp [hi]
  rw [this]
  rfl
theorem fl_len (C : Cfg) (f : Nat → Int32) (ci q : Nat) : (fl C f ci q).length = nfl ci := by
  unfold fl
  rw [List.length_map, List.length_range]
theorem fl_get (C : Cfg) (f : Nat → Int32) {ci q k : Nat} (h : k < nfl ci) : (fl C f ci q)[k]? = some (fvv C f ci q k) := by
  unfold fl
  rw [List.getElem?_map, List.getElem?_range h]
  rfl
theorem wl_setF {C : Cfg} {mm : Mem} {q ci : Nat} (h : Ob q ci) (hc : ci < 8) {k : Nat} (hk : k < nfl ci) (hr : rfk ci k q = none) (v : Int32) : (wl C mm).set q (C.1 q, .inr (ci, (fl C (mm q) ci q).set k (.int v))) = wl C (up2 mm q k v) := by
  refine wl_upd h.1 ?_ (fun c hc => up2_ne mm k v hc)
  rw [cel_obj h.2 hc]
  congr 2
  apply List.ext_getElem?
  intro j
  by_cases hj : j = k
  · subst hj
    rw [List.getElem?_set_self (by rw [fl_len]; exact hk), fl_get _ _ hk]
    unfold fvv
    rw [hr]
    simp [up2]
  · rw [List.getElem?_set_ne (Ne.symm hj)]
    by_cases hl : j < nfl ci
    · rw [fl_get _ _ hl, fl_get _ _ hl]
      unfold fvv
      cases rfk ci j q with
      | some z => rfl
      | none => simp [up2, hj]
    · rw [List.getElem?_eq_none (by rw [fl_len]; omega), List.getElem?_eq_none (by rw [fl_len]; omega)]
-- the classes' tables
def zfl (ci k : Nat) : Option (String × String × String) := match zcls[ci]? with
  | some x => if k < x.2.2 then some ((x.2.1 k).1, (x.2.1 k).2.1, (x.2.1 k).2.2.1) else none
  | none => none
def zfin (ci k : Nat) : Bool := match zcls[ci]? with
  | some x => (x.2.1 k).2.2.2
  | none => true
theorem zcls_lt {ci : Nat} {x : vw_C} (h : zcls[ci]? = some x) : ci < 8 := (List.getElem?_eq_some_iff.mp h).1
theorem zcls_ok {ci : Nat} {x : vw_C} (h : zcls[ci]? = some x) : (∀ w ∈ u_ws x.1 x.2.1 x.2.2, w ∈ TW) ∧ x.2.2 = nfl ci ∧ (∀ k, k < x.2.2 → parseFieldDescriptor (x.2.1 k).2.2.1 = some (tyA ci k)) ∧ (∀ a, a < x.2.2 → ∀ b, b < x.2.2 → a ≠ b → (x.2.1 a).2.1 ≠ (x.2.1 b).2.1) := by
  have hl := zcls_lt h
  match ci, hl, h with
  | 0, _, h => cases h; exact ⟨iwX0, rfl, tyX0_ok, nmX0⟩
  | 1, _, h => cases h; exact ⟨iwX1, rfl, tyX1_ok, nmX1⟩
  | 2, _, h => cases h; exact ⟨iwX2, rfl, tyX2_ok, nmX2⟩
  | 3, _, h => cases h; exact ⟨iwX3, rfl, tyX3_ok, nmX3⟩
  | 4, _, h => cases h; exact ⟨iwX4, rfl, tyX4_ok, nmX4⟩
  | 5, _, h => cases h; exact ⟨iwX5, rfl, tyX5_ok, nmX5⟩
  | 6, _, h => cases h; exact ⟨iwX6, rfl, tyX6_ok, nmX6⟩
  | 7, _, h => cases h; exact ⟨iwX7, rfl, tyX7_ok, nmX7⟩
  | n + 8, hl, _ => omega
theorem zfl_spec {ci k : Nat} {rn nm d : String} (h : zfl ci k = some (rn, nm, d)) : ∃ x : vw_C, zcls[ci]? = some x ∧ k < x.2.2 ∧ (x.2.1 k).1 = rn ∧ (x.2.1 k).2.1 = nm ∧ (x.2.1 k).2.2.1 = d := by
  unfold zfl at h
  cases hx : zcls[ci]? with
  | none => rw [hx] at h; cases h
  | some x =>
    rw [hx] at h
    dsimp only at h
    by_cases hk : k < x.2.2
    · rw [if_pos hk] at h
      cases h
      exact ⟨x, rfl, hk, rfl, rfl, rfl⟩
    · rw [if_neg hk] at h
      cases h
theorem zgetf (B : Bx (p, l, e, R, s, m, args, below, meth, c, Q, C, kc, ks, A, res, mo) own tb nL ret) (hP : va_P C.2.1 zcls (wl C mm) H) {q ci kf n : Nat} (hq : Ob q ci) (hd : decode c.code pc = .ok (.getfield n, 3)) {rn nm d : String} (hw : Cond.fieldLink own n rn nm d ∈ TW) (hf : zfl ci kf = some (rn, nm, d)) {v : Value} (hv : fvv C (mm q) ci q kf = v) (k : W p l e R s m args below meth c H locs kc ks Q (F0 m (pc + 3) ls (v :: rest))) : W p l e R s m args below meth c H locs kc ks Q (F0 m pc ls (.ref (C.1 q) :: rest)) := by
  obtain ⟨⟨Cn, T, N⟩, hx, hk, rfl, rfl, rfl⟩ := zfl_spec hf
  obtain ⟨hws, hN, hty, hnm⟩ := zcls_ok hx
  refine va_get (C := Cn) (T := T) (N := N) (fs := fl C (mm q) ci q) B.1 rfl B.tw hws B.hown B.K hP q ?_ hx kf hk (B.tw _ hw) (fun _ h => h) ?_ hd k
  · rw [wl_get hq.1, cel_obj hq.2 (zcls_lt hx)]
  · rw [fl_get _ _ (hN ▸ hk), hv]
theorem zputf (B : Bx (p, l, e, R, s, m, args, below, meth, c, Q, C, kc, ks, A, res, mo) own tb nL ret) (hP : va_P C.2.1 zcls (wl C mm) H) (hS : va_S A s.heap H locs) {q ci kf n : Nat} (hq : Ob q ci) (hr : rfk ci kf q = none) (hd : decode c.code pc = .ok (.putfield n, 3)) {rn nm d : String} (hw : Cond.fieldLink own n rn nm d ∈ TW) (hf : zfl ci kf = some (rn, nm, d)) {ty : FieldType} (hd0 : parseFieldDescriptor d = some ty) (hfin : zfin ci kf = false) {v : Int32} (hv : narrow ty (.int v) = .int v) (hfit : fits ty (.int v) = true)
    (k : ∀ (H1 : Heap) (locs1 : List Loc), va_P C.2.1 zcls (wl C (up2 mm q kf v)) H1 → va_S A s.heap H1 locs1 → W p l e R s m args below meth c H1 locs1 kc ks Q (F0 m (pc + 3) ls rest)) : W p l e R s m args below meth c H locs kc ks Q (F0 m pc ls (.int v :: .ref (C.1 q) :: rest)) := by
  obtain ⟨⟨Cn, T, N⟩, hx, hk, rfl, rfl, rfl⟩ := zfl_spec hf
  obtain ⟨hws, hN, hty, hnm⟩ := zcls_ok hx
  have hfin' : (T kf).2.2.2 = false := by unfold zfin at hfin; rw [hx] at hfin; exact hfin
  have hc8 := zcls_lt hx
  refine va_put (C := Cn) (T := T) (N := N) (ty := ty) (fs := fl C (mm q) ci q) B.1 rfl B.tw hws (tyA ci) hty hnm B.hown B.K hP (wl_D B mm) hS q ?_ hx kf hk (B.tw _ hw) (fun _ h => h) hfin' hd0 hv hfit ?_ hd (fun H1 locs1 hP1 _ hS1 => ?_)
  · rw [wl_get hq.1, cel_obj hq.2 hc8]
  · rw [fl_len]; exact hN ▸ hk
  · rw [wl_setF hq hc8 (hN ▸ hk) hr v] at hP1
    exact k H1 locs1 hP1 hS1
-- what a method's end asks, out of the state there
theorem Wd_end (B : Bx (p, l, e, R, s, m, args, below, meth, c, Q, C, kc, ks, A, res, mo) own tb nL ret) (hP : va_P C.2.1 zcls (wl C mm) H) (hS : va_S A s.heap H locs) {t : State} (ht : t.heap = H) (hW : s.WarmedH t.vm) : Wd C mm t := by
  refine ⟨by rw [ht]; exact hP, va_K.moved hW.alike B.K, ?_⟩
  rw [ht]
  exact B.sx.go hW (fun q hq => by obtain ⟨c, h1, rfl⟩ := hq; exact B.aa c h1) hS.2.1
theorem z_iret {E : Ev} {own : String} {tb : Tb} {nL : Nat} {ty : FieldType} {pc nx : Nat} {lv : Lv} {mm : Mem} {v : Int32} (B : Bx E own tb nL (some ty)) (i : Nat) (h : tb[i]? = some (pc, .ireturn, 1, nx)) (hn : narrow ty (.int v) = .int v) (hQ : Rt E) (hr : Rs E (some (.int v)) mm) : G E nL pc lv [.int v] mm := by
  obtain ⟨p, l, e, R, s, m, args, below, meth, c, Q, C, kc, ks, A, res, mo⟩ := E
  obtain ⟨hd, -⟩ := Bx.dec B h
  obtain ⟨rfl, rfl⟩ := hr
  have hQ : Q = MQ below (QC C A _ _) args s kc ks A := hQ
  subst hQ
  intro H locs ls hP hS hl
  exact W.zret (v := v) B.1 rfl B.rt hn (fun t ht hW => ⟨rfl, Wd_end B hP hS ht hW, hS.F ht⟩) hS.2.2 hd B.lk
theorem z_lret {E : Ev} {own : String} {tb : Tb} {nL : Nat} {pc nx : Nat} {lv : Lv} {mm : Mem} {v : Int64} (B : Bx E own tb nL (some .long)) (i : Nat) (h : tb[i]? = some (pc, .lreturn, 1, nx)) (hQ : Rt E) (hr : Rs E (some (.long v)) mm) : G E nL pc lv [.long v] mm := by
  obtain ⟨p, l, e, R, s, m, args, below, meth, c, Q, C, kc, ks, A, res, mo⟩ := E
  obtain ⟨hd, -⟩ := Bx.dec B h
  obtain ⟨rfl, rfl⟩ := hr
  have hQ : Q = MQ below (QC C A _ _) args s kc ks A := hQ
  subst hQ
  intro H locs ls hP hS hl
  exact W.lret (v := v) B.1 rfl B.rt (fun t ht hW => ⟨rfl, Wd_end B hP hS ht hW, hS.F ht⟩) hS.2.2 hd B.lk
theorem z_vret {E : Ev} {own : String} {tb : Tb} {nL : Nat} {pc nx : Nat} {lv : Lv} {mm : Mem} (B : Bx E own tb nL none) (i : Nat) (h : tb[i]? = some (pc, .return_, 1, nx)) (hQ : Rt E) (hr : Rs E none mm) : G E nL pc lv [] mm := by
  obtain ⟨p, l, e, R, s, m, args, below, meth, c, Q, C, kc, ks, A, res, mo⟩ := E
  obtain ⟨hd, -⟩ := Bx.dec B h
  obtain ⟨rfl, rfl⟩ := hr
  have hQ : Q = MQ below (QC C A _ _) args s kc ks A := hQ
  subst hQ
  intro H locs ls hP hS hl
  exact W.vret B.1 rfl B.rt (fun t ht hW => ⟨rfl, Wd_end B hP hS ht hW, hS.F ht⟩) hS.2.2 hd B.lk
/-- a contract: over every world that holds mm the method ends with r, and the world holds mo -/
def Ct (l : Launch) (C : Cfg) (y : MethodName) (bytes : ByteArray) (maxL : Nat) (ret : Option FieldType) (fr lo : Nat) (av : List Value) (mm : Mem) (r : Option Value) (mo : Mem) : Prop :=
  Met l y (Cond.code y bytes maxL ret :: TW) ({ frames := fr, cells := 0, slots := 0, locals := lo }) (va_Pc (av.map (cvv C)) (Wd C mm)) (QC C (Aw C) r mo) 0 0 (Aw C)
/-- a method's body, out of G at its entry -/
theorem Ct.of {l : Launch} {C : Cfg} (hj : Dj C) {y : MethodName} {bytes : ByteArray} {nL fr lo : Nat} {ret : Option FieldType} {av : List Value} {mm mo : Mem} {r : Option Value} {tb : Tb} (hy : plainName y.cls = true) (hcode : Cond.code y bytes nL ret ∈ TW) (htb : ∀ q ∈ tb, decode bytes q.1 = .ok (q.2.1, q.2.2.1) ∧ q.1 + q.2.2.1 = q.2.2.2) (hlen : (lg_sl (av.map (fun v => match v with | .long _ => Value.long 0 | .double _ => .double 0 | _ => .null))).length ≤ nL)
    (body : ∀ E : Ev, Bx E y.cls tb nL ret → Rt E → Rs E r mo → Ec E l C ({ frames := fr, cells := 0, slots := 0, locals := lo } : Room) → G E nL 0 (lv_args 0 av) [] mm) : Ct l C y bytes nL ret fr lo av mm r mo := by
  refine Met.ofW (cc := bytes) (maxL := nL) (ret := ret) hy rfl ?_
  intro p e s m args below meth c s₁ B hml hv
  obtain ⟨rfl, hP, hK, hSx⟩ := hv
  have hts : ∀ w ∈ TW, w.before (av.map (cvv C)).toArray s = true := fun w hw => atoms_spec (ws := Cond.code y bytes nL ret :: TW) B.pre w (List.mem_cons_of_mem _ hw)
  have hB : Bx (p, l, e, ({ frames := fr, cells := 0, slots := 0, locals := lo } : Room), s, m, (av.map (cvv C)).toArray, below, meth, c, MQ below (QC C (Aw C) r mo) (av.map (cvv C)).toArray s 0 0 (Aw C), C, 0, 0, Aw C, r, mo) y.cls tb nL ret :=
    ⟨B.exec, fun q hq => by rw [B.bytes]; exact htb q hq, hml, findClass_of_methodNamed B.named, hts, hK, hj, fun c hc => ⟨c, hc, rfl⟩, hSx, B.returns, B.notSynchronized, Nat.zero_le _, Nat.zero_le _⟩
  have hG := body _ hB rfl ⟨rfl, rfl⟩ ⟨rfl, rfl, rfl⟩
  have hll : ∀ (a : List Value), (lg_sl (a.map (cvv C))).length = (lg_sl (a.map (fun v => match v with | .long _ => Value.long 0 | .double _ => .double 0 | _ => .null))).length := by
    intro a
    induction a with
    | nil => rfl
    | cons v a ih =>
      simp only [lg_sl, List.map_cons, List.flatMap_cons, List.length_append] at ih ⊢
      rw [ih]
      congr 1
      cases v <;> rfl
  have hl := lv_entry (av.map (cvv C)) (n := nL) (by rw [hll]; exact hlen)
  rw [lg_entry_eq]
  generalize (lg_sl (av.map (cvv C)) ++ List.replicate (nL - (lg_sl (av.map (cvv C))).length) Slot.unset).toArray = ls at hl ⊢
  have hmap : ∀ (a : List Value) (i : Nat), lv_args i (a.map (cvv C)) = (lv_args i a).map (fun q => (q.1, cvv C q.2)) := by
    intro a
    induction a with
    | nil => intro i; rfl
    | cons v a ih =>
      intro i
      simp only [List.map_cons, lv_args, cvv_cat, ih]
  rw [hmap] at hl
  exact hG s.heap [] ls hP va_S.rf hl
/-- a call's answer -/
theorem zcall (B : Bx (p, l, e, R, s, m, args, below, meth, c, Q, C, kc, ks, A, res, mo) own tb nL ret) {r : Option Value} {mm' : Mem} {a : Array Value} {st0 st2 : List Value} (hS : va_S A s.heap H locs) (hr : va_Run p l e R s m args below meth c H locs kc ks 0 0 (F0 m pc ls st0) st2 (QC C (Aw C) r mm' a) (Aw C))
    (k : ∀ (H1 : Heap) (locs1 : List Loc), va_P C.2.1 zcls (wl C mm') H1 → va_S A s.heap H1 locs1 → W p l e R s m args below meth c H1 locs1 kc ks Q (F0 m (pc + 3) ls ((r.map (cvv C)).toList ++ st2))) : W p l e R s m args below meth c H locs kc ks Q (F0 m pc ls st0) := by
  intro T hT X
  have hAA : ∀ q, Aw C q → A q := fun q hq => by obtain ⟨c, h1, rfl⟩ := hq; exact B.aa c h1
  obtain ⟨v, st₀, t, T', L, h0, X', hL, e1, e2, ⟨hv, hWd, hz, hk⟩, st⟩ := hr T hT X
  cases hv
  rw [h0] at hz hk
  obtain ⟨t2, a1, b1⟩ := k T'.heap (locs ++ L) (by rw [e1]; exact hWd.1)
    ⟨Nat.le_trans hS.1 (by rw [e1]; exact hz), fun q h1 h2 => by rw [e1, hk q (Nat.lt_of_lt_of_le h1 hS.1) (fun z => h2 (hAA q z))]; exact hS.2.1 q h1 h2, fun q hq => by
      rcases List.mem_append.mp hq with h | h
      · exact hS.2.2 q h
      · exact hAA _ (hL q h)⟩ T' rfl X'
  exact ⟨t2, st t2 a1, b1⟩
theorem Wd_blind {av : List Value} : FrameBlind (va_Pc av (Wd C mm)) := fun a U g mk q =>
  ⟨q.1, q.2.1, va_K.moved (u := U) (U := U.calling g mk a) (Vm.Alike.refl U.vm) q.2.2.1, vk_S.moved (u := U) (U := U.calling g mk a) (Vm.Alike.refl U.vm) q.2.2.2.1, fun i x e => (q.2.2.2.2.1 i x e).same rfl, va_Z.moved (u := U) (U := U.calling g mk a) (Vm.Alike.refl U.vm) q.2.2.2.2.2.1, fun x m => va_Nw.same rfl rfl (q.2.2.2.2.2.2.1 x m), q.2.2.2.2.2.2.2.1.elim (fun z => Or.inl (va_Z.moved (u := U) (U := U.calling g mk a) (Vm.Alike.refl U.vm) z)) (fun z => Or.inr (va_Z.moved (u := U) (U := U.calling g mk a) (Vm.Alike.refl U.vm) z)), fun w m => va_Nw.same (tf_ok m).2 (u := U) (U := U.calling g mk a) rfl (q.2.2.2.2.2.2.2.2.1 w m), vx_Zq.moved (u := U) (U := U.calling g mk a) (Vm.Alike.refl U.vm) q.2.2.2.2.2.2.2.2.2.1, vx_Zq.moved (u := U) (U := U.calling g mk a) (Vm.Alike.refl U.vm) q.2.2.2.2.2.2.2.2.2.2⟩
theorem Wd_call (B : Bx (p, l, e, R, s, m, args, below, meth, c, Q, C, kc, ks, A, res, mo) own tb nL ret) (hP : va_P C.2.1 zcls (wl C mm) H) (hS : va_S A s.heap H locs) (av : List Value) : ∀ U : State, U.heap = H → s.WarmedH U.vm → va_Pc (av.map (cvv C)) (Wd C mm) (av.map (cvv C)).toArray U := fun U hU hW => ⟨rfl, Wd_end B hP hS hU hW⟩
end BXS
end
section
theorem z_iadd {E : Ev} {own : String} {tb : Tb} {nL : Nat} {ret : Option FieldType} {pc nx : Nat} {lv : Lv} {st : List Value} {mm : Mem} {x y : Int32} (B : Bx E own tb nL ret) (i : Nat) (h : tb[i]? = some (pc, .iadd, 1, nx)) (k : G E nL nx lv (.int (x + y) :: st) mm) : G E nL pc lv (.int y :: .int x :: st) mm := by
  obtain ⟨p, l, e, R, s, m, args, below, meth, c, Q, C, kc, ks, A, res, mo⟩ := E
  obtain ⟨hd, hn⟩ := Bx.dec B h
  subst hn
  intro H locs ls hP hS hl
  exact lv_iadd B.1 rfl hd (k H locs ls hP hS hl)
theorem z_isub {E : Ev} {own : String} {tb : Tb} {nL : Nat} {ret : Option FieldType} {pc nx : Nat} {lv : Lv} {st : List Value} {mm : Mem} {x y : Int32} (B : Bx E own tb nL ret) (i : Nat) (h : tb[i]? = some (pc, .isub, 1, nx)) (k : G E nL nx lv (.int (x - y) :: st) mm) : G E nL pc lv (.int y :: .int x :: st) mm := by
  obtain ⟨p, l, e, R, s, m, args, below, meth, c, Q, C, kc, ks, A, res, mo⟩ := E
  obtain ⟨hd, hn⟩ := Bx.dec B h
  subst hn
  intro H locs ls hP hS hl
  exact lv_isub B.1 rfl hd (k H locs ls hP hS hl)
theorem z_imul {E : Ev} {own : String} {tb : Tb} {nL : Nat} {ret : Option FieldType} {pc nx : Nat} {lv : Lv} {st : List Value} {mm : Mem} {x y : Int32} (B : Bx E own tb nL ret) (i : Nat) (h : tb[i]? = some (pc, .imul, 1, nx)) (k : G E nL nx lv (.int (x * y) :: st) mm) : G E nL pc lv (.int y :: .int x :: st) mm := by
  obtain ⟨p, l, e, R, s, m, args, below, meth, c, Q, C, kc, ks, A, res, mo⟩ := E
  obtain ⟨hd, hn⟩ := Bx.dec B h
  subst hn
  intro H locs ls hP hS hl
  exact lv_imul B.1 rfl hd (k H locs ls hP hS hl)
theorem z_iand {E : Ev} {own : String} {tb : Tb} {nL : Nat} {ret : Option FieldType} {pc nx : Nat} {lv : Lv} {st : List Value} {mm : Mem} {x y : Int32} (B : Bx E own tb nL ret) (i : Nat) (h : tb[i]? = some (pc, .iand, 1, nx)) (k : G E nL nx lv (.int (x &&& y) :: st) mm) : G E nL pc lv (.int y :: .int x :: st) mm := by
  obtain ⟨p, l, e, R, s, m, args, below, meth, c, Q, C, kc, ks, A, res, mo⟩ := E
  obtain ⟨hd, hn⟩ := Bx.dec B h
  subst hn
  intro H locs ls hP hS hl
  exact lv_iand B.1 rfl hd (k H locs ls hP hS hl)
theorem z_ior {E : Ev} {own : String} {tb : Tb} {nL : Nat} {ret : Option FieldType} {pc nx : Nat} {lv : Lv} {st : List Value} {mm : Mem} {x y : Int32} (B : Bx E own tb nL ret) (i : Nat) (h : tb[i]? = some (pc, .ior, 1, nx)) (k : G E nL nx lv (.int (x ||| y) :: st) mm) : G E nL pc lv (.int y :: .int x :: st) mm := by
  obtain ⟨p, l, e, R, s, m, args, below, meth, c, Q, C, kc, ks, A, res, mo⟩ := E
  obtain ⟨hd, hn⟩ := Bx.dec B h
  subst hn
  intro H locs ls hP hS hl
  exact lv_ior B.1 rfl hd (k H locs ls hP hS hl)
theorem z_ishl {E : Ev} {own : String} {tb : Tb} {nL : Nat} {ret : Option FieldType} {pc nx : Nat} {lv : Lv} {st : List Value} {mm : Mem} {x y : Int32} (B : Bx E own tb nL ret) (i : Nat) (h : tb[i]? = some (pc, .ishl, 1, nx)) (k : G E nL nx lv (.int (x <<< (y &&& 31)) :: st) mm) : G E nL pc lv (.int y :: .int x :: st) mm := by
  obtain ⟨p, l, e, R, s, m, args, below, meth, c, Q, C, kc, ks, A, res, mo⟩ := E
  obtain ⟨hd, hn⟩ := Bx.dec B h
  subst hn
  intro H locs ls hP hS hl
  exact lv_ishl B.1 rfl hd (k H locs ls hP hS hl)
theorem z_ishr {E : Ev} {own : String} {tb : Tb} {nL : Nat} {ret : Option FieldType} {pc nx : Nat} {lv : Lv} {st : List Value} {mm : Mem} {x y : Int32} (B : Bx E own tb nL ret) (i : Nat) (h : tb[i]? = some (pc, .ishr, 1, nx)) (k : G E nL nx lv (.int (x >>> (y &&& 31)) :: st) mm) : G E nL pc lv (.int y :: .int x :: st) mm := by
  obtain ⟨p, l, e, R, s, m, args, below, meth, c, Q, C, kc, ks, A, res, mo⟩ := E
  obtain ⟨hd, hn⟩ := Bx.dec B h
  subst hn
  intro H locs ls hP hS hl
  exact lv_ishr B.1 rfl hd (k H locs ls hP hS hl)
theorem z_iushr {E : Ev} {own : String} {tb : Tb} {nL : Nat} {ret : Option FieldType} {pc nx : Nat} {lv : Lv} {st : List Value} {mm : Mem} {x y : Int32} (B : Bx E own tb nL ret) (i : Nat) (h : tb[i]? = some (pc, .iushr, 1, nx)) (k : G E nL nx lv (.int ((x.toUInt32 >>> (y.toUInt32 &&& Int32.toUInt32 31)).toInt32) :: st) mm) : G E nL pc lv (.int y :: .int x :: st) mm := by
  obtain ⟨p, l, e, R, s, m, args, below, meth, c, Q, C, kc, ks, A, res, mo⟩ := E
  obtain ⟨hd, hn⟩ := Bx.dec B h
  subst hn
  intro H locs ls hP hS hl
  exact lv_iushr B.1 rfl hd rfl (k H locs ls hP hS hl)
theorem z_idiv {E : Ev} {own : String} {tb : Tb} {nL : Nat} {ret : Option FieldType} {pc nx : Nat} {lv : Lv} {st : List Value} {mm : Mem} {x y : Int32} (B : Bx E own tb nL ret) (i : Nat) (h : tb[i]? = some (pc, .idiv, 1, nx)) (hy : ¬ y = 0) (k : G E nL nx lv (.int (x / y) :: st) mm) : G E nL pc lv (.int y :: .int x :: st) mm := by
  obtain ⟨p, l, e, R, s, m, args, below, meth, c, Q, C, kc, ks, A, res, mo⟩ := E
  obtain ⟨hd, hn⟩ := Bx.dec B h
  subst hn
  intro H locs ls hP hS hl
  exact lv_idiv B.1 rfl hd hy (k H locs ls hP hS hl)
theorem z_ineg {E : Ev} {own : String} {tb : Tb} {nL : Nat} {ret : Option FieldType} {pc nx : Nat} {lv : Lv} {st : List Value} {mm : Mem} {x : Int32} (B : Bx E own tb nL ret) (i : Nat) (h : tb[i]? = some (pc, .ineg, 1, nx)) (k : G E nL nx lv (.int (-x) :: st) mm) : G E nL pc lv (.int x :: st) mm := by
  obtain ⟨p, l, e, R, s, m, args, below, meth, c, Q, C, kc, ks, A, res, mo⟩ := E
  obtain ⟨hd, hn⟩ := Bx.dec B h
  subst hn
  intro H locs ls hP hS hl
  exact lv_ineg B.1 rfl hd (k H locs ls hP hS hl)
theorem z_i2l {E : Ev} {own : String} {tb : Tb} {nL : Nat} {ret : Option FieldType} {pc nx : Nat} {lv : Lv} {st : List Value} {mm : Mem} {x : Int32} (B : Bx E own tb nL ret) (i : Nat) (h : tb[i]? = some (pc, .i2l, 1, nx)) (k : G E nL nx lv (.long (x.toInt64) :: st) mm) : G E nL pc lv (.int x :: st) mm := by
  obtain ⟨p, l, e, R, s, m, args, below, meth, c, Q, C, kc, ks, A, res, mo⟩ := E
  obtain ⟨hd, hn⟩ := Bx.dec B h
  subst hn
  intro H locs ls hP hS hl
  exact lv_i2l B.1 rfl hd rfl (k H locs ls hP hS hl)
theorem z_ladd {E : Ev} {own : String} {tb : Tb} {nL : Nat} {ret : Option FieldType} {pc nx : Nat} {lv : Lv} {st : List Value} {mm : Mem} {x y : Int64} (B : Bx E own tb nL ret) (i : Nat) (h : tb[i]? = some (pc, .ladd, 1, nx)) (k : G E nL nx lv (.long (x + y) :: st) mm) : G E nL pc lv (.long y :: .long x :: st) mm := by
  obtain ⟨p, l, e, R, s, m, args, below, meth, c, Q, C, kc, ks, A, res, mo⟩ := E
  obtain ⟨hd, hn⟩ := Bx.dec B h
  subst hn
  intro H locs ls hP hS hl
  exact lv_ladd B.1 rfl hd (k H locs ls hP hS hl)
theorem z_lsub {E : Ev} {own : String} {tb : Tb} {nL : Nat} {ret : Option FieldType} {pc nx : Nat} {lv : Lv} {st : List Value} {mm : Mem} {x y : Int64} (B : Bx E own tb nL ret) (i : Nat) (h : tb[i]? = some (pc, .lsub, 1, nx)) (k : G E nL nx lv (.long (x - y) :: st) mm) : G E nL pc lv (.long y :: .long x :: st) mm := by
  obtain ⟨p, l, e, R, s, m, args, below, meth, c, Q, C, kc, ks, A, res, mo⟩ := E
  obtain ⟨hd, hn⟩ := Bx.dec B h
  subst hn
  intro H locs ls hP hS hl
  exact lv_lsub B.1 rfl hd (k H locs ls hP hS hl)
theorem z_lmul {E : Ev} {own : String} {tb : Tb} {nL : Nat} {ret : Option FieldType} {pc nx : Nat} {lv : Lv} {st : List Value} {mm : Mem} {x y : Int64} (B : Bx E own tb nL ret) (i : Nat) (h : tb[i]? = some (pc, .lmul, 1, nx)) (k : G E nL nx lv (.long (x * y) :: st) mm) : G E nL pc lv (.long y :: .long x :: st) mm := by
  obtain ⟨p, l, e, R, s, m, args, below, meth, c, Q, C, kc, ks, A, res, mo⟩ := E
  obtain ⟨hd, hn⟩ := Bx.dec B h
  subst hn
  intro H locs ls hP hS hl
  exact lv_lmul B.1 rfl hd (k H locs ls hP hS hl)
theorem z_lcmp {E : Ev} {own : String} {tb : Tb} {nL : Nat} {ret : Option FieldType} {pc nx : Nat} {lv : Lv} {st : List Value} {mm : Mem} {x y : Int64} (B : Bx E own tb nL ret) (i : Nat) (h : tb[i]? = some (pc, .lcmp, 1, nx)) (k : G E nL nx lv (.int (lg_cmp x y) :: st) mm) : G E nL pc lv (.long y :: .long x :: st) mm := by
  obtain ⟨p, l, e, R, s, m, args, below, meth, c, Q, C, kc, ks, A, res, mo⟩ := E
  obtain ⟨hd, hn⟩ := Bx.dec B h
  subst hn
  intro H locs ls hP hS hl
  exact W.lcmp B.1 rfl hd (k H locs ls hP hS hl)
theorem z_iconst {E : Ev} {own : String} {tb : Tb} {nL : Nat} {ret : Option FieldType} {pc nx : Nat} {lv : Lv} {st : List Value} {mm : Mem} {n : Int} (v : Int32) (B : Bx E own tb nL ret) (i : Nat) (h : tb[i]? = some (pc, .iconst n, 1, nx)) (hv : Int32.ofInt n = v) (k : G E nL nx lv (.int v :: st) mm) : G E nL pc lv st mm := by
  obtain ⟨p, l, e, R, s, m, args, below, meth, c, Q, C, kc, ks, A, res, mo⟩ := E
  obtain ⟨hd, hn⟩ := Bx.dec B h
  subst hn
  intro H locs ls hP hS hl
  exact lv_iconst B.1 rfl hd hv (k H locs ls hP hS hl)
theorem z_bipush {E : Ev} {own : String} {tb : Tb} {nL : Nat} {ret : Option FieldType} {pc nx : Nat} {lv : Lv} {st : List Value} {mm : Mem} {n : Int} (v : Int32) (B : Bx E own tb nL ret) (i : Nat) (h : tb[i]? = some (pc, .bipush n, 2, nx)) (hv : (Int8.ofInt n).toInt32 = v) (k : G E nL nx lv (.int v :: st) mm) : G E nL pc lv st mm := by
  obtain ⟨p, l, e, R, s, m, args, below, meth, c, Q, C, kc, ks, A, res, mo⟩ := E
  obtain ⟨hd, hn⟩ := Bx.dec B h
  subst hn
  intro H locs ls hP hS hl
  exact lv_bipush B.1 rfl hd hv (k H locs ls hP hS hl)
theorem z_sipush {E : Ev} {own : String} {tb : Tb} {nL : Nat} {ret : Option FieldType} {pc nx : Nat} {lv : Lv} {st : List Value} {mm : Mem} {n : Int} (v : Int32) (B : Bx E own tb nL ret) (i : Nat) (h : tb[i]? = some (pc, .sipush n, 3, nx)) (hv : (Int16.ofInt n).toInt32 = v) (k : G E nL nx lv (.int v :: st) mm) : G E nL pc lv st mm := by
  obtain ⟨p, l, e, R, s, m, args, below, meth, c, Q, C, kc, ks, A, res, mo⟩ := E
  obtain ⟨hd, hn⟩ := Bx.dec B h
  subst hn
  intro H locs ls hP hS hl
  exact lv_sipush B.1 rfl hd hv (k H locs ls hP hS hl)
theorem z_lconst {E : Ev} {own : String} {tb : Tb} {nL : Nat} {ret : Option FieldType} {pc nx : Nat} {lv : Lv} {st : List Value} {mm : Mem} {n : Fin 2} (v : Int64) (B : Bx E own tb nL ret) (i : Nat) (h : tb[i]? = some (pc, .lconst n, 1, nx)) (hv : Int64.ofNat (n : Nat) = v) (k : G E nL nx lv (.long v :: st) mm) : G E nL pc lv st mm := by
  obtain ⟨p, l, e, R, s, m, args, below, meth, c, Q, C, kc, ks, A, res, mo⟩ := E
  obtain ⟨hd, hn⟩ := Bx.dec B h
  subst hn
  intro H locs ls hP hS hl
  exact lv_lconst B.1 rfl hd hv (k H locs ls hP hS hl)
theorem z_ldc {E : Ev} {own : String} {tb : Tb} {nL : Nat} {ret : Option FieldType} {pc nx : Nat} {lv : Lv} {st : List Value} {mm : Mem} {n : Nat} (v : Int32) (B : Bx E own tb nL ret) (i : Nat) (h : tb[i]? = some (pc, .ldc n, 2, nx)) (hw : Cond.constant own n v ∈ TW) (k : G E nL nx lv (.int v :: st) mm) : G E nL pc lv st mm := by
  obtain ⟨p, l, e, R, s, m, args, below, meth, c, Q, C, kc, ks, A, res, mo⟩ := E
  obtain ⟨hd, hn⟩ := Bx.dec B h
  subst hn
  intro H locs ls hP hS hl
  exact lv_ldc B.1 rfl B.hown (B.tw _ hw) hd (k H locs ls hP hS hl)
theorem z_ldc2 {E : Ev} {own : String} {tb : Tb} {nL : Nat} {ret : Option FieldType} {pc nx : Nat} {lv : Lv} {st : List Value} {mm : Mem} {n : Nat} (v : Int64) (B : Bx E own tb nL ret) (i : Nat) (h : tb[i]? = some (pc, .ldc2_w n, 3, nx)) (hw : Cond.constantLong own n v ∈ TW) (k : G E nL nx lv (.long v :: st) mm) : G E nL pc lv st mm := by
  obtain ⟨p, l, e, R, s, m, args, below, meth, c, Q, C, kc, ks, A, res, mo⟩ := E
  obtain ⟨hd, hn⟩ := Bx.dec B h
  subst hn
  intro H locs ls hP hS hl
  exact lv_ldc2 B.1 rfl B.hown (B.tw _ hw) hd (k H locs ls hP hS hl)
theorem z_ldcs {E : Ev} {own : String} {tb : Tb} {nL : Nat} {ret : Option FieldType} {pc nx : Nat} {lv : Lv} {st : List Value} {mm : Mem} {n : Nat} {tx : String} {bs : List Int32} (k a : Nat) (B : Bx E own tb nL ret) (i : Nat) (h : tb[i]? = some (pc, .ldc n, 2, nx)) (ho : own = "ZoneCapacity$Teller") (hk : ztx[k]? = some (n, tx, bs)) (ha : 1000 + k = a) (kk : G E nL nx lv (.ref a :: st) mm) : G E nL pc lv st mm := by
  subst ho
  subst ha
  obtain ⟨p, l, e, R, s, m, args, below, meth, c, Q, C, kc, ks, A, res, mo⟩ := E
  obtain ⟨hd, hn⟩ := Bx.dec B h
  subst hn
  intro H locs ls hP hS hl
  exact va_ldcS B.1 rfl B.hown (B.sx.2.1 k _ hk) hd (kk H locs ls hP hS hl)
theorem z_iload_n {E : Ev} {own : String} {tb : Tb} {nL : Nat} {ret : Option FieldType} {pc nx : Nat} {lv : Lv} {st : List Value} {mm : Mem} {x : Int32} {kk : Fin 4} (B : Bx E own tb nL ret) (i : Nat) (h : tb[i]? = some (pc, .iload_n kk, 1, nx)) (q j : Nat) (hq : (kk : Nat) = q) (hj : lv[j]? = some (q, .int x)) (k : G E nL nx lv (.int x :: st) mm) : G E nL pc lv st mm := by
  obtain ⟨p, l, e, R, s, m, args, below, meth, c, Q, C, kc, ks, A, res, mo⟩ := E
  obtain ⟨hd, hn⟩ := Bx.dec B h
  subst hn
  intro H locs ls hP hS hl
  exact lv_iload_n B.1 rfl hd hq (lv_at hl j (lvm hj)) (k H locs ls hP hS hl)
theorem z_iload {E : Ev} {own : String} {tb : Tb} {nL : Nat} {ret : Option FieldType} {pc nx : Nat} {lv : Lv} {st : List Value} {mm : Mem} {x : Int32} {q : Nat} (B : Bx E own tb nL ret) (i : Nat) (h : tb[i]? = some (pc, .iload q, 2, nx)) (j : Nat) (hj : lv[j]? = some (q, .int x)) (k : G E nL nx lv (.int x :: st) mm) : G E nL pc lv st mm := by
  obtain ⟨p, l, e, R, s, m, args, below, meth, c, Q, C, kc, ks, A, res, mo⟩ := E
  obtain ⟨hd, hn⟩ := Bx.dec B h
  subst hn
  intro H locs ls hP hS hl
  exact lv_iload B.1 rfl hd (lv_at hl j (lvm hj)) (k H locs ls hP hS hl)
theorem z_lload_n {E : Ev} {own : String} {tb : Tb} {nL : Nat} {ret : Option FieldType} {pc nx : Nat} {lv : Lv} {st : List Value} {mm : Mem} {x : Int64} {kk : Fin 4} (B : Bx E own tb nL ret) (i : Nat) (h : tb[i]? = some (pc, .lload_n kk, 1, nx)) (q j : Nat) (hq : (kk : Nat) = q) (hj : lv[j]? = some (q, .long x)) (k : G E nL nx lv (.long x :: st) mm) : G E nL pc lv st mm := by
  obtain ⟨p, l, e, R, s, m, args, below, meth, c, Q, C, kc, ks, A, res, mo⟩ := E
  obtain ⟨hd, hn⟩ := Bx.dec B h
  subst hn
  intro H locs ls hP hS hl
  exact lv_lload_n B.1 rfl hd hq (lv_at hl j (lvm hj)) (k H locs ls hP hS hl)
theorem z_lload {E : Ev} {own : String} {tb : Tb} {nL : Nat} {ret : Option FieldType} {pc nx : Nat} {lv : Lv} {st : List Value} {mm : Mem} {x : Int64} {q : Nat} (B : Bx E own tb nL ret) (i : Nat) (h : tb[i]? = some (pc, .lload q, 2, nx)) (j : Nat) (hj : lv[j]? = some (q, .long x)) (k : G E nL nx lv (.long x :: st) mm) : G E nL pc lv st mm := by
  obtain ⟨p, l, e, R, s, m, args, below, meth, c, Q, C, kc, ks, A, res, mo⟩ := E
  obtain ⟨hd, hn⟩ := Bx.dec B h
  subst hn
  intro H locs ls hP hS hl
  exact lv_lload B.1 rfl hd (lv_at hl j (lvm hj)) (k H locs ls hP hS hl)
theorem z_aload_n {E : Ev} {own : String} {tb : Tb} {nL : Nat} {ret : Option FieldType} {pc nx : Nat} {lv : Lv} {st : List Value} {mm : Mem} {x : Nat} {kk : Fin 4} (B : Bx E own tb nL ret) (i : Nat) (h : tb[i]? = some (pc, .aload_n kk, 1, nx)) (q j : Nat) (hq : (kk : Nat) = q) (hj : lv[j]? = some (q, .ref x)) (k : G E nL nx lv (.ref x :: st) mm) : G E nL pc lv st mm := by
  obtain ⟨p, l, e, R, s, m, args, below, meth, c, Q, C, kc, ks, A, res, mo⟩ := E
  obtain ⟨hd, hn⟩ := Bx.dec B h
  subst hn
  intro H locs ls hP hS hl
  exact lv_aload_n B.1 rfl hd hq (lv_at hl j (lvm hj)) (k H locs ls hP hS hl)
theorem z_aload {E : Ev} {own : String} {tb : Tb} {nL : Nat} {ret : Option FieldType} {pc nx : Nat} {lv : Lv} {st : List Value} {mm : Mem} {x : Nat} {q : Nat} (B : Bx E own tb nL ret) (i : Nat) (h : tb[i]? = some (pc, .aload q, 2, nx)) (j : Nat) (hj : lv[j]? = some (q, .ref x)) (k : G E nL nx lv (.ref x :: st) mm) : G E nL pc lv st mm := by
  obtain ⟨p, l, e, R, s, m, args, below, meth, c, Q, C, kc, ks, A, res, mo⟩ := E
  obtain ⟨hd, hn⟩ := Bx.dec B h
  subst hn
  intro H locs ls hP hS hl
  exact lv_aload B.1 rfl hd (lv_at hl j (lvm hj)) (k H locs ls hP hS hl)
theorem z_istore_n {E : Ev} {own : String} {tb : Tb} {nL : Nat} {ret : Option FieldType} {pc nx : Nat} {lv : Lv} {st : List Value} {mm : Mem} {x : Int32} {kk : Fin 4} (lv' : Lv) (B : Bx E own tb nL ret) (i : Nat) (h : tb[i]? = some (pc, .istore_n kk, 1, nx)) (q : Nat) (hq : (kk : Nat) = q) (hn : q < nL) (hl' : zs1 lv q (.int x) = lv') (k : G E nL nx lv' st mm) : G E nL pc lv (.int x :: st) mm := by
  subst hl'
  obtain ⟨p, l, e, R, s, m, args, below, meth, c, Q, C, kc, ks, A, res, mo⟩ := E
  obtain ⟨hd, hn⟩ := Bx.dec B h
  subst hn
  intro H locs ls hP hS hl
  exact lv_istore_n B.1 rfl hd hq hl hn (zs1_map C lv q (.int x)) (fun ls' hl' => k H locs ls' hP hS hl')
theorem z_istore {E : Ev} {own : String} {tb : Tb} {nL : Nat} {ret : Option FieldType} {pc nx : Nat} {lv : Lv} {st : List Value} {mm : Mem} {x : Int32} {q : Nat} (lv' : Lv) (B : Bx E own tb nL ret) (i : Nat) (h : tb[i]? = some (pc, .istore q, 2, nx)) (hn : q < nL) (hl' : zs1 lv q (.int x) = lv') (k : G E nL nx lv' st mm) : G E nL pc lv (.int x :: st) mm := by
  subst hl'
  obtain ⟨p, l, e, R, s, m, args, below, meth, c, Q, C, kc, ks, A, res, mo⟩ := E
  obtain ⟨hd, hn⟩ := Bx.dec B h
  subst hn
  intro H locs ls hP hS hl
  exact lv_istore B.1 rfl hd hl hn (zs1_map C lv q (.int x)) (fun ls' hl' => k H locs ls' hP hS hl')
theorem z_astore_n {E : Ev} {own : String} {tb : Tb} {nL : Nat} {ret : Option FieldType} {pc nx : Nat} {lv : Lv} {st : List Value} {mm : Mem} {x : Nat} {kk : Fin 4} (lv' : Lv) (B : Bx E own tb nL ret) (i : Nat) (h : tb[i]? = some (pc, .astore_n kk, 1, nx)) (q : Nat) (hq : (kk : Nat) = q) (hn : q < nL) (hl' : zs1 lv q (.ref x) = lv') (k : G E nL nx lv' st mm) : G E nL pc lv (.ref x :: st) mm := by
  subst hl'
  obtain ⟨p, l, e, R, s, m, args, below, meth, c, Q, C, kc, ks, A, res, mo⟩ := E
  obtain ⟨hd, hn⟩ := Bx.dec B h
  subst hn
  intro H locs ls hP hS hl
  exact lv_astore_n B.1 rfl hd hq hl hn (zs1_map C lv q (.ref x)) (fun ls' hl' => k H locs ls' hP hS hl')
theorem z_astore {E : Ev} {own : String} {tb : Tb} {nL : Nat} {ret : Option FieldType} {pc nx : Nat} {lv : Lv} {st : List Value} {mm : Mem} {x : Nat} {q : Nat} (lv' : Lv) (B : Bx E own tb nL ret) (i : Nat) (h : tb[i]? = some (pc, .astore q, 2, nx)) (hn : q < nL) (hl' : zs1 lv q (.ref x) = lv') (k : G E nL nx lv' st mm) : G E nL pc lv (.ref x :: st) mm := by
  subst hl'
  obtain ⟨p, l, e, R, s, m, args, below, meth, c, Q, C, kc, ks, A, res, mo⟩ := E
  obtain ⟨hd, hn⟩ := Bx.dec B h
  subst hn
  intro H locs ls hP hS hl
  exact lv_astore B.1 rfl hd hl hn (zs1_map C lv q (.ref x)) (fun ls' hl' => k H locs ls' hP hS hl')
theorem z_lstore_n {E : Ev} {own : String} {tb : Tb} {nL : Nat} {ret : Option FieldType} {pc nx : Nat} {lv : Lv} {st : List Value} {mm : Mem} {x : Int64} {kk : Fin 4} (lv' : Lv) (B : Bx E own tb nL ret) (i : Nat) (h : tb[i]? = some (pc, .lstore_n kk, 1, nx)) (q : Nat) (hq : (kk : Nat) = q) (hn : q + 1 < nL) (hl' : zs2 lv q (.long x) = lv') (k : G E nL nx lv' st mm) : G E nL pc lv (.long x :: st) mm := by
  subst hl'
  obtain ⟨p, l, e, R, s, m, args, below, meth, c, Q, C, kc, ks, A, res, mo⟩ := E
  obtain ⟨hd, hn⟩ := Bx.dec B h
  subst hn
  intro H locs ls hP hS hl
  exact lv_lstore_n B.1 rfl hd hq hl hn (zs2_map C lv q (.long x)) (fun ls' hl' => k H locs ls' hP hS hl')
theorem z_lstore {E : Ev} {own : String} {tb : Tb} {nL : Nat} {ret : Option FieldType} {pc nx : Nat} {lv : Lv} {st : List Value} {mm : Mem} {x : Int64} {q : Nat} (lv' : Lv) (B : Bx E own tb nL ret) (i : Nat) (h : tb[i]? = some (pc, .lstore q, 2, nx)) (hn : q + 1 < nL) (hl' : zs2 lv q (.long x) = lv') (k : G E nL nx lv' st mm) : G E nL pc lv (.long x :: st) mm := by
  subst hl'
  obtain ⟨p, l, e, R, s, m, args, below, meth, c, Q, C, kc, ks, A, res, mo⟩ := E
  obtain ⟨hd, hn⟩ := Bx.dec B h
  subst hn
  intro H locs ls hP hS hl
  exact lv_lstore B.1 rfl hd hl hn (zs2_map C lv q (.long x)) (fun ls' hl' => k H locs ls' hP hS hl')
theorem z_iinc {E : Ev} {own : String} {tb : Tb} {nL : Nat} {ret : Option FieldType} {pc nx : Nat} {lv : Lv} {st : List Value} {mm : Mem} {x : Int32} {q : Nat} {n : Int} (v : Int32) (lv' : Lv) (B : Bx E own tb nL ret) (i : Nat) (h : tb[i]? = some (pc, .iinc q n, 3, nx)) (j : Nat) (hj : lv[j]? = some (q, .int x)) (hv : x + Int32.ofInt n = v) (hn : q < nL) (hl' : zs1 lv q (.int v) = lv') (k : G E nL nx lv' st mm) : G E nL pc lv st mm := by
  subst hl'
  obtain ⟨p, l, e, R, s, m, args, below, meth, c, Q, C, kc, ks, A, res, mo⟩ := E
  obtain ⟨hd, hn⟩ := Bx.dec B h
  subst hn
  intro H locs ls hP hS hl
  exact lv_iinc B.1 rfl hd hl (lvm hj) hv hn (zs1_map C lv q (.int v)) (fun ls' hl' => k H locs ls' hP hS hl')
theorem z_dup {E : Ev} {own : String} {tb : Tb} {nL : Nat} {ret : Option FieldType} {pc nx : Nat} {lv : Lv} {st : List Value} {mm : Mem} {v : Value} (B : Bx E own tb nL ret) (i : Nat) (h : tb[i]? = some (pc, .dup, 1, nx)) (hv : v.category = 1) (k : G E nL nx lv (v :: v :: st) mm) : G E nL pc lv (v :: st) mm := by
  obtain ⟨p, l, e, R, s, m, args, below, meth, c, Q, C, kc, ks, A, res, mo⟩ := E
  obtain ⟨hd, hn⟩ := Bx.dec B h
  subst hn
  intro H locs ls hP hS hl
  exact lv_dup B.1 rfl hd ((cvv_cat C v).trans hv) (k H locs ls hP hS hl)
theorem z_pop {E : Ev} {own : String} {tb : Tb} {nL : Nat} {ret : Option FieldType} {pc nx : Nat} {lv : Lv} {st : List Value} {mm : Mem} {v : Value} (B : Bx E own tb nL ret) (i : Nat) (h : tb[i]? = some (pc, .pop, 1, nx)) (hv : v.category = 1) (k : G E nL nx lv st mm) : G E nL pc lv (v :: st) mm := by
  obtain ⟨p, l, e, R, s, m, args, below, meth, c, Q, C, kc, ks, A, res, mo⟩ := E
  obtain ⟨hd, hn⟩ := Bx.dec B h
  subst hn
  intro H locs ls hP hS hl
  exact lv_pop B.1 rfl hd ((cvv_cat C v).trans hv) (k H locs ls hP hS hl)
theorem z_dup2 {E : Ev} {own : String} {tb : Tb} {nL : Nat} {ret : Option FieldType} {pc nx : Nat} {lv : Lv} {st : List Value} {mm : Mem} {v w : Value} (B : Bx E own tb nL ret) (i : Nat) (h : tb[i]? = some (pc, .dup2, 1, nx)) (hv : v.category = 1) (hw : w.category = 1) (k : G E nL nx lv (v :: w :: v :: w :: st) mm) : G E nL pc lv (v :: w :: st) mm := by
  obtain ⟨p, l, e, R, s, m, args, below, meth, c, Q, C, kc, ks, A, res, mo⟩ := E
  obtain ⟨hd, hn⟩ := Bx.dec B h
  subst hn
  intro H locs ls hP hS hl
  exact lv_dup2_11 B.1 rfl hd ((cvv_cat C v).trans hv) ((cvv_cat C w).trans hw) (k H locs ls hP hS hl)
theorem z_goto {E : Ev} {own : String} {tb : Tb} {nL : Nat} {ret : Option FieldType} {pc nx : Nat} {lv : Lv} {st : List Value} {mm : Mem} {off : Int} (B : Bx E own tb nL ret) (i : Nat) (h : tb[i]? = some (pc, .goto off, 3, nx)) (tgt : Nat) (ht : (pc : Int) + off = (tgt : Int)) (k : G E nL tgt lv st mm) : G E nL pc lv st mm := by
  obtain ⟨p, l, e, R, s, m, args, below, meth, c, Q, C, kc, ks, A, res, mo⟩ := E
  obtain ⟨hd, hn⟩ := Bx.dec B h
  subst hn
  intro H locs ls hP hS hl
  exact lv_goto B.1 rfl hd ht (k H locs ls hP hS hl)
theorem z_if_eq_t {E : Ev} {own : String} {tb : Tb} {nL : Nat} {ret : Option FieldType} {pc nx : Nat} {lv : Lv} {st : List Value} {mm : Mem} {x : Int32} {off : Int} (B : Bx E own tb nL ret) (i : Nat) (h : tb[i]? = some (pc, .ifCond .eq off, 3, nx)) (tgt : Nat) (ht : (pc : Int) + off = (tgt : Int)) (hc : x = 0) (k : G E nL tgt lv st mm) : G E nL pc lv (.int x :: st) mm := by
  obtain ⟨p, l, e, R, s, m, args, below, meth, c, Q, C, kc, ks, A, res, mo⟩ := E
  obtain ⟨hd, hn⟩ := Bx.dec B h
  subst hn
  intro H locs ls hP hS hl
  exact lv_if_eq B.1 rfl hd ht (fun _ => k H locs ls hP hS hl) (fun q => absurd (hc) q)
theorem z_if_eq_f {E : Ev} {own : String} {tb : Tb} {nL : Nat} {ret : Option FieldType} {pc nx : Nat} {lv : Lv} {st : List Value} {mm : Mem} {x : Int32} {off : Int} (B : Bx E own tb nL ret) (i : Nat) (h : tb[i]? = some (pc, .ifCond .eq off, 3, nx)) (tgt : Nat) (ht : (pc : Int) + off = (tgt : Int)) (hc : ¬ x = 0) (k : G E nL nx lv st mm) : G E nL pc lv (.int x :: st) mm := by
  obtain ⟨p, l, e, R, s, m, args, below, meth, c, Q, C, kc, ks, A, res, mo⟩ := E
  obtain ⟨hd, hn⟩ := Bx.dec B h
  subst hn
  intro H locs ls hP hS hl
  exact lv_if_eq B.1 rfl hd ht (fun q => absurd q (hc)) (fun _ => k H locs ls hP hS hl)
theorem z_icmp_eq_t {E : Ev} {own : String} {tb : Tb} {nL : Nat} {ret : Option FieldType} {pc nx : Nat} {lv : Lv} {st : List Value} {mm : Mem} {x y : Int32} {off : Int} (B : Bx E own tb nL ret) (i : Nat) (h : tb[i]? = some (pc, .if_icmp .eq off, 3, nx)) (tgt : Nat) (ht : (pc : Int) + off = (tgt : Int)) (hc : x = y) (k : G E nL tgt lv st mm) : G E nL pc lv (.int y :: .int x :: st) mm := by
  obtain ⟨p, l, e, R, s, m, args, below, meth, c, Q, C, kc, ks, A, res, mo⟩ := E
  obtain ⟨hd, hn⟩ := Bx.dec B h
  subst hn
  intro H locs ls hP hS hl
  exact lv_icmp_eq B.1 rfl hd ht (fun _ => k H locs ls hP hS hl) (fun q => absurd (hc) q)
theorem z_icmp_eq_f {E : Ev} {own : String} {tb : Tb} {nL : Nat} {ret : Option FieldType} {pc nx : Nat} {lv : Lv} {st : List Value} {mm : Mem} {x y : Int32} {off : Int} (B : Bx E own tb nL ret) (i : Nat) (h : tb[i]? = some (pc, .if_icmp .eq off, 3, nx)) (tgt : Nat) (ht : (pc : Int) + off = (tgt : Int)) (hc : ¬ x = y) (k : G E nL nx lv st mm) : G E nL pc lv (.int y :: .int x :: st) mm := by
  obtain ⟨p, l, e, R, s, m, args, below, meth, c, Q, C, kc, ks, A, res, mo⟩ := E
  obtain ⟨hd, hn⟩ := Bx.dec B h
  subst hn
  intro H locs ls hP hS hl
  exact lv_icmp_eq B.1 rfl hd ht (fun q => absurd q (hc)) (fun _ => k H locs ls hP hS hl)
theorem z_if_ne_t {E : Ev} {own : String} {tb : Tb} {nL : Nat} {ret : Option FieldType} {pc nx : Nat} {lv : Lv} {st : List Value} {mm : Mem} {x : Int32} {off : Int} (B : Bx E own tb nL ret) (i : Nat) (h : tb[i]? = some (pc, .ifCond .ne off, 3, nx)) (tgt : Nat) (ht : (pc : Int) + off = (tgt : Int)) (hc : ¬ x = 0) (k : G E nL tgt lv st mm) : G E nL pc lv (.int x :: st) mm := by
  obtain ⟨p, l, e, R, s, m, args, below, meth, c, Q, C, kc, ks, A, res, mo⟩ := E
  obtain ⟨hd, hn⟩ := Bx.dec B h
  subst hn
  intro H locs ls hP hS hl
  exact lv_if_ne B.1 rfl hd ht (fun _ => k H locs ls hP hS hl) (fun q => absurd q hc)
theorem z_if_ne_f {E : Ev} {own : String} {tb : Tb} {nL : Nat} {ret : Option FieldType} {pc nx : Nat} {lv : Lv} {st : List Value} {mm : Mem} {x : Int32} {off : Int} (B : Bx E own tb nL ret) (i : Nat) (h : tb[i]? = some (pc, .ifCond .ne off, 3, nx)) (tgt : Nat) (ht : (pc : Int) + off = (tgt : Int)) (hc : x = 0) (k : G E nL nx lv st mm) : G E nL pc lv (.int x :: st) mm := by
  obtain ⟨p, l, e, R, s, m, args, below, meth, c, Q, C, kc, ks, A, res, mo⟩ := E
  obtain ⟨hd, hn⟩ := Bx.dec B h
  subst hn
  intro H locs ls hP hS hl
  exact lv_if_ne B.1 rfl hd ht (fun q => absurd q (fun z => z hc)) (fun _ => k H locs ls hP hS hl)
theorem z_icmp_ne_t {E : Ev} {own : String} {tb : Tb} {nL : Nat} {ret : Option FieldType} {pc nx : Nat} {lv : Lv} {st : List Value} {mm : Mem} {x y : Int32} {off : Int} (B : Bx E own tb nL ret) (i : Nat) (h : tb[i]? = some (pc, .if_icmp .ne off, 3, nx)) (tgt : Nat) (ht : (pc : Int) + off = (tgt : Int)) (hc : ¬ x = y) (k : G E nL tgt lv st mm) : G E nL pc lv (.int y :: .int x :: st) mm := by
  obtain ⟨p, l, e, R, s, m, args, below, meth, c, Q, C, kc, ks, A, res, mo⟩ := E
  obtain ⟨hd, hn⟩ := Bx.dec B h
  subst hn
  intro H locs ls hP hS hl
  exact lv_icmp_ne B.1 rfl hd ht (fun _ => k H locs ls hP hS hl) (fun q => absurd q hc)
theorem z_icmp_ne_f {E : Ev} {own : String} {tb : Tb} {nL : Nat} {ret : Option FieldType} {pc nx : Nat} {lv : Lv} {st : List Value} {mm : Mem} {x y : Int32} {off : Int} (B : Bx E own tb nL ret) (i : Nat) (h : tb[i]? = some (pc, .if_icmp .ne off, 3, nx)) (tgt : Nat) (ht : (pc : Int) + off = (tgt : Int)) (hc : x = y) (k : G E nL nx lv st mm) : G E nL pc lv (.int y :: .int x :: st) mm := by
  obtain ⟨p, l, e, R, s, m, args, below, meth, c, Q, C, kc, ks, A, res, mo⟩ := E
  obtain ⟨hd, hn⟩ := Bx.dec B h
  subst hn
  intro H locs ls hP hS hl
  exact lv_icmp_ne B.1 rfl hd ht (fun q => absurd q (fun z => z hc)) (fun _ => k H locs ls hP hS hl)
theorem z_if_lt_t {E : Ev} {own : String} {tb : Tb} {nL : Nat} {ret : Option FieldType} {pc nx : Nat} {lv : Lv} {st : List Value} {mm : Mem} {x : Int32} {off : Int} (B : Bx E own tb nL ret) (i : Nat) (h : tb[i]? = some (pc, .ifCond .lt off, 3, nx)) (tgt : Nat) (ht : (pc : Int) + off = (tgt : Int)) (hc : x < 0) (k : G E nL tgt lv st mm) : G E nL pc lv (.int x :: st) mm := by
  obtain ⟨p, l, e, R, s, m, args, below, meth, c, Q, C, kc, ks, A, res, mo⟩ := E
  obtain ⟨hd, hn⟩ := Bx.dec B h
  subst hn
  intro H locs ls hP hS hl
  exact lv_if_lt B.1 rfl hd ht (fun _ => k H locs ls hP hS hl) (fun q => absurd (hc) q)
theorem z_if_lt_f {E : Ev} {own : String} {tb : Tb} {nL : Nat} {ret : Option FieldType} {pc nx : Nat} {lv : Lv} {st : List Value} {mm : Mem} {x : Int32} {off : Int} (B : Bx E own tb nL ret) (i : Nat) (h : tb[i]? = some (pc, .ifCond .lt off, 3, nx)) (tgt : Nat) (ht : (pc : Int) + off = (tgt : Int)) (hc : ¬ x < 0) (k : G E nL nx lv st mm) : G E nL pc lv (.int x :: st) mm := by
  obtain ⟨p, l, e, R, s, m, args, below, meth, c, Q, C, kc, ks, A, res, mo⟩ := E
  obtain ⟨hd, hn⟩ := Bx.dec B h
  subst hn
  intro H locs ls hP hS hl
  exact lv_if_lt B.1 rfl hd ht (fun q => absurd q (hc)) (fun _ => k H locs ls hP hS hl)
theorem z_icmp_lt_t {E : Ev} {own : String} {tb : Tb} {nL : Nat} {ret : Option FieldType} {pc nx : Nat} {lv : Lv} {st : List Value} {mm : Mem} {x y : Int32} {off : Int} (B : Bx E own tb nL ret) (i : Nat) (h : tb[i]? = some (pc, .if_icmp .lt off, 3, nx)) (tgt : Nat) (ht : (pc : Int) + off = (tgt : Int)) (hc : x < y) (k : G E nL tgt lv st mm) : G E nL pc lv (.int y :: .int x :: st) mm := by
  obtain ⟨p, l, e, R, s, m, args, below, meth, c, Q, C, kc, ks, A, res, mo⟩ := E
  obtain ⟨hd, hn⟩ := Bx.dec B h
  subst hn
  intro H locs ls hP hS hl
  exact lv_icmp_lt B.1 rfl hd ht (fun _ => k H locs ls hP hS hl) (fun q => absurd (hc) q)
theorem z_icmp_lt_f {E : Ev} {own : String} {tb : Tb} {nL : Nat} {ret : Option FieldType} {pc nx : Nat} {lv : Lv} {st : List Value} {mm : Mem} {x y : Int32} {off : Int} (B : Bx E own tb nL ret) (i : Nat) (h : tb[i]? = some (pc, .if_icmp .lt off, 3, nx)) (tgt : Nat) (ht : (pc : Int) + off = (tgt : Int)) (hc : ¬ x < y) (k : G E nL nx lv st mm) : G E nL pc lv (.int y :: .int x :: st) mm := by
  obtain ⟨p, l, e, R, s, m, args, below, meth, c, Q, C, kc, ks, A, res, mo⟩ := E
  obtain ⟨hd, hn⟩ := Bx.dec B h
  subst hn
  intro H locs ls hP hS hl
  exact lv_icmp_lt B.1 rfl hd ht (fun q => absurd q (hc)) (fun _ => k H locs ls hP hS hl)
theorem z_if_ge_t {E : Ev} {own : String} {tb : Tb} {nL : Nat} {ret : Option FieldType} {pc nx : Nat} {lv : Lv} {st : List Value} {mm : Mem} {x : Int32} {off : Int} (B : Bx E own tb nL ret) (i : Nat) (h : tb[i]? = some (pc, .ifCond .ge off, 3, nx)) (tgt : Nat) (ht : (pc : Int) + off = (tgt : Int)) (hc : ¬ x < 0) (k : G E nL tgt lv st mm) : G E nL pc lv (.int x :: st) mm := by
  obtain ⟨p, l, e, R, s, m, args, below, meth, c, Q, C, kc, ks, A, res, mo⟩ := E
  obtain ⟨hd, hn⟩ := Bx.dec B h
  subst hn
  intro H locs ls hP hS hl
  exact lv_if_ge B.1 rfl hd ht (fun _ => k H locs ls hP hS hl) (fun q => absurd (i32_nlt hc) q)
theorem z_if_ge_f {E : Ev} {own : String} {tb : Tb} {nL : Nat} {ret : Option FieldType} {pc nx : Nat} {lv : Lv} {st : List Value} {mm : Mem} {x : Int32} {off : Int} (B : Bx E own tb nL ret) (i : Nat) (h : tb[i]? = some (pc, .ifCond .ge off, 3, nx)) (tgt : Nat) (ht : (pc : Int) + off = (tgt : Int)) (hc : x < 0) (k : G E nL nx lv st mm) : G E nL pc lv (.int x :: st) mm := by
  obtain ⟨p, l, e, R, s, m, args, below, meth, c, Q, C, kc, ks, A, res, mo⟩ := E
  obtain ⟨hd, hn⟩ := Bx.dec B h
  subst hn
  intro H locs ls hP hS hl
  exact lv_if_ge B.1 rfl hd ht (fun q => absurd q (fun z => absurd hc (i32_nlt2 z))) (fun _ => k H locs ls hP hS hl)
theorem z_icmp_ge_t {E : Ev} {own : String} {tb : Tb} {nL : Nat} {ret : Option FieldType} {pc nx : Nat} {lv : Lv} {st : List Value} {mm : Mem} {x y : Int32} {off : Int} (B : Bx E own tb nL ret) (i : Nat) (h : tb[i]? = some (pc, .if_icmp .ge off, 3, nx)) (tgt : Nat) (ht : (pc : Int) + off = (tgt : Int)) (hc : ¬ x < y) (k : G E nL tgt lv st mm) : G E nL pc lv (.int y :: .int x :: st) mm := by
  obtain ⟨p, l, e, R, s, m, args, below, meth, c, Q, C, kc, ks, A, res, mo⟩ := E
  obtain ⟨hd, hn⟩ := Bx.dec B h
  subst hn
  intro H locs ls hP hS hl
  exact lv_icmp_ge B.1 rfl hd ht (fun _ => k H locs ls hP hS hl) (fun q => absurd (i32_nlt hc) q)
theorem z_icmp_ge_f {E : Ev} {own : String} {tb : Tb} {nL : Nat} {ret : Option FieldType} {pc nx : Nat} {lv : Lv} {st : List Value} {mm : Mem} {x y : Int32} {off : Int} (B : Bx E own tb nL ret) (i : Nat) (h : tb[i]? = some (pc, .if_icmp .ge off, 3, nx)) (tgt : Nat) (ht : (pc : Int) + off = (tgt : Int)) (hc : x < y) (k : G E nL nx lv st mm) : G E nL pc lv (.int y :: .int x :: st) mm := by
  obtain ⟨p, l, e, R, s, m, args, below, meth, c, Q, C, kc, ks, A, res, mo⟩ := E
  obtain ⟨hd, hn⟩ := Bx.dec B h
  subst hn
  intro H locs ls hP hS hl
  exact lv_icmp_ge B.1 rfl hd ht (fun q => absurd q (fun z => absurd hc (i32_nlt2 z))) (fun _ => k H locs ls hP hS hl)
theorem z_if_gt_t {E : Ev} {own : String} {tb : Tb} {nL : Nat} {ret : Option FieldType} {pc nx : Nat} {lv : Lv} {st : List Value} {mm : Mem} {x : Int32} {off : Int} (B : Bx E own tb nL ret) (i : Nat) (h : tb[i]? = some (pc, .ifCond .gt off, 3, nx)) (tgt : Nat) (ht : (pc : Int) + off = (tgt : Int)) (hc : 0 < x) (k : G E nL tgt lv st mm) : G E nL pc lv (.int x :: st) mm := by
  obtain ⟨p, l, e, R, s, m, args, below, meth, c, Q, C, kc, ks, A, res, mo⟩ := E
  obtain ⟨hd, hn⟩ := Bx.dec B h
  subst hn
  intro H locs ls hP hS hl
  exact lv_if_gt B.1 rfl hd ht (fun _ => k H locs ls hP hS hl) (fun q => absurd (hc) q)
theorem z_if_gt_f {E : Ev} {own : String} {tb : Tb} {nL : Nat} {ret : Option FieldType} {pc nx : Nat} {lv : Lv} {st : List Value} {mm : Mem} {x : Int32} {off : Int} (B : Bx E own tb nL ret) (i : Nat) (h : tb[i]? = some (pc, .ifCond .gt off, 3, nx)) (tgt : Nat) (ht : (pc : Int) + off = (tgt : Int)) (hc : ¬ 0 < x) (k : G E nL nx lv st mm) : G E nL pc lv (.int x :: st) mm := by
  obtain ⟨p, l, e, R, s, m, args, below, meth, c, Q, C, kc, ks, A, res, mo⟩ := E
  obtain ⟨hd, hn⟩ := Bx.dec B h
  subst hn
  intro H locs ls hP hS hl
  exact lv_if_gt B.1 rfl hd ht (fun q => absurd q (hc)) (fun _ => k H locs ls hP hS hl)
theorem z_icmp_gt_t {E : Ev} {own : String} {tb : Tb} {nL : Nat} {ret : Option FieldType} {pc nx : Nat} {lv : Lv} {st : List Value} {mm : Mem} {x y : Int32} {off : Int} (B : Bx E own tb nL ret) (i : Nat) (h : tb[i]? = some (pc, .if_icmp .gt off, 3, nx)) (tgt : Nat) (ht : (pc : Int) + off = (tgt : Int)) (hc : y < x) (k : G E nL tgt lv st mm) : G E nL pc lv (.int y :: .int x :: st) mm := by
  obtain ⟨p, l, e, R, s, m, args, below, meth, c, Q, C, kc, ks, A, res, mo⟩ := E
  obtain ⟨hd, hn⟩ := Bx.dec B h
  subst hn
  intro H locs ls hP hS hl
  exact lv_icmp_gt B.1 rfl hd ht (fun _ => k H locs ls hP hS hl) (fun q => absurd (hc) q)
theorem z_icmp_gt_f {E : Ev} {own : String} {tb : Tb} {nL : Nat} {ret : Option FieldType} {pc nx : Nat} {lv : Lv} {st : List Value} {mm : Mem} {x y : Int32} {off : Int} (B : Bx E own tb nL ret) (i : Nat) (h : tb[i]? = some (pc, .if_icmp .gt off, 3, nx)) (tgt : Nat) (ht : (pc : Int) + off = (tgt : Int)) (hc : ¬ y < x) (k : G E nL nx lv st mm) : G E nL pc lv (.int y :: .int x :: st) mm := by
  obtain ⟨p, l, e, R, s, m, args, below, meth, c, Q, C, kc, ks, A, res, mo⟩ := E
  obtain ⟨hd, hn⟩ := Bx.dec B h
  subst hn
  intro H locs ls hP hS hl
  exact lv_icmp_gt B.1 rfl hd ht (fun q => absurd q (hc)) (fun _ => k H locs ls hP hS hl)
theorem z_if_le_t {E : Ev} {own : String} {tb : Tb} {nL : Nat} {ret : Option FieldType} {pc nx : Nat} {lv : Lv} {st : List Value} {mm : Mem} {x : Int32} {off : Int} (B : Bx E own tb nL ret) (i : Nat) (h : tb[i]? = some (pc, .ifCond .le off, 3, nx)) (tgt : Nat) (ht : (pc : Int) + off = (tgt : Int)) (hc : ¬ 0 < x) (k : G E nL tgt lv st mm) : G E nL pc lv (.int x :: st) mm := by
  obtain ⟨p, l, e, R, s, m, args, below, meth, c, Q, C, kc, ks, A, res, mo⟩ := E
  obtain ⟨hd, hn⟩ := Bx.dec B h
  subst hn
  intro H locs ls hP hS hl
  exact lv_if_le B.1 rfl hd ht (fun _ => k H locs ls hP hS hl) (fun q => absurd (i32_nlt hc) q)
theorem z_if_le_f {E : Ev} {own : String} {tb : Tb} {nL : Nat} {ret : Option FieldType} {pc nx : Nat} {lv : Lv} {st : List Value} {mm : Mem} {x : Int32} {off : Int} (B : Bx E own tb nL ret) (i : Nat) (h : tb[i]? = some (pc, .ifCond .le off, 3, nx)) (tgt : Nat) (ht : (pc : Int) + off = (tgt : Int)) (hc : 0 < x) (k : G E nL nx lv st mm) : G E nL pc lv (.int x :: st) mm := by
  obtain ⟨p, l, e, R, s, m, args, below, meth, c, Q, C, kc, ks, A, res, mo⟩ := E
  obtain ⟨hd, hn⟩ := Bx.dec B h
  subst hn
  intro H locs ls hP hS hl
  exact lv_if_le B.1 rfl hd ht (fun q => absurd q (fun z => absurd hc (i32_nlt2 z))) (fun _ => k H locs ls hP hS hl)
theorem z_icmp_le_t {E : Ev} {own : String} {tb : Tb} {nL : Nat} {ret : Option FieldType} {pc nx : Nat} {lv : Lv} {st : List Value} {mm : Mem} {x y : Int32} {off : Int} (B : Bx E own tb nL ret) (i : Nat) (h : tb[i]? = some (pc, .if_icmp .le off, 3, nx)) (tgt : Nat) (ht : (pc : Int) + off = (tgt : Int)) (hc : ¬ y < x) (k : G E nL tgt lv st mm) : G E nL pc lv (.int y :: .int x :: st) mm := by
  obtain ⟨p, l, e, R, s, m, args, below, meth, c, Q, C, kc, ks, A, res, mo⟩ := E
  obtain ⟨hd, hn⟩ := Bx.dec B h
  subst hn
  intro H locs ls hP hS hl
  exact lv_icmp_le B.1 rfl hd ht (fun _ => k H locs ls hP hS hl) (fun q => absurd (i32_nlt hc) q)
theorem z_icmp_le_f {E : Ev} {own : String} {tb : Tb} {nL : Nat} {ret : Option FieldType} {pc nx : Nat} {lv : Lv} {st : List Value} {mm : Mem} {x y : Int32} {off : Int} (B : Bx E own tb nL ret) (i : Nat) (h : tb[i]? = some (pc, .if_icmp .le off, 3, nx)) (tgt : Nat) (ht : (pc : Int) + off = (tgt : Int)) (hc : y < x) (k : G E nL nx lv st mm) : G E nL pc lv (.int y :: .int x :: st) mm := by
  obtain ⟨p, l, e, R, s, m, args, below, meth, c, Q, C, kc, ks, A, res, mo⟩ := E
  obtain ⟨hd, hn⟩ := Bx.dec B h
  subst hn
  intro H locs ls hP hS hl
  exact lv_icmp_le B.1 rfl hd ht (fun q => absurd q (fun z => absurd hc (i32_nlt2 z))) (fun _ => k H locs ls hP hS hl)
theorem z_ifnonnull {E : Ev} {own : String} {tb : Tb} {nL : Nat} {ret : Option FieldType} {pc nx : Nat} {lv : Lv} {st : List Value} {mm : Mem} {x : Nat} {off : Int} (B : Bx E own tb nL ret) (i : Nat) (h : tb[i]? = some (pc, .ifnonnull off, 3, nx)) (tgt : Nat) (ht : (pc : Int) + off = (tgt : Int)) (k : G E nL tgt lv st mm) : G E nL pc lv (.ref x :: st) mm := by
  obtain ⟨p, l, e, R, s, m, args, below, meth, c, Q, C, kc, ks, A, res, mo⟩ := E
  obtain ⟨hd, hn⟩ := Bx.dec B h
  subst hn
  intro H locs ls hP hS hl
  exact lv_ifnonnull B.1 rfl hd ht (k H locs ls hP hS hl)
theorem z_ifnull {E : Ev} {own : String} {tb : Tb} {nL : Nat} {ret : Option FieldType} {pc nx : Nat} {lv : Lv} {st : List Value} {mm : Mem} {x : Nat} {off : Int} (B : Bx E own tb nL ret) (i : Nat) (h : tb[i]? = some (pc, .ifnull off, 3, nx)) (k : G E nL nx lv st mm) : G E nL pc lv (.ref x :: st) mm := by
  obtain ⟨p, l, e, R, s, m, args, below, meth, c, Q, C, kc, ks, A, res, mo⟩ := E
  obtain ⟨hd, hn⟩ := Bx.dec B h
  subst hn
  intro H locs ls hP hS hl
  exact lv_ifnull B.1 rfl hd (k H locs ls hP hS hl)
theorem z_tswi {E : Ev} {own : String} {tb : Tb} {nL : Nat} {ret : Option FieldType} {pc nx : Nat} {lv : Lv} {st : List Value} {mm : Mem} {dflt lo hi : Int} {offs : Array Int} {len : Nat} {x : Int32} (B : Bx E own tb nL ret) (i : Nat) (h : tb[i]? = some (pc, .tableswitch dflt lo hi offs, len, nx)) (n : Int) (off : Int) (tgt : Nat) (hx : x.toInt = n) (h1 : lo ≤ n ∧ n ≤ hi) (ho : offs[(n - lo).toNat]? = some off) (ht : (pc : Int) + off = (tgt : Int)) (k : G E nL tgt lv st mm) : G E nL pc lv (.int x :: st) mm := by
  obtain ⟨p, l, e, R, s, m, args, below, meth, c, Q, C, kc, ks, A, res, mo⟩ := E
  obtain ⟨hd, hn⟩ := Bx.dec B h
  subst hn
  intro H locs ls hP hS hl
  subst hx
  exact lv_tableIn B.1 rfl hd (by omega) (by omega) ho ht (k H locs ls hP hS hl)
theorem z_tswo {E : Ev} {own : String} {tb : Tb} {nL : Nat} {ret : Option FieldType} {pc nx : Nat} {lv : Lv} {st : List Value} {mm : Mem} {dflt lo hi : Int} {offs : Array Int} {len : Nat} {x : Int32} (B : Bx E own tb nL ret) (i : Nat) (h : tb[i]? = some (pc, .tableswitch dflt lo hi offs, len, nx)) (tgt : Nat) (hx : x.toInt < lo ∨ hi < x.toInt) (ht : (pc : Int) + dflt = (tgt : Int)) (k : G E nL tgt lv st mm) : G E nL pc lv (.int x :: st) mm := by
  obtain ⟨p, l, e, R, s, m, args, below, meth, c, Q, C, kc, ks, A, res, mo⟩ := E
  obtain ⟨hd, hn⟩ := Bx.dec B h
  subst hn
  intro H locs ls hP hS hl
  exact lv_tableOut B.1 rfl hd hx ht (k H locs ls hP hS hl)
theorem z_geti {E : Ev} {own : String} {tb : Tb} {nL : Nat} {ret : Option FieldType} {pc nx : Nat} {lv : Lv} {st : List Value} {mm : Mem} {n : Nat} (ci kf q : Nat) (B : Bx E own tb nL ret) (i : Nat) (h : tb[i]? = some (pc, .getfield n, 3, nx)) (hq : Ob q ci) (hr : rfk ci kf q = none) {rn nm d : String} (hw : Cond.fieldLink own n rn nm d ∈ TW) (hf : zfl ci kf = some (rn, nm, d)) (k : G E nL nx lv (.int (mm q kf) :: st) mm) : G E nL pc lv (.ref q :: st) mm := by
  obtain ⟨p, l, e, R, s, m, args, below, meth, c, Q, C, kc, ks, A, res, mo⟩ := E
  obtain ⟨hd, hn⟩ := Bx.dec B h
  subst hn
  intro H locs ls hP hS hl
  exact zgetf B hP hq hd hw hf (v := .int (mm q kf)) (by unfold fvv; rw [hr]) (k H locs ls hP hS hl)
theorem z_getr {E : Ev} {own : String} {tb : Tb} {nL : Nat} {ret : Option FieldType} {pc nx : Nat} {lv : Lv} {st : List Value} {mm : Mem} {n : Nat} (ci kf q : Nat) {q2 : Nat} (B : Bx E own tb nL ret) (i : Nat) (h : tb[i]? = some (pc, .getfield n, 3, nx)) (hq : Ob q ci) (hr : rfk ci kf q = some q2) {rn nm d : String} (hw : Cond.fieldLink own n rn nm d ∈ TW) (hf : zfl ci kf = some (rn, nm, d)) (k : G E nL nx lv (.ref q2 :: st) mm) : G E nL pc lv (.ref q :: st) mm := by
  obtain ⟨p, l, e, R, s, m, args, below, meth, c, Q, C, kc, ks, A, res, mo⟩ := E
  obtain ⟨hd, hn⟩ := Bx.dec B h
  subst hn
  intro H locs ls hP hS hl
  exact zgetf B hP hq hd hw hf (v := .ref (C.1 q2)) (by unfold fvv; rw [hr]) (k H locs ls hP hS hl)
theorem z_puti {E : Ev} {own : String} {tb : Tb} {nL : Nat} {ret : Option FieldType} {pc nx : Nat} {lv : Lv} {st : List Value} {mm : Mem} {n : Nat} (ci kf q : Nat) {v : Int32} (B : Bx E own tb nL ret) (i : Nat) (h : tb[i]? = some (pc, .putfield n, 3, nx)) (hq : Ob q ci) (hr : rfk ci kf q = none) {rn nm d : String} (hw : Cond.fieldLink own n rn nm d ∈ TW) (hf : zfl ci kf = some (rn, nm, d)) {ty : FieldType} (hd0 : parseFieldDescriptor d = some ty) (hfin : zfin ci kf = false) (hv : narrow ty (.int v) = .int v) (hfit : fits ty (.int v) = true) (k : G E nL nx lv st (up2 mm q kf v)) : G E nL pc lv (.int v :: .ref q :: st) mm := by
  obtain ⟨p, l, e, R, s, m, args, below, meth, c, Q, C, kc, ks, A, res, mo⟩ := E
  obtain ⟨hd, hn⟩ := Bx.dec B h
  subst hn
  intro H locs ls hP hS hl
  exact zputf B hP hS hq hr hd hw hf hd0 hfin hv hfit (fun H1 locs1 hP1 hS1 => k H1 locs1 ls hP1 hS1 hl)
theorem z_iald {E : Ev} {own : String} {tb : Tb} {nL : Nat} {ret : Option FieldType} {pc nx : Nat} {lv : Lv} {st : List Value} {mm : Mem} {q : Nat} {x : Int32} (B : Bx E own tb nL ret) (i : Nat) (h : tb[i]? = some (pc, .iaload, 1, nx)) (hq : Ob q 8) (hx : inb x (ln q) = true) (k : G E nL nx lv (.int (mm q x.toNatClampNeg) :: st) mm) : G E nL pc lv (.int x :: .ref q :: st) mm := by
  obtain ⟨p, l, e, R, s, m, args, below, meth, c, Q, C, kc, ks, A, res, mo⟩ := E
  obtain ⟨hd, hn⟩ := Bx.dec B h
  subst hn
  intro H locs ls hP hS hl
  exact va_iald B.1 rfl B.K hP q 0 (wl_arr hq) rfl (inb_in hx) hd (k H locs ls hP hS hl)
theorem z_zald {E : Ev} {own : String} {tb : Tb} {nL : Nat} {ret : Option FieldType} {pc nx : Nat} {lv : Lv} {st : List Value} {mm : Mem} {q : Nat} {x : Int32} (B : Bx E own tb nL ret) (i : Nat) (h : tb[i]? = some (pc, .baload, 1, nx)) (hq : Ob q 9) (hx : inb x (ln q) = true) (k : G E nL nx lv (.int (mm q x.toNatClampNeg) :: st) mm) : G E nL pc lv (.int x :: .ref q :: st) mm := by
  obtain ⟨p, l, e, R, s, m, args, below, meth, c, Q, C, kc, ks, A, res, mo⟩ := E
  obtain ⟨hd, hn⟩ := Bx.dec B h
  subst hn
  intro H locs ls hP hS hl
  exact va_zald B.1 rfl B.K hP q 1 (wl_arz hq) rfl (inb_in hx) hd (k H locs ls hP hS hl)
theorem z_lald {E : Ev} {own : String} {tb : Tb} {nL : Nat} {ret : Option FieldType} {pc nx : Nat} {lv : Lv} {st : List Value} {mm : Mem} {q : Nat} {x : Int32} (B : Bx E own tb nL ret) (i : Nat) (h : tb[i]? = some (pc, .laload, 1, nx)) (hq : Ob q 10) (hx : inb x (ln q) = true) (k : G E nL nx lv (.long (mm q x.toNatClampNeg).toInt64 :: st) mm) : G E nL pc lv (.int x :: .ref q :: st) mm := by
  obtain ⟨p, l, e, R, s, m, args, below, meth, c, Q, C, kc, ks, A, res, mo⟩ := E
  obtain ⟨hd, hn⟩ := Bx.dec B h
  subst hn
  intro H locs ls hP hS hl
  exact va_lald B.1 rfl B.K hP q 2 (wl_arl hq) rfl (inb_in hx) hd (k H locs ls hP hS hl)
theorem z_iast {E : Ev} {own : String} {tb : Tb} {nL : Nat} {ret : Option FieldType} {pc nx : Nat} {lv : Lv} {st : List Value} {mm : Mem} {q : Nat} {x v : Int32} (B : Bx E own tb nL ret) (i : Nat) (h : tb[i]? = some (pc, .iastore, 1, nx)) (hq : Ob q 8) (hx : inb x (ln q) = true) (k : G E nL nx lv st (up2 mm q x.toNatClampNeg v)) : G E nL pc lv (.int v :: .int x :: .ref q :: st) mm := by
  obtain ⟨p, l, e, R, s, m, args, below, meth, c, Q, C, kc, ks, A, res, mo⟩ := E
  obtain ⟨hd, hn⟩ := Bx.dec B h
  subst hn
  intro H locs ls hP hS hl
  exact va_iast B.1 rfl B.K hP (wl_D B mm) hS q 0 (wl_arr hq) rfl (inb_in hx) hd (fun H1 locs1 hP1 _ hS1 => k H1 locs1 ls (wl_setI hq _ _ ▸ hP1) hS1 hl)
theorem z_zast {E : Ev} {own : String} {tb : Tb} {nL : Nat} {ret : Option FieldType} {pc nx : Nat} {lv : Lv} {st : List Value} {mm : Mem} {q : Nat} {x v : Int32} (B : Bx E own tb nL ret) (i : Nat) (h : tb[i]? = some (pc, .bastore, 1, nx)) (hq : Ob q 9) (hx : inb x (ln q) = true) (hv : vp_nar .boolean v = v) (k : G E nL nx lv st (up2 mm q x.toNatClampNeg v)) : G E nL pc lv (.int v :: .int x :: .ref q :: st) mm := by
  obtain ⟨p, l, e, R, s, m, args, below, meth, c, Q, C, kc, ks, A, res, mo⟩ := E
  obtain ⟨hd, hn⟩ := Bx.dec B h
  subst hn
  intro H locs ls hP hS hl
  exact va_zast B.1 rfl B.K hP (wl_D B mm) hS q 1 (wl_arz hq) rfl (inb_in hx) hd (fun H1 locs1 hP1 _ hS1 => k H1 locs1 ls (wl_setZ hq _ _ ▸ hv ▸ hP1) hS1 hl)
theorem z_last {E : Ev} {own : String} {tb : Tb} {nL : Nat} {ret : Option FieldType} {pc nx : Nat} {lv : Lv} {st : List Value} {mm : Mem} {q : Nat} {x v : Int32} (B : Bx E own tb nL ret) (i : Nat) (h : tb[i]? = some (pc, .lastore, 1, nx)) (hq : Ob q 10) (hx : inb x (ln q) = true) (k : G E nL nx lv st (up2 mm q x.toNatClampNeg v)) : G E nL pc lv (.long v.toInt64 :: .int x :: .ref q :: st) mm := by
  obtain ⟨p, l, e, R, s, m, args, below, meth, c, Q, C, kc, ks, A, res, mo⟩ := E
  obtain ⟨hd, hn⟩ := Bx.dec B h
  subst hn
  intro H locs ls hP hS hl
  exact va_last B.1 rfl B.K hP (wl_D B mm) hS q 2 (wl_arl hq) rfl (inb_in hx) hd (fun H1 locs1 hP1 _ hS1 => k H1 locs1 ls (wl_setL hq _ _ ▸ hP1) hS1 hl)
theorem z_alen {E : Ev} {own : String} {tb : Tb} {nL : Nat} {ret : Option FieldType} {pc nx : Nat} {lv : Lv} {st : List Value} {mm : Mem} {q : Nat} (B : Bx E own tb nL ret) (i : Nat) (h : tb[i]? = some (pc, .arraylength, 1, nx)) (hq : Ob q 8) (k : G E nL nx lv (.int (nI (ln q)) :: st) mm) : G E nL pc lv (.ref q :: st) mm := by
  obtain ⟨p, l, e, R, s, m, args, below, meth, c, Q, C, kc, ks, A, res, mo⟩ := E
  obtain ⟨hd, hn⟩ := Bx.dec B h
  subst hn
  intro H locs ls hP hS hl
  exact va_alen B.1 rfl B.K hP q 0 (wl_arr hq) (ty := .int) rfl rfl hd (k H locs ls hP hS hl)
theorem z_top {E : Ev} {nL pc : Nat} {lv : Lv} {st : List Value} {mm : Mem} {x y : Int32} (e : x = y) (k : G E nL pc lv (.int x :: st) mm) : G E nL pc lv (.int y :: st) mm := e ▸ k
theorem z_topl {E : Ev} {nL pc : Nat} {lv : Lv} {st : List Value} {mm : Mem} {x y : Int64} (e : x = y) (k : G E nL pc lv (.long x :: st) mm) : G E nL pc lv (.long y :: st) mm := e ▸ k
theorem z_mem {E : Ev} {nL pc : Nat} {lv : Lv} {st : List Value} {mm mm' : Mem} (e : mm = mm') (k : G E nL pc lv st mm) : G E nL pc lv st mm' := e ▸ k
theorem z_sub {E : Ev} {nL pc : Nat} {lv : Lv} {st : List Value} {mm : Mem} (lv' : Lv) (js : List Nat) (hj : js.filterMap (fun j => lv[j]?) = lv') (k : G E nL pc lv' st mm) : G E nL pc lv st mm := by
  obtain ⟨p, l, e, R, s, m, args, below, meth, c, Q, C, kc, ks, A, res, mo⟩ := E
  intro H locs ls hP hS hl
  exact k H locs ls hP hS (lv_sub hl js (lvs hj))
theorem z_callS {E : Ev} {own : String} {tb : Tb} {nL : Nat} {ret : Option FieldType} {pc nx : Nat} {lv : Lv} {st : List Value} {mm : Mem} {l : Launch} {C : Cfg} {R : Room} {y : MethodName} {bytes : ByteArray} {maxL n fr lo idx : Nat} {rt : Option FieldType} {r : Option Value} {mm2 : Mem} (as rest st2 : List Value) (X : Ec E l C R) (B : Bx E own tb nL ret) (i : Nat) (h : tb[i]? = some (pc, .invokestatic idx, 3, nx)) (hM : MI y bytes maxL rt n) (hw : Cond.methodLink own idx y ∈ TW ∧ Cond.static y ∈ TW) (hc : Ct l C y bytes maxL rt fr lo as mm r mm2) (hR : fr + 1 ≤ R.frames ∧ 8 + (maxL + 11) + lo ≤ R.locals) (hn : as.length = n) (hst : st = as.reverse ++ rest) (hW : (rest.map fun v => v.category).sum ≤ 8) (h2 : st2 = r.toList ++ rest) (k : G E nL nx lv st2 mm2) : G E nL pc lv st mm := by
  obtain ⟨p, l', e, R', s, m, args, below, meth, c, Q, C', kc, ks, A, res, mo⟩ := E
  obtain ⟨rfl, rfl, rfl⟩ := X
  obtain ⟨hd, hnx⟩ := Bx.dec B h
  obtain ⟨rfl, rfl⟩ := hnx
  subst hst
  subst h2
  intro H locs ls hP hS hl
  have hrl : (rest.map (cvv C')).map (fun v => v.category) = rest.map (fun v => v.category) := by rw [List.map_map]; congr 1; funext v; exact cvv_cat C' v
  have hk : ∀ (H1 : Heap) (locs1 : List Loc), va_P C'.2.1 zcls (wl C' mm2) H1 → va_S A s.heap H1 locs1 → W p l' e R' s m args below meth c H1 locs1 kc ks Q (F0 m (pc + 3) ls ((r.map (cvv C')).toList ++ rest.map (cvv C'))) := by
    intro H1 locs1 hP1 hS1
    have := k H1 locs1 ls hP1 hS1 hl
    rw [List.map_append] at this
    cases r <;> exact this
  refine zcall B hS (va_runS (As := as.map (cvv C')) (rest := rest.map (cvv C')) ⟨B.1, rfl, B.ml, B.hown, B.tw⟩ hc ⟨callB_of n B.tw (tw_good hM.1) rfl rfl rfl (B.tw _ hM.2.2.2) (B.tw _ hw.1) hM.2.2.1 hR, B.tw _ hw.2⟩ ⟨Wd_blind, Wd_call B hP hS as⟩ rfl (by rw [List.length_map]; exact hn) hl.1 (by rw [List.map_append, List.map_reverse]) (lv_room (by rw [hrl]; exact hW)) hd B.rm) hk
theorem z_callN {E : Ev} {own : String} {tb : Tb} {nL : Nat} {ret : Option FieldType} {pc nx : Nat} {lv : Lv} {st : List Value} {mm : Mem} {l : Launch} {C : Cfg} {R : Room} {y : MethodName} {bytes : ByteArray} {maxL n fr lo idx : Nat} {rt : Option FieldType} {r : Option Value} {mm2 : Mem} {host : String} (as rest st2 : List Value) (X : Ec E l C R) (B : Bx E own tb nL ret) (i : Nat) (h : tb[i]? = some (pc, .invokestatic idx, 3, nx)) (hM : MI y bytes maxL rt n) (hw : (own, idx, y, host) ∈ zns ∧ Cond.static y ∈ TW) (hc : Ct l C y bytes maxL rt fr lo as mm r mm2) (hR : fr + 1 ≤ R.frames ∧ 8 + (maxL + 11) + lo ≤ R.locals) (hn : as.length = n) (hst : st = as.reverse ++ rest) (hW : (rest.map fun v => v.category).sum ≤ 8) (h2 : st2 = r.toList ++ rest) (k : G E nL nx lv st2 mm2) : G E nL pc lv st mm := by
  obtain ⟨p, l', e, R', s, m, args, below, meth, c, Q, C', kc, ks, A, res, mo⟩ := E
  obtain ⟨rfl, rfl, rfl⟩ := X
  obtain ⟨hd, hnx⟩ := Bx.dec B h
  obtain ⟨rfl, rfl⟩ := hnx
  subst hst
  subst h2
  intro H locs ls hP hS hl
  have hrl : (rest.map (cvv C')).map (fun v => v.category) = rest.map (fun v => v.category) := by rw [List.map_map]; congr 1; funext v; exact cvv_cat C' v
  have hk : ∀ (H1 : Heap) (locs1 : List Loc), va_P C'.2.1 zcls (wl C' mm2) H1 → va_S A s.heap H1 locs1 → W p l' e R' s m args below meth c H1 locs1 kc ks Q (F0 m (pc + 3) ls ((r.map (cvv C')).toList ++ rest.map (cvv C'))) := by
    intro H1 locs1 hP1 hS1
    have := k H1 locs1 ls hP1 hS1 hl
    rw [List.map_append] at this
    cases r <;> exact this
  refine zcall B hS (va_runSN (As := as.map (cvv C')) (rest := rest.map (cvv C')) ⟨B.1, rfl, B.ml, B.hown, B.tw⟩ hc ⟨va_cnB n B.tw (tw_good hM.1) rfl rfl rfl (B.sx.2.2.2.1 _ hw.1) (B.tw _ hM.2.2.2) hM.2.2.1 hR, B.tw _ hw.2, trivial⟩ ⟨Wd_blind, Wd_call B hP hS as⟩ rfl (by rw [List.length_map]; exact hn) hl.1 (by rw [List.map_append, List.map_reverse]) (lv_room (by rw [hrl]; exact hW)) hd B.rm) hk
theorem z_callV {E : Ev} {own : String} {tb : Tb} {nL : Nat} {ret : Option FieldType} {pc nx : Nat} {lv : Lv} {st : List Value} {mm : Mem} {l : Launch} {C : Cfg} {R : Room} {y : MethodName} {bytes : ByteArray} {maxL n fr lo idx : Nat} {rt : Option FieldType} {r : Option Value} {mm2 : Mem} {x : vw_C} (q ci : Nat) (as rest st2 : List Value) (X : Ec E l C R) (B : Bx E own tb nL ret) (i : Nat) (h : tb[i]? = some (pc, .invokevirtual idx, 3, nx)) (hq : Ob q ci) (hx : zcls[ci]? = some x) (hxc : x.1 = y.cls) (hM : MI y bytes maxL rt n) (hw : Cond.methodLink own idx y ∈ TW ∧ Cond.instanceMethod y ∈ TW ∧ Cond.selects y.cls y y ∈ TW) (hc : Ct l C y bytes maxL rt fr lo (.ref q :: as) mm r mm2) (hR : fr + 1 ≤ R.frames ∧ 8 + (maxL + 11) + lo ≤ R.locals) (hn : as.length = n) (hst : st = as.reverse ++ .ref q :: rest) (hW : (rest.map fun v => v.category).sum ≤ 8) (h2 : st2 = r.toList ++ rest) (k : G E nL nx lv st2 mm2) : G E nL pc lv st mm := by
  obtain ⟨p, l', e, R', s, m, args, below, meth, c, Q, C', kc, ks, A, res, mo⟩ := E
  obtain ⟨rfl, rfl, rfl⟩ := X
  obtain ⟨hd, hnx⟩ := Bx.dec B h
  obtain ⟨rfl, rfl⟩ := hnx
  subst hst
  subst h2
  intro H locs ls hP hS hl
  have hrl : (rest.map (cvv C')).map (fun v => v.category) = rest.map (fun v => v.category) := by rw [List.map_map]; congr 1; funext v; exact cvv_cat C' v
  have hk : ∀ (H1 : Heap) (locs1 : List Loc), va_P C'.2.1 zcls (wl C' mm2) H1 → va_S A s.heap H1 locs1 → W p l' e R' s m args below meth c H1 locs1 kc ks Q (F0 m (pc + 3) ls ((r.map (cvv C')).toList ++ rest.map (cvv C'))) := by
    intro H1 locs1 hP1 hS1
    have := k H1 locs1 ls hP1 hS1 hl
    rw [List.map_append] at this
    cases r <;> exact this
  have hrec : ∃ cell : Cell, H[C'.1 q]? = some cell ∧ cell.vm.isStatics = false ∧ s.vm.findClass y.cls = some cell.cls := by
    rw [← hxc]
    exact va_recv B.K hP hx (by rw [wl_get hq.1, cel_obj hq.2 (zcls_lt hx)])
  refine zcall B hS (va_runV (C := y.cls) (b := C'.1 q) (As := as.map (cvv C')) (rest := rest.map (cvv C')) ⟨B.1, rfl, B.ml, B.hown, B.tw⟩ hc ⟨callB_of n B.tw (tw_good hM.1) rfl rfl rfl (B.tw _ hM.2.2.2) (B.tw _ hw.1) hM.2.2.1 hR, B.tw _ hw.2.1, B.tw _ hw.2.2⟩ ⟨Wd_blind, hrec, Wd_call B hP hS (.ref q :: as)⟩ rfl (by rw [List.length_map]; exact hn) hl.1 (by rw [List.map_append, List.map_reverse]; rfl) (lv_room (by rw [hrl]; exact hW)) hd B.rm) hk
theorem z_mmax {E : Ev} {own : String} {tb : Tb} {nL : Nat} {ret : Option FieldType} {pc nx : Nat} {lv : Lv} {st : List Value} {mm : Mem} {l : Launch} {C : Cfg} {R : Room} {x y : Int32} {idx : Nat} (X : Ec E l C R) (B : Bx E own tb nL ret) (i : Nat) (h : tb[i]? = some (pc, .invokestatic idx, 3, nx)) (hw : Cond.methodLink own idx Lib.Math.max.name ∈ TW ∧ Cond.static Lib.Math.max.name ∈ TW ∧ Cond.initialized "java/lang/Math" ∈ TW ∧ Cond.code Lib.Math.max.name Lib.Math.max.code 2 (some .int) ∈ TW) (hR : 1 ≤ R.frames ∧ 21 ≤ R.locals) (hW : (st.map fun v => v.category).sum ≤ 8) (k : G E nL nx lv (.int (if x < y then y else x) :: st) mm) : G E nL pc lv (.int y :: .int x :: st) mm := by
  obtain ⟨p, l', e, R', s, m, args, below, meth, c, Q, C', kc, ks, A, res, mo⟩ := E
  obtain ⟨rfl, rfl, rfl⟩ := X
  obtain ⟨hd, hnx⟩ := Bx.dec B h
  obtain ⟨rfl, rfl⟩ := hnx
  intro H locs ls hP hS hl
  have hrl : (st.map (cvv C')).map (fun v => v.category) = st.map (fun v => v.category) := by rw [List.map_map]; congr 1; funext v; exact cvv_cat C' v
  exact va_mmax B.1 rfl (by rw [B.ml]; exact hl.1.symm) B.hown (B.tw _ hw.1) (B.tw _ hw.2.1) (B.tw _ hw.2.2.1) (B.tw _ hw.2.2.2) hR.1 (by rw [hrl]; omega) B.rm.1 B.rm.2 hd (k H locs ls hP hS hl)
theorem z_mmin {E : Ev} {own : String} {tb : Tb} {nL : Nat} {ret : Option FieldType} {pc nx : Nat} {lv : Lv} {st : List Value} {mm : Mem} {l : Launch} {C : Cfg} {R : Room} {x y : Int32} {idx : Nat} (X : Ec E l C R) (B : Bx E own tb nL ret) (i : Nat) (h : tb[i]? = some (pc, .invokestatic idx, 3, nx)) (hw : Cond.methodLink own idx Lib.Math.min.name ∈ TW ∧ Cond.static Lib.Math.min.name ∈ TW ∧ Cond.initialized "java/lang/Math" ∈ TW ∧ Cond.code Lib.Math.min.name Lib.Math.min.code 2 (some .int) ∈ TW) (hR : 1 ≤ R.frames ∧ 21 ≤ R.locals) (hW : (st.map fun v => v.category).sum ≤ 8) (k : G E nL nx lv (.int (if y < x then y else x) :: st) mm) : G E nL pc lv (.int y :: .int x :: st) mm := by
  obtain ⟨p, l', e, R', s, m, args, below, meth, c, Q, C', kc, ks, A, res, mo⟩ := E
  obtain ⟨rfl, rfl, rfl⟩ := X
  obtain ⟨hd, hnx⟩ := Bx.dec B h
  obtain ⟨rfl, rfl⟩ := hnx
  intro H locs ls hP hS hl
  have hrl : (st.map (cvv C')).map (fun v => v.category) = st.map (fun v => v.category) := by rw [List.map_map]; congr 1; funext v; exact cvv_cat C' v
  exact va_mmin B.1 rfl (by rw [B.ml]; exact hl.1.symm) B.hown (B.tw _ hw.1) (B.tw _ hw.2.1) (B.tw _ hw.2.2.1) (B.tw _ hw.2.2.2) hR.1 (by rw [hrl]; omega) B.rm.1 B.rm.2 hd (k H locs ls hP hS hl)
end
section
def nm {α β : Type} (a : α) (k : α → Option β) : Option β := k a
theorem nm_x {α β : Type} {a : α} {k : α → Option β} {y : β} (h : nm a k = some y) : ∃ x, x = a ∧ k x = some y := ⟨a, rfl, h⟩
def bd {α β : Type} (a : Option α) (k : α → Option β) : Option β := match a with
  | some x => k x
  | none => none
theorem bd_e {α β : Type} {a : Option α} {k : α → Option β} {y : β} (h : bd a k = some y) : ∃ x, a = some x ∧ k x = some y := by
  cases a with
  | none => cases h
  | some x => exact ⟨x, rfl, h⟩
def rdc {β : Type} (q : Nat) (i : Int32) (k : Option β) : Option β := if inb i (ln q) = true then k else none
theorem rdc_e {β : Type} {q : Nat} {i : Int32} {k : Option β} {y : β} (h : rdc q i k = some y) : inb i (ln q) = true ∧ k = some y := by
  unfold rdc at h
  by_cases hc : inb i (ln q) = true
  · exact ⟨hc, (if_pos hc).symm.trans h⟩
  · rw [if_neg hc] at h; cases h
def dvz {β : Type} (y : Int32) (k : Option β) : Option β := if y = 0 then none else k
theorem dvz_e {β : Type} {y : Int32} {k : Option β} {z : β} (h : dvz y k = some z) : ¬ y = 0 ∧ k = some z := by
  unfold dvz at h
  by_cases hc : y = 0
  · rw [if_pos hc] at h; cases h
  · exact ⟨hc, (if_neg hc).symm.trans h⟩
def bok {β : Type} (v : Int32) (k : Option β) : Option β := if v = 0 ∨ v = 1 then k else none
theorem bok_e {β : Type} {v : Int32} {k : Option β} {z : β} (h : bok v k = some z) : (v = 0 ∨ v = 1) ∧ k = some z := by
  unfold bok at h
  by_cases hc : v = 0 ∨ v = 1
  · exact ⟨hc, (if_pos hc).symm.trans h⟩
  · rw [if_neg hc] at h; cases h
theorem bok_n {v : Int32} (h : v = 0 ∨ v = 1) : narrow .boolean (.int v) = .int v := by
  rcases h with rfl | rfl <;> decide
def mni (x y : Int32) : Int32 := if y < x then y else x
def mxi (x y : Int32) : Int32 := if x < y then y else x
def FU : Nat := 20000
def So (a : Nat) : Prop := ∃ k, k < 9 ∧ a = 1000 + k
theorem so_mk (k : Nat) (h : k < 9) : So (1000 + k) := ⟨k, h, rfl⟩
def slen (a : Nat) : Nat := ztl.getD (a - 1000) 0
def sch (a : Nat) (i : Int32) : Int32 := (ztb.getD (a - 1000) []).getD i.toNatClampNeg 0
def rds {β : Type} (q : Nat) (i : Int32) (k : Option β) : Option β := if inb i (slen q) = true then k else none
theorem rds_e {β : Type} {q : Nat} {i : Int32} {k : Option β} {y : β} (h : rds q i k = some y) : inb i (slen q) = true ∧ k = some y := by
  unfold rds at h
  by_cases hc : inb i (slen q) = true
  · exact ⟨hc, (if_pos hc).symm.trans h⟩
  · rw [if_neg hc] at h; cases h
theorem tsw_ne {x : Int32} {n : Int} {k : Int32} (h : ¬ x = k) (hk : k.toInt = n) : x.toInt ≠ n := fun e => h (Int32.toInt_inj.mp (e.trans hk.symm))
theorem tsw_out4 {x : Int32} (h0 : ¬ x = 0) (h1 : ¬ x = 1) (h2 : ¬ x = 2) (h3 : ¬ x = 3) : x.toInt < 0 ∨ 3 < x.toInt := by
  have g0 := tsw_ne (n := 0) h0 (by decide)
  have g1 := tsw_ne (n := 1) h1 (by decide)
  have g2 := tsw_ne (n := 2) h2 (by decide)
  have g3 := tsw_ne (n := 3) h3 (by decide)
  omega
theorem tsw_out5 {x : Int32} (h0 : ¬ x = 0) (h1 : ¬ x = 1) (h2 : ¬ x = 2) (h3 : ¬ x = 3) (h4 : ¬ x = 4) : x.toInt < 0 ∨ 4 < x.toInt := by
  have g0 := tsw_ne (n := 0) h0 (by decide)
  have g1 := tsw_ne (n := 1) h1 (by decide)
  have g2 := tsw_ne (n := 2) h2 (by decide)
  have g3 := tsw_ne (n := 3) h3 (by decide)
  have g4 := tsw_ne (n := 4) h4 (by decide)
  omega
theorem tsw_out6 {x : Int32} (h0 : ¬ x = 0) (h1 : ¬ x = 1) (h2 : ¬ x = 2) (h3 : ¬ x = 3) (h4 : ¬ x = 4) (h5 : ¬ x = 5) : x.toInt < 0 ∨ 5 < x.toInt := by
  have g0 := tsw_ne (n := 0) h0 (by decide)
  have g1 := tsw_ne (n := 1) h1 (by decide)
  have g2 := tsw_ne (n := 2) h2 (by decide)
  have g3 := tsw_ne (n := 3) h3 (by decide)
  have g4 := tsw_ne (n := 4) h4 (by decide)
  have g5 := tsw_ne (n := 5) h5 (by decide)
  omega
theorem tsw_out7 {x : Int32} (h0 : ¬ x = 0) (h1 : ¬ x = 1) (h2 : ¬ x = 2) (h3 : ¬ x = 3) (h4 : ¬ x = 4) (h5 : ¬ x = 5) (h6 : ¬ x = 6) : x.toInt < 0 ∨ 6 < x.toInt := by
  have g0 := tsw_ne (n := 0) h0 (by decide)
  have g1 := tsw_ne (n := 1) h1 (by decide)
  have g2 := tsw_ne (n := 2) h2 (by decide)
  have g3 := tsw_ne (n := 3) h3 (by decide)
  have g4 := tsw_ne (n := 4) h4 (by decide)
  have g5 := tsw_ne (n := 5) h5 (by decide)
  have g6 := tsw_ne (n := 6) h6 (by decide)
  omega
theorem tsw_out35 {x : Int32} (h0 : ¬ x = 0) (h1 : ¬ x = 1) (h2 : ¬ x = 2) (h3 : ¬ x = 3) (h4 : ¬ x = 4) (h5 : ¬ x = 5) (h6 : ¬ x = 6) (h7 : ¬ x = 7) (h8 : ¬ x = 8) (h9 : ¬ x = 9) (h10 : ¬ x = 10) (h11 : ¬ x = 11) (h12 : ¬ x = 12) (h13 : ¬ x = 13) (h14 : ¬ x = 14) (h15 : ¬ x = 15) (h16 : ¬ x = 16) (h17 : ¬ x = 17) (h18 : ¬ x = 18) (h19 : ¬ x = 19) (h20 : ¬ x = 20) (h21 : ¬ x = 21) (h22 : ¬ x = 22) (h23 : ¬ x = 23) (h24 : ¬ x = 24) (h25 : ¬ x = 25) (h26 : ¬ x = 26) (h27 : ¬ x = 27) (h28 : ¬ x = 28) (h29 : ¬ x = 29) (h30 : ¬ x = 30) (h31 : ¬ x = 31) (h32 : ¬ x = 32) (h33 : ¬ x = 33) (h34 : ¬ x = 34) : x.toInt < 0 ∨ 34 < x.toInt := by
  have g0 := tsw_ne (n := 0) h0 (by decide)
  have g1 := tsw_ne (n := 1) h1 (by decide)
  have g2 := tsw_ne (n := 2) h2 (by decide)
  have g3 := tsw_ne (n := 3) h3 (by decide)
  have g4 := tsw_ne (n := 4) h4 (by decide)
  have g5 := tsw_ne (n := 5) h5 (by decide)
  have g6 := tsw_ne (n := 6) h6 (by decide)
  have g7 := tsw_ne (n := 7) h7 (by decide)
  have g8 := tsw_ne (n := 8) h8 (by decide)
  have g9 := tsw_ne (n := 9) h9 (by decide)
  have g10 := tsw_ne (n := 10) h10 (by decide)
  have g11 := tsw_ne (n := 11) h11 (by decide)
  have g12 := tsw_ne (n := 12) h12 (by decide)
  have g13 := tsw_ne (n := 13) h13 (by decide)
  have g14 := tsw_ne (n := 14) h14 (by decide)
  have g15 := tsw_ne (n := 15) h15 (by decide)
  have g16 := tsw_ne (n := 16) h16 (by decide)
  have g17 := tsw_ne (n := 17) h17 (by decide)
  have g18 := tsw_ne (n := 18) h18 (by decide)
  have g19 := tsw_ne (n := 19) h19 (by decide)
  have g20 := tsw_ne (n := 20) h20 (by decide)
  have g21 := tsw_ne (n := 21) h21 (by decide)
  have g22 := tsw_ne (n := 22) h22 (by decide)
  have g23 := tsw_ne (n := 23) h23 (by decide)
  have g24 := tsw_ne (n := 24) h24 (by decide)
  have g25 := tsw_ne (n := 25) h25 (by decide)
  have g26 := tsw_ne (n := 26) h26 (by decide)
  have g27 := tsw_ne (n := 27) h27 (by decide)
  have g28 := tsw_ne (n := 28) h28 (by decide)
  have g29 := tsw_ne (n := 29) h29 (by decide)
  have g30 := tsw_ne (n := 30) h30 (by decide)
  have g31 := tsw_ne (n := 31) h31 (by decide)
  have g32 := tsw_ne (n := 32) h32 (by decide)
  have g33 := tsw_ne (n := 33) h33 (by decide)
  have g34 := tsw_ne (n := 34) h34 (by decide)
  omega
theorem obx_0_0 : ∀ c, c < NC → kd c = 0 → (c + 1 < NC ∧ kd (c + 1) = 1) := by decide +kernel
theorem obf_0_0 {c : Nat} (h : Ob c 0) : Ob (c + 1) 1 := obx_0_0 c h.1 h.2
theorem obx_0_1 : ∀ c, c < NC → kd c = 0 → (c + 20 < NC ∧ kd (c + 20) = 8) := by decide +kernel
theorem obf_0_1 {c : Nat} (h : Ob c 0) : Ob (c + 20) 8 := obx_0_1 c h.1 h.2
theorem obx_0_2 : ∀ c, c < NC → kd c = 0 → (c + 21 < NC ∧ kd (c + 21) = 8) := by decide +kernel
theorem obf_0_2 {c : Nat} (h : Ob c 0) : Ob (c + 21) 8 := obx_0_2 c h.1 h.2
theorem obx_0_3 : ∀ c, c < NC → kd c = 0 → (c + 22 < NC ∧ kd (c + 22) = 8) := by decide +kernel
theorem obf_0_3 {c : Nat} (h : Ob c 0) : Ob (c + 22) 8 := obx_0_3 c h.1 h.2
theorem obx_0_4 : ∀ c, c < NC → kd c = 0 → (c + 23 < NC ∧ kd (c + 23) = 8) := by decide +kernel
theorem obf_0_4 {c : Nat} (h : Ob c 0) : Ob (c + 23) 8 := obx_0_4 c h.1 h.2
theorem obx_0_5 : ∀ c, c < NC → kd c = 0 → (c + 24 < NC ∧ kd (c + 24) = 8) := by decide +kernel
theorem obf_0_5 {c : Nat} (h : Ob c 0) : Ob (c + 24) 8 := obx_0_5 c h.1 h.2
theorem obx_0_6 : ∀ c, c < NC → kd c = 0 → (c + 25 < NC ∧ kd (c + 25) = 8) := by decide +kernel
theorem obf_0_6 {c : Nat} (h : Ob c 0) : Ob (c + 25) 8 := obx_0_6 c h.1 h.2
theorem obx_0_7 : ∀ c, c < NC → kd c = 0 → (c + 26 < NC ∧ kd (c + 26) = 8) := by decide +kernel
theorem obf_0_7 {c : Nat} (h : Ob c 0) : Ob (c + 26) 8 := obx_0_7 c h.1 h.2
theorem obx_0_8 : ∀ c, c < NC → kd c = 0 → (c + 27 < NC ∧ kd (c + 27) = 8) := by decide +kernel
theorem obf_0_8 {c : Nat} (h : Ob c 0) : Ob (c + 27) 8 := obx_0_8 c h.1 h.2
theorem obx_0_9 : ∀ c, c < NC → kd c = 0 → (c + 28 < NC ∧ kd (c + 28) = 8) := by decide +kernel
theorem obf_0_9 {c : Nat} (h : Ob c 0) : Ob (c + 28) 8 := obx_0_9 c h.1 h.2
theorem obx_1_0 : ∀ c, c < NC → kd c = 1 → (c + 1 < NC ∧ kd (c + 1) = 5) := by decide +kernel
theorem obf_1_0 {c : Nat} (h : Ob c 1) : Ob (c + 1) 5 := obx_1_0 c h.1 h.2
theorem obx_1_1 : ∀ c, c < NC → kd c = 1 → (c + 8 < NC ∧ kd (c + 8) = 2) := by decide +kernel
theorem obf_1_1 {c : Nat} (h : Ob c 1) : Ob (c + 8) 2 := obx_1_1 c h.1 h.2
theorem obx_2_2 : ∀ c, c < NC → kd c = 2 → (c + 1 < NC ∧ kd (c + 1) = 8) := by decide +kernel
theorem obf_2_2 {c : Nat} (h : Ob c 2) : Ob (c + 1) 8 := obx_2_2 c h.1 h.2
theorem obx_2_3 : ∀ c, c < NC → kd c = 2 → (c + 2 < NC ∧ kd (c + 2) = 8) := by decide +kernel
theorem obf_2_3 {c : Nat} (h : Ob c 2) : Ob (c + 2) 8 := obx_2_3 c h.1 h.2
theorem obx_2_4 : ∀ c, c < NC → kd c = 2 → (c + 3 < NC ∧ kd (c + 3) = 8) := by decide +kernel
theorem obf_2_4 {c : Nat} (h : Ob c 2) : Ob (c + 3) 8 := obx_2_4 c h.1 h.2
theorem obx_2_5 : ∀ c, c < NC → kd c = 2 → (c + 4 < NC ∧ kd (c + 4) = 8) := by decide +kernel
theorem obf_2_5 {c : Nat} (h : Ob c 2) : Ob (c + 4) 8 := obx_2_5 c h.1 h.2
theorem obx_2_6 : ∀ c, c < NC → kd c = 2 → (c + 5 < NC ∧ kd (c + 5) = 8) := by decide +kernel
theorem obf_2_6 {c : Nat} (h : Ob c 2) : Ob (c + 5) 8 := obx_2_6 c h.1 h.2
theorem obx_2_7 : ∀ c, c < NC → kd c = 2 → (c + 6 < NC ∧ kd (c + 6) = 8) := by decide +kernel
theorem obf_2_7 {c : Nat} (h : Ob c 2) : Ob (c + 6) 8 := obx_2_7 c h.1 h.2
theorem obx_2_8 : ∀ c, c < NC → kd c = 2 → (c + 7 < NC ∧ kd (c + 7) = 8) := by decide +kernel
theorem obf_2_8 {c : Nat} (h : Ob c 2) : Ob (c + 7) 8 := obx_2_8 c h.1 h.2
theorem obx_2_9 : ∀ c, c < NC → kd c = 2 → (c + 8 < NC ∧ kd (c + 8) = 8) := by decide +kernel
theorem obf_2_9 {c : Nat} (h : Ob c 2) : Ob (c + 8) 8 := obx_2_9 c h.1 h.2
theorem obx_2_10 : ∀ c, c < NC → kd c = 2 → (c + 9 < NC ∧ kd (c + 9) = 8) := by decide +kernel
theorem obf_2_10 {c : Nat} (h : Ob c 2) : Ob (c + 9) 8 := obx_2_10 c h.1 h.2
theorem obx_2_11 : ∀ c, c < NC → kd c = 2 → (c + 10 < NC ∧ kd (c + 10) = 8) := by decide +kernel
theorem obf_2_11 {c : Nat} (h : Ob c 2) : Ob (c + 10) 8 := obx_2_11 c h.1 h.2
theorem obx_5_1 : ∀ c, c < NC → kd c = 5 → (c + 1 < NC ∧ kd (c + 1) = 8) := by decide +kernel
theorem obf_5_1 {c : Nat} (h : Ob c 5) : Ob (c + 1) 8 := obx_5_1 c h.1 h.2
theorem obx_5_2 : ∀ c, c < NC → kd c = 5 → (c + 2 < NC ∧ kd (c + 2) = 8) := by decide +kernel
theorem obf_5_2 {c : Nat} (h : Ob c 5) : Ob (c + 2) 8 := obx_5_2 c h.1 h.2
theorem obx_5_3 : ∀ c, c < NC → kd c = 5 → (c + 3 < NC ∧ kd (c + 3) = 8) := by decide +kernel
theorem obf_5_3 {c : Nat} (h : Ob c 5) : Ob (c + 3) 8 := obx_5_3 c h.1 h.2
theorem obx_5_4 : ∀ c, c < NC → kd c = 5 → (c + 4 < NC ∧ kd (c + 4) = 8) := by decide +kernel
theorem obf_5_4 {c : Nat} (h : Ob c 5) : Ob (c + 4) 8 := obx_5_4 c h.1 h.2
theorem obx_5_5 : ∀ c, c < NC → kd c = 5 → (c + 5 < NC ∧ kd (c + 5) = 8) := by decide +kernel
theorem obf_5_5 {c : Nat} (h : Ob c 5) : Ob (c + 5) 8 := obx_5_5 c h.1 h.2
theorem obx_5_6 : ∀ c, c < NC → kd c = 5 → (c + 6 < NC ∧ kd (c + 6) = 8) := by decide +kernel
theorem obf_5_6 {c : Nat} (h : Ob c 5) : Ob (c + 6) 8 := obx_5_6 c h.1 h.2
theorem ob_0 : Ob 0 7 := ⟨by decide, rfl⟩
theorem ob_1 : Ob 1 8 := ⟨by decide, rfl⟩
theorem ob_2 : Ob 2 8 := ⟨by decide, rfl⟩
theorem ob_3 : Ob 3 9 := ⟨by decide, rfl⟩
theorem ob_4 : Ob 4 8 := ⟨by decide, rfl⟩
theorem ob_5 : Ob 5 8 := ⟨by decide, rfl⟩
theorem ob_6 : Ob 6 8 := ⟨by decide, rfl⟩
theorem ob_7 : Ob 7 8 := ⟨by decide, rfl⟩
theorem ob_8 : Ob 8 8 := ⟨by decide, rfl⟩
theorem ob_9 : Ob 9 8 := ⟨by decide, rfl⟩
theorem ob_10 : Ob 10 8 := ⟨by decide, rfl⟩
theorem ob_11 : Ob 11 8 := ⟨by decide, rfl⟩
theorem ob_12 : Ob 12 8 := ⟨by decide, rfl⟩
theorem ob_13 : Ob 13 8 := ⟨by decide, rfl⟩
theorem ob_14 : Ob 14 6 := ⟨by decide, rfl⟩
theorem ob_15 : Ob 15 0 := ⟨by decide, rfl⟩
theorem ob_16 : Ob 16 1 := ⟨by decide, rfl⟩
theorem ob_17 : Ob 17 5 := ⟨by decide, rfl⟩
theorem ob_18 : Ob 18 8 := ⟨by decide, rfl⟩
theorem ob_19 : Ob 19 8 := ⟨by decide, rfl⟩
theorem ob_20 : Ob 20 8 := ⟨by decide, rfl⟩
theorem ob_21 : Ob 21 8 := ⟨by decide, rfl⟩
theorem ob_22 : Ob 22 8 := ⟨by decide, rfl⟩
theorem ob_23 : Ob 23 8 := ⟨by decide, rfl⟩
theorem ob_24 : Ob 24 2 := ⟨by decide, rfl⟩
theorem ob_25 : Ob 25 8 := ⟨by decide, rfl⟩
theorem ob_26 : Ob 26 8 := ⟨by decide, rfl⟩
theorem ob_27 : Ob 27 8 := ⟨by decide, rfl⟩
theorem ob_28 : Ob 28 8 := ⟨by decide, rfl⟩
theorem ob_29 : Ob 29 8 := ⟨by decide, rfl⟩
theorem ob_30 : Ob 30 8 := ⟨by decide, rfl⟩
theorem ob_31 : Ob 31 8 := ⟨by decide, rfl⟩
theorem ob_32 : Ob 32 8 := ⟨by decide, rfl⟩
theorem ob_33 : Ob 33 8 := ⟨by decide, rfl⟩
theorem ob_34 : Ob 34 8 := ⟨by decide, rfl⟩
theorem ob_35 : Ob 35 8 := ⟨by decide, rfl⟩
theorem ob_36 : Ob 36 8 := ⟨by decide, rfl⟩
theorem ob_37 : Ob 37 8 := ⟨by decide, rfl⟩
theorem ob_38 : Ob 38 8 := ⟨by decide, rfl⟩
theorem ob_39 : Ob 39 8 := ⟨by decide, rfl⟩
theorem ob_40 : Ob 40 8 := ⟨by decide, rfl⟩
theorem ob_41 : Ob 41 8 := ⟨by decide, rfl⟩
theorem ob_42 : Ob 42 8 := ⟨by decide, rfl⟩
theorem ob_43 : Ob 43 8 := ⟨by decide, rfl⟩
theorem ob_44 : Ob 44 0 := ⟨by decide, rfl⟩
theorem ob_45 : Ob 45 1 := ⟨by decide, rfl⟩
theorem ob_46 : Ob 46 5 := ⟨by decide, rfl⟩
theorem ob_47 : Ob 47 8 := ⟨by decide, rfl⟩
theorem ob_48 : Ob 48 8 := ⟨by decide, rfl⟩
theorem ob_49 : Ob 49 8 := ⟨by decide, rfl⟩
theorem ob_50 : Ob 50 8 := ⟨by decide, rfl⟩
theorem ob_51 : Ob 51 8 := ⟨by decide, rfl⟩
theorem ob_52 : Ob 52 8 := ⟨by decide, rfl⟩
theorem ob_53 : Ob 53 2 := ⟨by decide, rfl⟩
theorem ob_54 : Ob 54 8 := ⟨by decide, rfl⟩
theorem ob_55 : Ob 55 8 := ⟨by decide, rfl⟩
theorem ob_56 : Ob 56 8 := ⟨by decide, rfl⟩
theorem ob_57 : Ob 57 8 := ⟨by decide, rfl⟩
theorem ob_58 : Ob 58 8 := ⟨by decide, rfl⟩
theorem ob_59 : Ob 59 8 := ⟨by decide, rfl⟩
theorem ob_60 : Ob 60 8 := ⟨by decide, rfl⟩
theorem ob_61 : Ob 61 8 := ⟨by decide, rfl⟩
theorem ob_62 : Ob 62 8 := ⟨by decide, rfl⟩
theorem ob_63 : Ob 63 8 := ⟨by decide, rfl⟩
theorem ob_64 : Ob 64 8 := ⟨by decide, rfl⟩
theorem ob_65 : Ob 65 8 := ⟨by decide, rfl⟩
theorem ob_66 : Ob 66 8 := ⟨by decide, rfl⟩
theorem ob_67 : Ob 67 8 := ⟨by decide, rfl⟩
theorem ob_68 : Ob 68 8 := ⟨by decide, rfl⟩
theorem ob_69 : Ob 69 8 := ⟨by decide, rfl⟩
theorem ob_70 : Ob 70 8 := ⟨by decide, rfl⟩
theorem ob_71 : Ob 71 8 := ⟨by decide, rfl⟩
theorem ob_72 : Ob 72 8 := ⟨by decide, rfl⟩
theorem ob_73 : Ob 73 4 := ⟨by decide, rfl⟩
theorem ob_74 : Ob 74 3 := ⟨by decide, rfl⟩
theorem ob_75 : Ob 75 8 := ⟨by decide, rfl⟩
theorem ob_76 : Ob 76 1 := ⟨by decide, rfl⟩
theorem ob_77 : Ob 77 5 := ⟨by decide, rfl⟩
theorem ob_78 : Ob 78 8 := ⟨by decide, rfl⟩
theorem ob_79 : Ob 79 8 := ⟨by decide, rfl⟩
theorem ob_80 : Ob 80 8 := ⟨by decide, rfl⟩
theorem ob_81 : Ob 81 8 := ⟨by decide, rfl⟩
theorem ob_82 : Ob 82 8 := ⟨by decide, rfl⟩
theorem ob_83 : Ob 83 8 := ⟨by decide, rfl⟩
theorem ob_84 : Ob 84 2 := ⟨by decide, rfl⟩
theorem ob_85 : Ob 85 8 := ⟨by decide, rfl⟩
theorem ob_86 : Ob 86 8 := ⟨by decide, rfl⟩
theorem ob_87 : Ob 87 8 := ⟨by decide, rfl⟩
theorem ob_88 : Ob 88 8 := ⟨by decide, rfl⟩
theorem ob_89 : Ob 89 8 := ⟨by decide, rfl⟩
theorem ob_90 : Ob 90 8 := ⟨by decide, rfl⟩
theorem ob_91 : Ob 91 8 := ⟨by decide, rfl⟩
theorem ob_92 : Ob 92 8 := ⟨by decide, rfl⟩
theorem ob_93 : Ob 93 8 := ⟨by decide, rfl⟩
theorem ob_94 : Ob 94 8 := ⟨by decide, rfl⟩
theorem ob_95 : Ob 95 1 := ⟨by decide, rfl⟩
theorem ob_96 : Ob 96 5 := ⟨by decide, rfl⟩
theorem ob_97 : Ob 97 8 := ⟨by decide, rfl⟩
theorem ob_98 : Ob 98 8 := ⟨by decide, rfl⟩
theorem ob_99 : Ob 99 8 := ⟨by decide, rfl⟩
theorem ob_100 : Ob 100 8 := ⟨by decide, rfl⟩
theorem ob_101 : Ob 101 8 := ⟨by decide, rfl⟩
theorem ob_102 : Ob 102 8 := ⟨by decide, rfl⟩
theorem ob_103 : Ob 103 2 := ⟨by decide, rfl⟩
theorem ob_104 : Ob 104 8 := ⟨by decide, rfl⟩
theorem ob_105 : Ob 105 8 := ⟨by decide, rfl⟩
theorem ob_106 : Ob 106 8 := ⟨by decide, rfl⟩
theorem ob_107 : Ob 107 8 := ⟨by decide, rfl⟩
theorem ob_108 : Ob 108 8 := ⟨by decide, rfl⟩
theorem ob_109 : Ob 109 8 := ⟨by decide, rfl⟩
theorem ob_110 : Ob 110 8 := ⟨by decide, rfl⟩
theorem ob_111 : Ob 111 8 := ⟨by decide, rfl⟩
theorem ob_112 : Ob 112 8 := ⟨by decide, rfl⟩
theorem ob_113 : Ob 113 8 := ⟨by decide, rfl⟩
theorem ob_114 : Ob 114 1 := ⟨by decide, rfl⟩
theorem ob_115 : Ob 115 5 := ⟨by decide, rfl⟩
theorem ob_116 : Ob 116 8 := ⟨by decide, rfl⟩
theorem ob_117 : Ob 117 8 := ⟨by decide, rfl⟩
theorem ob_118 : Ob 118 8 := ⟨by decide, rfl⟩
theorem ob_119 : Ob 119 8 := ⟨by decide, rfl⟩
theorem ob_120 : Ob 120 8 := ⟨by decide, rfl⟩
theorem ob_121 : Ob 121 8 := ⟨by decide, rfl⟩
theorem ob_122 : Ob 122 2 := ⟨by decide, rfl⟩
theorem ob_123 : Ob 123 8 := ⟨by decide, rfl⟩
theorem ob_124 : Ob 124 8 := ⟨by decide, rfl⟩
theorem ob_125 : Ob 125 8 := ⟨by decide, rfl⟩
theorem ob_126 : Ob 126 8 := ⟨by decide, rfl⟩
theorem ob_127 : Ob 127 8 := ⟨by decide, rfl⟩
theorem ob_128 : Ob 128 8 := ⟨by decide, rfl⟩
theorem ob_129 : Ob 129 8 := ⟨by decide, rfl⟩
theorem ob_130 : Ob 130 8 := ⟨by decide, rfl⟩
theorem ob_131 : Ob 131 8 := ⟨by decide, rfl⟩
theorem ob_132 : Ob 132 8 := ⟨by decide, rfl⟩
theorem ob_133 : Ob 133 10 := ⟨by decide, rfl⟩
end
section
theorem z_i2c {E : Ev} {own : String} {tb : Tb} {nL : Nat} {ret : Option FieldType} {pc nx : Nat} {lv : Lv} {st : List Value} {mm : Mem} {x : Int32} (B : Bx E own tb nL ret) (i : Nat) (h : tb[i]? = some (pc, .i2c, 1, nx)) (k : G E nL nx lv (.int ((x.toUInt32 % 65536).toInt32) :: st) mm) : G E nL pc lv (.int x :: st) mm := by
  obtain ⟨p, l, e, R, s, m, args, below, meth, c, Q, C, kc, ks, A, res, mo⟩ := E
  obtain ⟨hd, hn⟩ := Bx.dec B h
  subst hn
  intro H locs ls hP hS hl
  exact lv_i2c B.1 rfl hd rfl (k H locs ls hP hS hl)
theorem z_gscs {E : Ev} {own : String} {tb : Tb} {nL : Nat} {ret : Option FieldType} {pc nx : Nat} {lv : Lv} {st : List Value} {mm : Mem} {n : Nat} (B : Bx E own tb nL ret) (i : Nat) (h : tb[i]? = some (pc, .getstatic n, 3, nx)) (hw : Cond.fieldLink own n "java/lang/String" "COMPACT_STRINGS" "Z" ∈ TW) (k : G E nL nx lv (.int 1 :: st) mm) : G E nL pc lv st mm := by
  obtain ⟨p, l, e, R, s, m, args, below, meth, c, Q, C, kc, ks, A, res, mo⟩ := E
  obtain ⟨hd, hn⟩ := Bx.dec B h
  subst hn
  intro H locs ls hP hS hl
  exact va_gets (A := A) B.1 rfl B.sx.2.2.1 hS B.hown (B.tw _ hw) (fun _ h => h) hd (k H locs ls hP hS hl)
theorem z_gssf {E : Ev} {own : String} {tb : Tb} {nL : Nat} {ret : Option FieldType} {pc nx : Nat} {lv : Lv} {st : List Value} {mm : Mem} {n : Nat} (B : Bx E own tb nL ret) (i : Nat) (h : tb[i]? = some (pc, .getstatic n, 3, nx)) (hw : Cond.fieldLink own n "jdk/internal/util/Preconditions" "SIOOBE_FORMATTER" "Ljava/util/function/BiFunction;" ∈ TW) (k : ∀ v : Value, v = .null ∨ v = .ref 3000 → G E nL nx lv (v :: st) mm) : G E nL pc lv st mm := by
  obtain ⟨p, l, e, R, s, m, args, below, meth, c, Q, C, kc, ks, A, res, mo⟩ := E
  obtain ⟨hd, hn⟩ := Bx.dec B h
  subst hn
  intro H locs ls hP hS hl
  rcases B.sx.2.2.2.2.1 with hz | hz
  · exact va_gets (A := A) B.1 rfl hz hS B.hown (B.tw _ hw) (fun _ h => h) hd (k .null (Or.inl rfl) H locs ls hP hS hl)
  · exact va_gets (A := A) B.1 rfl hz hS B.hown (B.tw _ hw) (fun _ h => h) hd (k (.ref 3000) (Or.inr rfl) H locs ls hP hS hl)
theorem z_scod {E : Ev} {own : String} {tb : Tb} {nL : Nat} {ret : Option FieldType} {pc nx : Nat} {lv : Lv} {st : List Value} {mm : Mem} {n : Nat} (q : Nat) (hq : q < 9) (B : Bx E own tb nL ret) (i : Nat) (h : tb[i]? = some (pc, .getfield n, 3, nx)) (hw : Cond.fieldLink own n "java/lang/String" "coder" "B" ∈ TW) (k : G E nL nx lv (.int 0 :: st) mm) : G E nL pc lv (.ref (1000 + q) :: st) mm := by
  obtain ⟨p, l, e, R, s, m, args, below, meth, c, Q, C, kc, ks, A, res, mo⟩ := E
  obtain ⟨hd, hn⟩ := Bx.dec B h
  subst hn
  intro H locs ls hP hS hl
  exact vk_getf (A := A) B.1 rfl (B.sx.1.1 q hq).2.1 hS B.hown (B.tw _ hw) (fun _ h => h) hd (k H locs ls hP hS hl)
theorem z_sval {E : Ev} {own : String} {tb : Tb} {nL : Nat} {ret : Option FieldType} {pc nx : Nat} {lv : Lv} {st : List Value} {mm : Mem} {n : Nat} (q : Nat) (hq : q < 9) (B : Bx E own tb nL ret) (i : Nat) (h : tb[i]? = some (pc, .getfield n, 3, nx)) (hw : Cond.fieldLink own n "java/lang/String" "value" "[B" ∈ TW) (k : G E nL nx lv (.ref (2000 + q) :: st) mm) : G E nL pc lv (.ref (1000 + q) :: st) mm := by
  obtain ⟨p, l, e, R, s, m, args, below, meth, c, Q, C, kc, ks, A, res, mo⟩ := E
  obtain ⟨hd, hn⟩ := Bx.dec B h
  subst hn
  intro H locs ls hP hS hl
  exact vk_getf (A := A) B.1 rfl (B.sx.1.1 q hq).2.2.1 hS B.hown (B.tw _ hw) (fun _ h => h) hd (k H locs ls hP hS hl)
theorem z_stln {E : Ev} {own : String} {tb : Tb} {nL : Nat} {ret : Option FieldType} {pc nx : Nat} {lv : Lv} {st : List Value} {mm : Mem} (q : Nat) (hq : q < 9) (B : Bx E own tb nL ret) (i : Nat) (h : tb[i]? = some (pc, .arraylength, 1, nx)) (k : G E nL nx lv (.int (nI (ztl.getD q 0)) :: st) mm) : G E nL pc lv (.ref (2000 + q) :: st) mm := by
  obtain ⟨p, l, e, R, s, m, args, below, meth, c, Q, C, kc, ks, A, res, mo⟩ := E
  obtain ⟨hd, hn⟩ := Bx.dec B h
  subst hn
  intro H locs ls hP hS hl
  exact va_tlen (A := A) B.1 rfl (B.sx.1.1 q hq).2.2.2 hS rfl hd (k H locs ls hP hS hl)
theorem z_stba {E : Ev} {own : String} {tb : Tb} {nL : Nat} {ret : Option FieldType} {pc nx : Nat} {lv : Lv} {st : List Value} {mm : Mem} {x : Int32} (q : Nat) (hq : q < 9) (B : Bx E own tb nL ret) (i : Nat) (h : tb[i]? = some (pc, .baload, 1, nx)) (hx : inb x (ztl.getD q 0) = true) (k : G E nL nx lv (.int ((ztb.getD q []).getD x.toNatClampNeg 0) :: st) mm) : G E nL pc lv (.int x :: .ref (2000 + q) :: st) mm := by
  obtain ⟨p, l, e, R, s, m, args, below, meth, c, Q, C, kc, ks, A, res, mo⟩ := E
  obtain ⟨hd, hn⟩ := Bx.dec B h
  subst hn
  intro H locs ls hP hS hl
  exact va_tb (A := A) B.1 rfl (B.sx.1.1 q hq).2.2.2 hS (inb_in hx) rfl hd (k H locs ls hP hS hl)
theorem z_callVs {E : Ev} {own : String} {tb : Tb} {nL : Nat} {ret : Option FieldType} {pc nx : Nat} {lv : Lv} {st : List Value} {mm : Mem} {l : Launch} {C : Cfg} {R : Room} {y : MethodName} {bytes : ByteArray} {maxL n fr lo idx : Nat} {rt : Option FieldType} {r : Option Value} {mm2 : Mem} (q : Nat) (hq : q < 9) (as rest st2 : List Value) (X : Ec E l C R) (B : Bx E own tb nL ret) (i : Nat) (h : tb[i]? = some (pc, .invokevirtual idx, 3, nx)) (hyc : y.cls = "java/lang/String") (hM : MI y bytes maxL rt n) (hw : Cond.methodLink own idx y ∈ TW ∧ Cond.instanceMethod y ∈ TW ∧ Cond.selects y.cls y y ∈ TW) (hc : Ct l C y bytes maxL rt fr lo (.ref (1000 + q) :: as) mm r mm2) (hR : fr + 1 ≤ R.frames ∧ 8 + (maxL + 11) + lo ≤ R.locals) (hn : as.length = n) (hst : st = as.reverse ++ .ref (1000 + q) :: rest) (hW : (rest.map fun v => v.category).sum ≤ 8) (h2 : st2 = r.toList ++ rest) (k : G E nL nx lv st2 mm2) : G E nL pc lv st mm := by
  obtain ⟨p, l', e, R', s, m, args, below, meth, c, Q, C', kc, ks, A, res, mo⟩ := E
  obtain ⟨rfl, rfl, rfl⟩ := X
  obtain ⟨hd, hnx⟩ := Bx.dec B h
  obtain ⟨rfl, rfl⟩ := hnx
  subst hst
  subst h2
  intro H locs ls hP hS hl
  have hrl : (rest.map (cvv C')).map (fun v => v.category) = rest.map (fun v => v.category) := by rw [List.map_map]; congr 1; funext v; exact cvv_cat C' v
  have hk : ∀ (H1 : Heap) (locs1 : List Loc), va_P C'.2.1 zcls (wl C' mm2) H1 → va_S A s.heap H1 locs1 → W p l' e R' s m args below meth c H1 locs1 kc ks Q (F0 m (pc + 3) ls ((r.map (cvv C')).toList ++ rest.map (cvv C'))) := by
    intro H1 locs1 hP1 hS1
    have := k H1 locs1 ls hP1 hS1 hl
    rw [List.map_append] at this
    cases r <;> exact this
  have hrec : ∃ cell : Cell, H[C'.1 (1000 + q)]? = some cell ∧ cell.vm.isStatics = false ∧ s.vm.findClass y.cls = some cell.cls := by
    rw [hyc]
    exact vk_recv (A := A) (i := q) (adK := fun i => C'.1 (1000 + i)) B.sx.1 hq hS
  refine zcall B hS (va_runV (C := y.cls) (b := C'.1 (1000 + q)) (As := as.map (cvv C')) (rest := rest.map (cvv C')) ⟨B.1, rfl, B.ml, B.hown, B.tw⟩ hc ⟨callB_of n B.tw (tw_good hM.1) rfl rfl rfl (B.tw _ hM.2.2.2) (B.tw _ hw.1) hM.2.2.1 hR, B.tw _ hw.2.1, B.tw _ hw.2.2⟩ ⟨Wd_blind, hrec, Wd_call B hP hS (.ref (1000 + q) :: as)⟩ rfl (by rw [List.length_map]; exact hn) hl.1 (by rw [List.map_append, List.map_reverse]; rfl) (lv_room (by rw [hrl]; exact hW)) hd B.rm) hk
def RJ0 : String := "java/lang/String"
def RJ1 : String := "java/lang/StringLatin1"
def RJ3 : String := "jdk/internal/util/Preconditions"
abbrev cJ0_coder_7d493 : ByteArray := prog_16_method_152_code
def yJ0_coder_7d493 : MethodName := ⟨RJ0, "coder", "()B"⟩
def tbJ0_coder_7d493 : Tb := [(0, .getstatic 38, 3, 3), (3, .ifCond .eq 10, 3, 6), (6, .aload_n 0, 1, 7), (7, .getfield 15, 3, 10), (10, .goto 4, 3, 13), (13, .iconst 1, 1, 14), (14, .ireturn, 1, 15)]
theorem dtJ0_coder_7d493 : ∀ q ∈ tbJ0_coder_7d493, decode cJ0_coder_7d493 q.1 = .ok (q.2.1, q.2.2.1) ∧ q.1 + q.2.2.1 = q.2.2.2 := by decide +kernel
theorem miJ0_coder_7d493 : MI yJ0_coder_7d493 cJ0_coder_7d493 1 (some .byte) 0 := ⟨tw_mem (List.mem_of_getElem? (i := 414) (by decide +kernel)) rfl, by decide, by decide +kernel, tw_mem (List.mem_of_getElem? (i := 79) (by decide +kernel)) rfl⟩
abbrev rmJ0_coder_7d493 : Room := { frames := 0, cells := 0, slots := 0, locals := 0 }
def wJ0_coder_7d493 : List Cond := [.fieldLink "java/lang/String" 38 "java/lang/String" "COMPACT_STRINGS" "Z", .fieldLink "java/lang/String" 15 "java/lang/String" "coder" "B"]
theorem iJ0_coder_7d493 : ∀ w ∈ wJ0_coder_7d493, w ∈ TW := tw_of (ids := [415, 1368]) (by decide +kernel)
theorem ctJ0_coder_7d493 {l : Launch} {C : Cfg} (hj : Dj C) {mm : Mem} {q : Nat} (hq : q < 9) : Ct l C yJ0_coder_7d493 cJ0_coder_7d493 1 (some .byte) 0 0 [.ref (1000 + q)] mm (some (.int 0)) mm := by
  refine Ct.of (tb := tbJ0_coder_7d493) hj miJ0_coder_7d493.2.1 miJ0_coder_7d493.1 dtJ0_coder_7d493 (Nat.le_of_ble_eq_true rfl) ?_
  intro E B hQ hr X
  show G E 1 0 [(0, .ref (1000 + q))] [] mm
  refine z_gscs B 0 rfl (iJ0_coder_7d493 _ (List.mem_of_getElem? (i := 0) rfl)) ?_
  refine z_if_eq_f B 1 rfl 13 (by decide) (by decide) ?_
  refine z_aload_n B 2 rfl 0 0 rfl rfl ?_
  refine z_scod q hq B 3 rfl (iJ0_coder_7d493 _ (List.mem_of_getElem? (i := 1) rfl)) ?_
  refine z_goto B 4 rfl 14 (by decide) ?_
  exact z_iret B 6 rfl rfl hQ hr
abbrev cJ0_length_8abf5 : ByteArray := prog_16_method_54_code
def yJ0_length_8abf5 : MethodName := ⟨RJ0, "length", "()I"⟩
def tbJ0_length_8abf5 : Tb := [(0, .aload_n 0, 1, 1), (1, .getfield 9, 3, 4), (4, .arraylength, 1, 5), (5, .aload_n 0, 1, 6), (6, .invokevirtual 335, 3, 9), (9, .ishr, 1, 10), (10, .ireturn, 1, 11)]
theorem dtJ0_length_8abf5 : ∀ q ∈ tbJ0_length_8abf5, decode cJ0_length_8abf5 q.1 = .ok (q.2.1, q.2.2.1) ∧ q.1 + q.2.2.1 = q.2.2.2 := by decide +kernel
theorem miJ0_length_8abf5 : MI yJ0_length_8abf5 cJ0_length_8abf5 1 (some .int) 0 := ⟨tw_mem (List.mem_of_getElem? (i := 410) (by decide +kernel)) rfl, by decide, by decide +kernel, tw_mem (List.mem_of_getElem? (i := 79) (by decide +kernel)) rfl⟩
abbrev rmJ0_length_8abf5 : Room := { frames := 1, cells := 0, slots := 0, locals := 20 }
def wJ0_length_8abf5 : List Cond := [.fieldLink "java/lang/String" 9 "java/lang/String" "value" "[B", .methodLink "java/lang/String" 335 yJ0_coder_7d493, .instanceMethod yJ0_coder_7d493, .selects "java/lang/String" yJ0_coder_7d493 yJ0_coder_7d493]
theorem iJ0_length_8abf5 : ∀ w ∈ wJ0_length_8abf5, w ∈ TW := tw_of (ids := [1367, 411, 412, 413]) (by decide +kernel)
theorem ctJ0_length_8abf5 {l : Launch} {C : Cfg} (hj : Dj C) {mm : Mem} {q : Nat} (hq : q < 9) : Ct l C yJ0_length_8abf5 cJ0_length_8abf5 1 (some .int) 1 20 [.ref (1000 + q)] mm (some (.int (nI (ztl.getD q 0)))) mm := by
  refine Ct.of (tb := tbJ0_length_8abf5) hj miJ0_length_8abf5.2.1 miJ0_length_8abf5.1 dtJ0_length_8abf5 (Nat.le_of_ble_eq_true rfl) ?_
  intro E B hQ hr X
  show G E 1 0 [(0, .ref (1000 + q))] [] mm
  refine z_aload_n B 0 rfl 0 0 rfl rfl ?_
  refine z_sval q hq B 1 rfl (iJ0_length_8abf5 _ (List.mem_of_getElem? (i := 0) rfl)) ?_
  refine z_stln q hq B 2 rfl ?_
  refine z_aload_n B 3 rfl 0 0 rfl rfl ?_
  refine z_callVs q hq [] [.int (nI (ztl.getD q 0))] [.int 0, .int (nI (ztl.getD q 0))] X B 4 rfl rfl miJ0_coder_7d493 ⟨(iJ0_length_8abf5 _ (List.mem_of_getElem? (i := 1) rfl)), (iJ0_length_8abf5 _ (List.mem_of_getElem? (i := 2) rfl)), (iJ0_length_8abf5 _ (List.mem_of_getElem? (i := 3) rfl))⟩ (ctJ0_coder_7d493 hj hq) ⟨Nat.le_of_ble_eq_true rfl, Nat.le_of_ble_eq_true rfl⟩ rfl rfl (Nat.le_of_ble_eq_true rfl) rfl ?_
  refine z_ishr B 5 rfl ?_
  refine z_top (x := nI (ztl.getD q 0)) ?_ ?_
  · rw [show ((0 : Int32) &&& 31) = 0 from by decide]
    exact Int32.shiftRight_zero.symm
  · exact z_iret B 6 rfl rfl hQ hr
abbrev cJ0_isLatin1_aae02 : ByteArray := prog_16_method_154_code
def yJ0_isLatin1_aae02 : MethodName := ⟨RJ0, "isLatin1", "()Z"⟩
def tbJ0_isLatin1_aae02 : Tb := [(0, .getstatic 38, 3, 3), (3, .ifCond .eq 14, 3, 6), (6, .aload_n 0, 1, 7), (7, .getfield 15, 3, 10), (10, .ifCond .ne 7, 3, 13), (13, .iconst 1, 1, 14), (14, .goto 4, 3, 17), (17, .iconst 0, 1, 18), (18, .ireturn, 1, 19)]
theorem dtJ0_isLatin1_aae02 : ∀ q ∈ tbJ0_isLatin1_aae02, decode cJ0_isLatin1_aae02 q.1 = .ok (q.2.1, q.2.2.1) ∧ q.1 + q.2.2.1 = q.2.2.2 := by decide +kernel
theorem miJ0_isLatin1_aae02 : MI yJ0_isLatin1_aae02 cJ0_isLatin1_aae02 1 (some .boolean) 0 := ⟨tw_mem (List.mem_of_getElem? (i := 424) (by decide +kernel)) rfl, by decide, by decide +kernel, tw_mem (List.mem_of_getElem? (i := 79) (by decide +kernel)) rfl⟩
abbrev rmJ0_isLatin1_aae02 : Room := { frames := 0, cells := 0, slots := 0, locals := 0 }
def wJ0_isLatin1_aae02 : List Cond := [.fieldLink "java/lang/String" 38 "java/lang/String" "COMPACT_STRINGS" "Z", .fieldLink "java/lang/String" 15 "java/lang/String" "coder" "B"]
theorem iJ0_isLatin1_aae02 : ∀ w ∈ wJ0_isLatin1_aae02, w ∈ TW := tw_of (ids := [415, 1368]) (by decide +kernel)
theorem ctJ0_isLatin1_aae02 {l : Launch} {C : Cfg} (hj : Dj C) {mm : Mem} {q : Nat} (hq : q < 9) : Ct l C yJ0_isLatin1_aae02 cJ0_isLatin1_aae02 1 (some .boolean) 0 0 [.ref (1000 + q)] mm (some (.int 1)) mm := by
  refine Ct.of (tb := tbJ0_isLatin1_aae02) hj miJ0_isLatin1_aae02.2.1 miJ0_isLatin1_aae02.1 dtJ0_isLatin1_aae02 (Nat.le_of_ble_eq_true rfl) ?_
  intro E B hQ hr X
  show G E 1 0 [(0, .ref (1000 + q))] [] mm
  refine z_gscs B 0 rfl (iJ0_isLatin1_aae02 _ (List.mem_of_getElem? (i := 0) rfl)) ?_
  refine z_if_eq_f B 1 rfl 17 (by decide) (by decide) ?_
  refine z_aload_n B 2 rfl 0 0 rfl rfl ?_
  refine z_scod q hq B 3 rfl (iJ0_isLatin1_aae02 _ (List.mem_of_getElem? (i := 1) rfl)) ?_
  refine z_if_ne_f B 4 rfl 17 (by decide) rfl ?_
  refine z_iconst 1 B 5 rfl (by decide) ?_
  refine z_goto B 6 rfl 18 (by decide) ?_
  exact z_iret B 8 rfl (by decide) hQ hr
abbrev cJ3_checkIndex_8e157 : ByteArray := prog_23_method_11_code
def yJ3_checkIndex_8e157 : MethodName := ⟨RJ3, "checkIndex", "(IILjava/util/function/BiFunction;)I"⟩
def tbJ3_checkIndex_8e157 : Tb := [(0, .iload_n 0, 1, 1), (1, .ifCond .lt 8, 3, 4), (4, .iload_n 0, 1, 5), (5, .iload_n 1, 1, 6), (6, .if_icmp .lt 10, 3, 9), (9, .aload_n 2, 1, 10), (10, .iload_n 0, 1, 11), (11, .iload_n 1, 1, 12), (12, .invokestatic 95, 3, 15), (15, .athrow, 1, 16), (16, .iload_n 0, 1, 17), (17, .ireturn, 1, 18)]
theorem dtJ3_checkIndex_8e157 : ∀ q ∈ tbJ3_checkIndex_8e157, decode cJ3_checkIndex_8e157 q.1 = .ok (q.2.1, q.2.2.1) ∧ q.1 + q.2.2.1 = q.2.2.2 := by decide +kernel
theorem miJ3_checkIndex_8e157 : MI yJ3_checkIndex_8e157 cJ3_checkIndex_8e157 3 (some .int) 3 := ⟨tw_mem (List.mem_of_getElem? (i := 435) (by decide +kernel)) rfl, by decide, by decide +kernel, tw_mem (List.mem_of_getElem? (i := 81) (by decide +kernel)) rfl⟩
abbrev rmJ3_checkIndex_8e157 : Room := { frames := 0, cells := 0, slots := 0, locals := 0 }
theorem ctJ3_checkIndex_8e157 {l : Launch} {C : Cfg} (hj : Dj C) {mm : Mem} {x n : Int32} {v : Value} (hv : v = .null ∨ v = .ref 3000) (h0 : ¬ x < 0) (h1 : x < n) : Ct l C yJ3_checkIndex_8e157 cJ3_checkIndex_8e157 3 (some .int) 0 0 [.int x, .int n, v] mm (some (.int x)) mm := by
  refine Ct.of (tb := tbJ3_checkIndex_8e157) hj miJ3_checkIndex_8e157.2.1 miJ3_checkIndex_8e157.1 dtJ3_checkIndex_8e157 (by rcases hv with rfl | rfl <;> exact Nat.le_of_ble_eq_true rfl) ?_
  intro E B hQ hr X
  show G E 3 0 [(0, .int x), (1, .int n), (2, v)] [] mm
  refine z_iload_n B 0 rfl 0 0 rfl rfl ?_
  refine z_if_lt_f B 1 rfl 9 (by decide) h0 ?_
  refine z_iload_n B 2 rfl 0 0 rfl rfl ?_
  refine z_iload_n B 3 rfl 1 1 rfl rfl ?_
  refine z_icmp_lt_t B 4 rfl 16 (by decide) h1 ?_
  refine z_iload_n B 10 rfl 0 0 rfl rfl ?_
  exact z_iret B 11 rfl rfl hQ hr
abbrev cJ0_checkIndex_df160 : ByteArray := prog_16_method_155_code
def yJ0_checkIndex_df160 : MethodName := ⟨RJ0, "checkIndex", "(II)V"⟩
def tbJ0_checkIndex_df160 : Tb := [(0, .iload_n 0, 1, 1), (1, .iload_n 1, 1, 2), (2, .getstatic 1053, 3, 5), (5, .invokestatic 1059, 3, 8), (8, .pop, 1, 9), (9, .return_, 1, 10)]
theorem dtJ0_checkIndex_df160 : ∀ q ∈ tbJ0_checkIndex_df160, decode cJ0_checkIndex_df160 q.1 = .ok (q.2.1, q.2.2.1) ∧ q.1 + q.2.2.1 = q.2.2.2 := by decide +kernel
theorem miJ0_checkIndex_df160 : MI yJ0_checkIndex_df160 cJ0_checkIndex_df160 2 none 2 := ⟨tw_mem (List.mem_of_getElem? (i := 430) (by decide +kernel)) rfl, by decide, by decide +kernel, tw_mem (List.mem_of_getElem? (i := 79) (by decide +kernel)) rfl⟩
abbrev rmJ0_checkIndex_df160 : Room := { frames := 1, cells := 0, slots := 0, locals := 22 }
def wJ0_checkIndex_df160 : List Cond := [.fieldLink "java/lang/String" 1053 "jdk/internal/util/Preconditions" "SIOOBE_FORMATTER" "Ljava/util/function/BiFunction;", .methodLink "java/lang/String" 1059 yJ3_checkIndex_8e157, .static yJ3_checkIndex_8e157]
theorem iJ0_checkIndex_df160 : ∀ w ∈ wJ0_checkIndex_df160, w ∈ TW := tw_of (ids := [431, 433, 434]) (by decide +kernel)
theorem ctJ0_checkIndex_df160 {l : Launch} {C : Cfg} (hj : Dj C) {mm : Mem} {x n : Int32} (h0 : ¬ x < 0) (h1 : x < n) : Ct l C yJ0_checkIndex_df160 cJ0_checkIndex_df160 2 none 1 22 [.int x, .int n] mm none mm := by
  refine Ct.of (tb := tbJ0_checkIndex_df160) hj miJ0_checkIndex_df160.2.1 miJ0_checkIndex_df160.1 dtJ0_checkIndex_df160 (Nat.le_of_ble_eq_true rfl) ?_
  intro E B hQ hr X
  show G E 2 0 [(0, .int x), (1, .int n)] [] mm
  refine z_iload_n B 0 rfl 0 0 rfl rfl ?_
  refine z_iload_n B 1 rfl 1 1 rfl rfl ?_
  refine z_gssf B 2 rfl (iJ0_checkIndex_df160 _ (List.mem_of_getElem? (i := 0) rfl)) (fun v hv => ?_)
  refine z_callS [.int x, .int n, v] [] [.int x] X B 3 rfl miJ3_checkIndex_8e157 ⟨(iJ0_checkIndex_df160 _ (List.mem_of_getElem? (i := 1) rfl)), (iJ0_checkIndex_df160 _ (List.mem_of_getElem? (i := 2) rfl))⟩ (ctJ3_checkIndex_8e157 hj hv h0 h1) ⟨Nat.le_of_ble_eq_true rfl, Nat.le_of_ble_eq_true rfl⟩ rfl rfl (Nat.le_of_ble_eq_true rfl) rfl ?_
  refine z_pop B 4 rfl rfl ?_
  exact z_vret B 5 rfl hQ hr
abbrev cJ1_charAt_3b067 : ByteArray := prog_17_method_2_code
def yJ1_charAt_3b067 : MethodName := ⟨RJ1, "charAt", "([BI)C"⟩
def tbJ1_charAt_3b067 : Tb := [(0, .iload_n 1, 1, 1), (1, .aload_n 0, 1, 2), (2, .arraylength, 1, 3), (3, .invokestatic 9, 3, 6), (6, .aload_n 0, 1, 7), (7, .iload_n 1, 1, 8), (8, .baload, 1, 9), (9, .sipush 255, 3, 12), (12, .iand, 1, 13), (13, .i2c, 1, 14), (14, .ireturn, 1, 15)]
theorem dtJ1_charAt_3b067 : ∀ q ∈ tbJ1_charAt_3b067, decode cJ1_charAt_3b067 q.1 = .ok (q.2.1, q.2.2.1) ∧ q.1 + q.2.2.1 = q.2.2.2 := by decide +kernel
theorem miJ1_charAt_3b067 : MI yJ1_charAt_3b067 cJ1_charAt_3b067 2 (some .char) 2 := ⟨tw_mem (List.mem_of_getElem? (i := 427) (by decide +kernel)) rfl, by decide, by decide +kernel, tw_mem (List.mem_of_getElem? (i := 80) (by decide +kernel)) rfl⟩
abbrev rmJ1_charAt_3b067 : Room := { frames := 2, cells := 0, slots := 0, locals := 43 }
def wJ1_charAt_3b067 : List Cond := [.methodLink "java/lang/StringLatin1" 9 yJ0_checkIndex_df160, .static yJ0_checkIndex_df160]
theorem iJ1_charAt_3b067 : ∀ w ∈ wJ1_charAt_3b067, w ∈ TW := tw_of (ids := [428, 429]) (by decide +kernel)
theorem zb_ok : ∀ q, q < 9 → ∀ j, j < ztl.getD q 0 → (((((ztb.getD q []).getD j 0) &&& 255).toUInt32 % 65536).toInt32 = (ztb.getD q []).getD j 0 ∧ narrow .char (.int ((ztb.getD q []).getD j 0)) = .int ((ztb.getD q []).getD j 0)) := by decide +kernel
theorem inb_lt {x : Int32} {n : Nat} (hn : n < 2 ^ 31) (h : inb x n = true) : ¬ x < 0 ∧ x < nI n ∧ x.toNatClampNeg < n := by
  obtain ⟨j, hj, rfl⟩ := vp_in_of (inb_in h) hn
  exact ⟨nI_pos (by omega), nI_lt hj hn, by rw [nI_clamp (by omega)]; exact hj⟩
theorem ztl_lt : ∀ q, q < 9 → ztl.getD q 0 < 2 ^ 31 := by decide +kernel
theorem ctJ1_charAt_3b067 {l : Launch} {C : Cfg} (hj : Dj C) {mm : Mem} {q : Nat} (hq : q < 9) {x : Int32} (hx : inb x (ztl.getD q 0) = true) : Ct l C yJ1_charAt_3b067 cJ1_charAt_3b067 2 (some .char) 2 43 [.ref (2000 + q), .int x] mm (some (.int ((ztb.getD q []).getD x.toNatClampNeg 0))) mm := by
  refine Ct.of (tb := tbJ1_charAt_3b067) hj miJ1_charAt_3b067.2.1 miJ1_charAt_3b067.1 dtJ1_charAt_3b067 (Nat.le_of_ble_eq_true rfl) ?_
  intro E B hQ hr X
  show G E 2 0 [(0, .ref (2000 + q)), (1, .int x)] [] mm
  obtain ⟨h0, h1, h2⟩ := inb_lt (ztl_lt q hq) hx
  obtain ⟨g1, g2⟩ := zb_ok q hq _ h2
  refine z_iload_n B 0 rfl 1 1 rfl rfl ?_
  refine z_aload_n B 1 rfl 0 0 rfl rfl ?_
  refine z_stln q hq B 2 rfl ?_
  refine z_callS [.int x, .int (nI (ztl.getD q 0))] [] [] X B 3 rfl miJ0_checkIndex_df160 ⟨(iJ1_charAt_3b067 _ (List.mem_of_getElem? (i := 0) rfl)), (iJ1_charAt_3b067 _ (List.mem_of_getElem? (i := 1) rfl))⟩ (ctJ0_checkIndex_df160 hj h0 h1) ⟨Nat.le_of_ble_eq_true rfl, Nat.le_of_ble_eq_true rfl⟩ rfl rfl (Nat.le_of_ble_eq_true rfl) rfl ?_
  refine z_aload_n B 4 rfl 0 0 rfl rfl ?_
  refine z_iload_n B 5 rfl 1 1 rfl rfl ?_
  refine z_stba q hq B 6 rfl hx ?_
  refine z_sipush 255 B 7 rfl (by decide) ?_
  refine z_iand B 8 rfl ?_
  refine z_i2c B 9 rfl ?_
  refine z_top g1.symm ?_
  exact z_iret B 10 rfl g2 hQ hr
abbrev cJ0_charAt_5068e : ByteArray := prog_16_method_56_code
def yJ0_charAt_5068e : MethodName := ⟨RJ0, "charAt", "(I)C"⟩
def tbJ0_charAt_5068e : Tb := [(0, .aload_n 0, 1, 1), (1, .invokevirtual 492, 3, 4), (4, .ifCond .eq 12, 3, 7), (7, .aload_n 0, 1, 8), (8, .getfield 9, 3, 11), (11, .iload_n 1, 1, 12), (12, .invokestatic 495, 3, 15), (15, .ireturn, 1, 16), (16, .aload_n 0, 1, 17), (17, .getfield 9, 3, 20), (20, .iload_n 1, 1, 21), (21, .invokestatic 498, 3, 24), (24, .ireturn, 1, 25)]
theorem dtJ0_charAt_5068e : ∀ q ∈ tbJ0_charAt_5068e, decode cJ0_charAt_5068e q.1 = .ok (q.2.1, q.2.2.1) ∧ q.1 + q.2.2.1 = q.2.2.2 := by decide +kernel
theorem miJ0_charAt_5068e : MI yJ0_charAt_5068e cJ0_charAt_5068e 2 (some .char) 1 := ⟨tw_mem (List.mem_of_getElem? (i := 420) (by decide +kernel)) rfl, by decide, by decide +kernel, tw_mem (List.mem_of_getElem? (i := 79) (by decide +kernel)) rfl⟩
abbrev rmJ0_charAt_5068e : Room := { frames := 3, cells := 0, slots := 0, locals := 64 }
def wJ0_charAt_5068e : List Cond := [.methodLink "java/lang/String" 492 yJ0_isLatin1_aae02, .instanceMethod yJ0_isLatin1_aae02, .selects "java/lang/String" yJ0_isLatin1_aae02 yJ0_isLatin1_aae02, .fieldLink "java/lang/String" 9 "java/lang/String" "value" "[B", .methodLink "java/lang/String" 495 yJ1_charAt_3b067, .static yJ1_charAt_3b067]
theorem iJ0_charAt_5068e : ∀ w ∈ wJ0_charAt_5068e, w ∈ TW := tw_of (ids := [421, 422, 423, 1367, 425, 426]) (by decide +kernel)
theorem ctJ0_charAt_5068e {l : Launch} {C : Cfg} (hj : Dj C) {mm : Mem} {q : Nat} (hq : q < 9) {x : Int32} (hx : inb x (ztl.getD q 0) = true) : Ct l C yJ0_charAt_5068e cJ0_charAt_5068e 2 (some .char) 3 64 [.ref (1000 + q), .int x] mm (some (.int ((ztb.getD q []).getD x.toNatClampNeg 0))) mm := by
  refine Ct.of (tb := tbJ0_charAt_5068e) hj miJ0_charAt_5068e.2.1 miJ0_charAt_5068e.1 dtJ0_charAt_5068e (Nat.le_of_ble_eq_true rfl) ?_
  intro E B hQ hr X
  show G E 2 0 [(0, .ref (1000 + q)), (1, .int x)] [] mm
  obtain ⟨h0, h1, h2⟩ := inb_lt (ztl_lt q hq) hx
  obtain ⟨g1, g2⟩ := zb_ok q hq _ h2
  refine z_aload_n B 0 rfl 0 0 rfl rfl ?_
  refine z_callVs q hq [] [] [.int 1] X B 1 rfl rfl miJ0_isLatin1_aae02 ⟨(iJ0_charAt_5068e _ (List.mem_of_getElem? (i := 0) rfl)), (iJ0_charAt_5068e _ (List.mem_of_getElem? (i := 1) rfl)), (iJ0_charAt_5068e _ (List.mem_of_getElem? (i := 2) rfl))⟩ (ctJ0_isLatin1_aae02 hj hq) ⟨Nat.le_of_ble_eq_true rfl, Nat.le_of_ble_eq_true rfl⟩ rfl rfl (Nat.le_of_ble_eq_true rfl) rfl ?_
  refine z_if_eq_f B 2 rfl 16 (by decide) (by decide) ?_
  refine z_aload_n B 3 rfl 0 0 rfl rfl ?_
  refine z_sval q hq B 4 rfl (iJ0_charAt_5068e _ (List.mem_of_getElem? (i := 3) rfl)) ?_
  refine z_iload_n B 5 rfl 1 1 rfl rfl ?_
  refine z_callS [.ref (2000 + q), .int x] [] [.int ((ztb.getD q []).getD x.toNatClampNeg 0)] X B 6 rfl miJ1_charAt_3b067 ⟨(iJ0_charAt_5068e _ (List.mem_of_getElem? (i := 4) rfl)), (iJ0_charAt_5068e _ (List.mem_of_getElem? (i := 5) rfl))⟩ (ctJ1_charAt_3b067 hj hq hx) ⟨Nat.le_of_ble_eq_true rfl, Nat.le_of_ble_eq_true rfl⟩ rfl rfl (Nat.le_of_ble_eq_true rfl) rfl ?_
  exact z_iret B 7 rfl g2 hQ hr
theorem z_slen {E : Ev} {own : String} {tb : Tb} {nL : Nat} {ret : Option FieldType} {pc nx : Nat} {lv : Lv} {st : List Value} {mm : Mem} {l : Launch} {C : Cfg} {R : Room} {n : Nat} (q : Nat) (X : Ec E l C R) (B : Bx E own tb nL ret) (hj : Dj C) (i : Nat) (h : tb[i]? = some (pc, .invokevirtual n, 3, nx)) (hq : So q) (hw : Cond.methodLink own n yJ0_length_8abf5 ∈ TW ∧ Cond.instanceMethod yJ0_length_8abf5 ∈ TW ∧ Cond.selects RJ0 yJ0_length_8abf5 yJ0_length_8abf5 ∈ TW) (hR : 2 ≤ R.frames ∧ 40 ≤ R.locals) (hW : (st.map fun v => v.category).sum ≤ 8) (k : G E nL nx lv (.int (nI (slen q)) :: st) mm) : G E nL pc lv (.ref q :: st) mm := by
  obtain ⟨a, ha, rfl⟩ := hq
  have e : slen (1000 + a) = ztl.getD a 0 := by unfold slen; rw [Nat.add_sub_cancel_left]
  rw [e] at k
  exact z_callVs a ha [] st _ X B i h rfl miJ0_length_8abf5 hw (ctJ0_length_8abf5 hj ha) ⟨hR.1, hR.2⟩ rfl rfl hW rfl k
theorem z_scha {E : Ev} {own : String} {tb : Tb} {nL : Nat} {ret : Option FieldType} {pc nx : Nat} {lv : Lv} {st : List Value} {mm : Mem} {l : Launch} {C : Cfg} {R : Room} {n : Nat} {x : Int32} (q : Nat) (X : Ec E l C R) (B : Bx E own tb nL ret) (hj : Dj C) (i : Nat) (h : tb[i]? = some (pc, .invokevirtual n, 3, nx)) (hq : So q) (hx : inb x (slen q) = true) (hw : Cond.methodLink own n yJ0_charAt_5068e ∈ TW ∧ Cond.instanceMethod yJ0_charAt_5068e ∈ TW ∧ Cond.selects RJ0 yJ0_charAt_5068e yJ0_charAt_5068e ∈ TW) (hR : 4 ≤ R.frames ∧ 85 ≤ R.locals) (hW : (st.map fun v => v.category).sum ≤ 8) (k : G E nL nx lv (.int (sch q x) :: st) mm) : G E nL pc lv (.int x :: .ref q :: st) mm := by
  obtain ⟨a, ha, rfl⟩ := hq
  have e : slen (1000 + a) = ztl.getD a 0 := by unfold slen; rw [Nat.add_sub_cancel_left]
  have e2 : sch (1000 + a) x = (ztb.getD a []).getD x.toNatClampNeg 0 := by unfold sch; rw [Nat.add_sub_cancel_left]
  rw [e] at hx
  rw [e2] at k
  exact z_callVs a ha [.int x] st _ X B i h rfl miJ0_charAt_5068e hw (ctJ0_charAt_5068e hj ha hx) ⟨hR.1, hR.2⟩ rfl rfl hW rfl k
end
section
/-! methods that throw; the law's two that catch -/
def zNSE : String := "java/util/NoSuchElementException"
def XCd (C : Cfg) (A : Nat → Prop) (mm : Mem) : String → State → State → Prop := fun E st t => E = "java/util/NoSuchElementException" ∧ va_P C.2.1 zcls (wl C mm) t.heap ∧ va_F A st t
def Rx : Ev → Mem → Prop
  | (_, l, _, _, s, _, args, below, meth, c, Q, C, kc, ks, A, _, _), mm => Q = vx_MQ below (fun _ _ _ _ => False) (XCd C A mm) args s 1 6 A ∧ kc = 0 ∧ ks = 0 ∧ (∀ x ∈ c.exceptionTable.toList, False) ∧ l.stackTraces = false
def Cx (l : Launch) (C : Cfg) (y : MethodName) (bytes : ByteArray) (maxL : Nat) (ret : Option FieldType) (fr lo : Nat) (av : List Value) (mm : Mem) : Prop :=
  vx_Met l y (Cond.code y bytes maxL ret :: TW) ({ frames := fr, cells := 1, slots := 6, locals := lo }) (va_Pc (av.map (cvv C)) (Wd C mm)) (fun _ _ _ _ => False) (XCd C (Aw C) mm) 1 6 (Aw C)
theorem zlen (C : Cfg) : ∀ (a : List Value), (lg_sl (a.map (cvv C))).length = (lg_sl (a.map (fun v => match v with | .long _ => Value.long 0 | .double _ => .double 0 | _ => .null))).length := by
  intro a
  induction a with
  | nil => rfl
  | cons v a ih =>
    simp only [lg_sl, List.map_cons, List.flatMap_cons, List.length_append] at ih ⊢
    rw [ih]
    congr 1
    cases v <;> rfl
theorem zargs (C : Cfg) : ∀ (a : List Value) (i : Nat), lv_args i (a.map (cvv C)) = (lv_args i a).map (fun q => (q.1, cvv C q.2)) := by
  intro a
  induction a with
  | nil => intro i; rfl
  | cons v a ih =>
    intro i
    simp only [List.map_cons, lv_args, cvv_cat, ih]
theorem Cx.of {l : Launch} {C : Cfg} (hj : Dj C) (hfl : l.stackTraces = false) {y : MethodName} {bytes : ByteArray} {nL fr lo : Nat} {ret : Option FieldType} {av : List Value} {mm : Mem} {tb : Tb} (hy : plainName y.cls = true) (hcode : Cond.code y bytes nL ret ∈ TW) (htb : ∀ q ∈ tb, decode bytes q.1 = .ok (q.2.1, q.2.2.1) ∧ q.1 + q.2.2.1 = q.2.2.2) (hlen : (lg_sl (av.map (fun v => match v with | .long _ => Value.long 0 | .double _ => .double 0 | _ => .null))).length ≤ nL)
    (body : ∀ E : Ev, Bx E y.cls tb nL ret → Rx E mm → Ec E l C ({ frames := fr, cells := 1, slots := 6, locals := lo } : Room) → G E nL 0 (lv_args 0 av) [] mm) : Cx l C y bytes nL ret fr lo av mm := by
  refine vx_ofW (cc := bytes) (maxL := nL) (ret := ret) hy rfl ?_
  intro p e s m args below meth c s₁ B hml htab hv
  obtain ⟨rfl, hP, hK, hSx⟩ := hv
  have hts : ∀ w ∈ TW, w.before (av.map (cvv C)).toArray s = true := fun w hw => atoms_spec (ws := Cond.code y bytes nL ret :: TW) B.pre w (List.mem_cons_of_mem _ hw)
  have hB : Bx (p, l, e, ({ frames := fr, cells := 1, slots := 6, locals := lo } : Room), s, m, (av.map (cvv C)).toArray, below, meth, c, vx_MQ below (fun _ _ _ _ => False) (XCd C (Aw C) mm) (av.map (cvv C)).toArray s 1 6 (Aw C), C, 0, 0, Aw C, none, mm) y.cls tb nL ret :=
    ⟨B.exec, fun q hq => by rw [B.bytes]; exact htb q hq, hml, findClass_of_methodNamed B.named, hts, hK, hj, fun c hc => ⟨c, hc, rfl⟩, hSx, B.returns, B.notSynchronized, Nat.zero_le _, Nat.zero_le _⟩
  have hG := body _ hB ⟨rfl, rfl, rfl, htab, hfl⟩ ⟨rfl, rfl, rfl⟩
  have hl := lv_entry (av.map (cvv C)) (n := nL) (by rw [zlen]; exact hlen)
  rw [lg_entry_eq]
  generalize (lg_sl (av.map (cvv C)) ++ List.replicate (nL - (lg_sl (av.map (cvv C))).length) Slot.unset).toArray = ls at hl ⊢
  rw [zargs] at hl
  exact hG s.heap [] ls hP va_S.rf hl
def zat0 : List Cond := vx_at0 RX6 167 "java/util/NoSuchElementException" ["java/lang/RuntimeException", "java/lang/Exception"]
theorem zat0_ok : zat0.all (fun w => decide (w ∈ lw_tbl) && (goodWord w || (w.faceAtom && w.onTables))) = true := by decide +kernel
theorem zat0_ot : (Cond.classLink RX6 165 "java/util/NoSuchElementException" :: Cond.initialized "java/util/NoSuchElementException" :: zat0).all vx_ot = true := by decide +kernel
def wthr : List Cond := [.classLink RX6 165 "java/util/NoSuchElementException", .initialized "java/util/NoSuchElementException"]
theorem ithr : ∀ w ∈ wthr, w ∈ TW := tw_of (ids := [860, 86]) (by decide +kernel)
theorem z_throw {E : Ev} {tb : Tb} {nL : Nat} {ret : Option FieldType} {pc n1 n2 n3 n4 : Nat} {lv : Lv} {st : List Value} {mm : Mem} {l : Launch} {C : Cfg} {R : Room} (X : Ec E l C R) (B : Bx E RX6 tb nL ret) (hQ : Rx E mm) (i j k n : Nat) (h0 : tb[i]? = some (pc, .new 165, 3, n1)) (h1 : tb[j]? = some (n1, .dup, 1, n2)) (h2 : tb[k]? = some (n2, .invokespecial 167, 3, n3)) (h3 : tb[n]? = some (n3, .athrow, 1, n4)) (hR : 5 < R.frames ∧ 89 ≤ R.locals ∧ 1 ≤ R.cells ∧ 6 ≤ R.slots) (hW : (st.map fun v => v.category).sum ≤ 8) : G E nL pc lv st mm := by
  obtain ⟨p, l', e, R', s, m, args, below, meth, c, Q, C', kc, ks, A, res, mo⟩ := E
  obtain ⟨rfl, rfl, rfl⟩ := X
  obtain ⟨hQ, rfl, rfl, htab, hfl⟩ := hQ
  have hQ : Q = vx_MQ below (fun _ _ _ _ => False) (XCd C' A mm) args s 1 6 A := hQ
  subst hQ
  obtain ⟨d0, e0⟩ := Bx.dec B h0
  obtain ⟨d1, e1⟩ := Bx.dec B h1
  obtain ⟨d2, e2⟩ := Bx.dec B h2
  obtain ⟨d3, e3⟩ := Bx.dec B h3
  subst e0; subst e1; subst e2; subst e3
  intro H locs ls hP hS hl
  have hrl : ((st.map (cvv C')).map (fun v => v.category)).sum ≤ 8 := by
    rw [List.map_map]
    have : ((fun v : Value => v.category) ∘ cvv C') = fun v => v.category := by funext v; exact cvv_cat C' v
    rw [this]; exact hW
  refine vx_throw0 (own := RX6) (cls := "java/util/NoSuchElementException") (names := ["java/lang/RuntimeException", "java/lang/Exception"]) (ik := 165) (ic := 167) (A := A) B.1 rfl hfl B.hown (by decide +kernel) (by decide +kernel) (B.tw _ (ithr _ (List.mem_of_getElem? (i := 0) rfl))) (B.tw _ (ithr _ (List.mem_of_getElem? (i := 1) rfl))) (fun w hw => ?_) (fun w hw => ?_) B.sx.2.2.2.2.2.2.1 B.sx.2.2.2.2.2.2.2 hS (by rw [B.ml]; exact hl.1) d0 d1 d2 d3 (fun x hx => (htab x hx).elim) (by show 2 + 3 < _; exact hR.1) (by show _ + (13 * (2 + 1) + 42) ≤ _; omega) (by have := hR.2.2.1; omega) (by have := hR.2.2.2; omega) B.lk (fun t hA hz hk => ?_) hS.2.2 (Nat.le_refl _) (Nat.le_refl _)
  · have h := List.all_eq_true.mp zat0_ok w hw
    simp only [Bool.and_eq_true, decide_eq_true_eq, Bool.or_eq_true] at h
    rcases h.2 with g | g
    · exact B.tw _ (tw_mem h.1 g)
    · exact va_Nw.use g.2 (B.sx.2.2.2.2.2.1 w (List.mem_filter.mpr ⟨h.1, by simpa using g⟩))
  · exact List.all_eq_true.mp zat0_ot w hw
  · refine ⟨rfl, fun k q hq => (hP k q hq).kept (hk q.1 (hP k q hq).lt), Nat.le_trans hS.1 hz, fun q h1 h2 => ?_⟩
    rw [hk q (Nat.lt_of_lt_of_le h1 hS.1)]
    exact hS.2.1 q h1 h2
/-- a method with a table of handlers, that returns -/
def CtW (l : Launch) (C : Cfg) (y : MethodName) (bytes : ByteArray) (maxL : Nat) (ret : Option FieldType) (hh : List (Nat × Nat × Nat × Nat)) (fr lo : Nat) (av : List Value) (mm : Mem) (r : Option Value) (mo : Mem) : Prop :=
  Met l y (Cond.codeWith y bytes maxL ret hh :: TW) ({ frames := fr, cells := 1, slots := 6, locals := lo }) (va_Pc (av.map (cvv C)) (Wd C mm)) (QC C (Aw C) r mo) 1 6 (Aw C)
def RtW : Ev → List ExceptionTableEntry → Prop
  | (_, _, _, _, s, _, args, below, _, c, Q, C, kc, ks, A, res, mo), et => Q = MQ below (QC C A res mo) args s 1 6 A ∧ kc = 0 ∧ ks = 0 ∧ c.exceptionTable.toList = et
theorem CtW.of {l : Launch} {C : Cfg} (hj : Dj C) {y : MethodName} {bytes : ByteArray} {nL fr lo : Nat} {ret : Option FieldType} {hh : List (Nat × Nat × Nat × Nat)} {av : List Value} {mm mo : Mem} {r : Option Value} {tb : Tb} (hy : plainName y.cls = true) (htb : ∀ q ∈ tb, decode bytes q.1 = .ok (q.2.1, q.2.2.1) ∧ q.1 + q.2.2.1 = q.2.2.2) (hlen : (lg_sl (av.map (fun v => match v with | .long _ => Value.long 0 | .double _ => .double 0 | _ => .null))).length ≤ nL)
    (body : ∀ E : Ev, Bx E y.cls tb nL ret → RtW E (tableOf hh) → Rs E r mo → Ec E l C ({ frames := fr, cells := 1, slots := 6, locals := lo } : Room) → G E nL 0 (lv_args 0 av) [] mm) : CtW l C y bytes nL ret hh fr lo av mm r mo := by
  unfold CtW
  refine MetFree.of_bodyS (code := bytes) (maxLocals := nL) (ret := ret) hy ?_ ?_
  · intro args s m h hn
    obtain ⟨m9, meth, c, hn9, h1, h2, h3, h4, -, h5, h6, -⟩ := Cond.codeWith_spec (atoms_spec (ws := Cond.codeWith y bytes nL ret hh :: TW) h _ List.mem_cons_self)
    cases hn.symm.trans hn9
    exact ⟨meth, c, h1, h2, h3, h4, h5, h6⟩
  · intro p e s m args below meth c s₁ B hml hv _
    have hh0 : s₁.heap = s.heap := by rw [B.state]; rfl
    have htab := vx_table (x := y) B (atoms_spec (ws := Cond.codeWith y bytes nL ret hh :: TW) B.pre _ List.mem_cons_self)
    obtain ⟨rfl, hP, hK, hSx⟩ := hv
    have hts : ∀ w ∈ TW, w.before (av.map (cvv C)).toArray s = true := fun w hw => atoms_spec (ws := Cond.codeWith y bytes nL ret hh :: TW) B.pre w (List.mem_cons_of_mem _ hw)
    have hB : Bx (p, l, e, ({ frames := fr, cells := 1, slots := 6, locals := lo } : Room), s, m, (av.map (cvv C)).toArray, below, meth, c, MQ below (QC C (Aw C) r mo) (av.map (cvv C)).toArray s 1 6 (Aw C), C, 0, 0, Aw C, r, mo) y.cls tb nL ret :=
      ⟨B.exec, fun q hq => by rw [B.bytes]; exact htb q hq, hml, findClass_of_methodNamed B.named, hts, hK, hj, fun c hc => ⟨c, hc, rfl⟩, hSx, B.returns, B.notSynchronized, Nat.zero_le _, Nat.zero_le _⟩
    have hG := body _ hB ⟨rfl, rfl, rfl, htab⟩ ⟨rfl, rfl⟩ ⟨rfl, rfl, rfl⟩
    have hl := lv_entry (av.map (cvv C)) (n := nL) (by rw [zlen]; exact hlen)
    have hW : W p l e (headSpec (Cond.codeWith y bytes nL ret hh :: TW) ({ frames := fr, cells := 1, slots := 6, locals := lo } : Room)).room s m (av.map (cvv C)).toArray below meth c s.heap [] 0 0 (MQ below (QC C (Aw C) r mo) (av.map (cvv C)).toArray s 1 6 (Aw C)) (entryFrame m (av.map (cvv C)).toArray nL) := by
      rw [lg_entry_eq]
      generalize (lg_sl (av.map (cvv C)) ++ List.replicate (nL - (lg_sl (av.map (cvv C))).length) Slot.unset).toArray = ls at hl ⊢
      rw [zargs] at hl
      exact hG s.heap [] ls hP va_S.rf hl
    obtain ⟨t, a1, o, b1, b2, b3⟩ := hW s₁ hh0 (Stand.of_body B)
    exact ⟨t, o, a1, b1, b2, b3⟩
def setk : Ev → Nat → Nat → Ev
  | (p, l, e, R, s, m, args, below, meth, c, Q, C, _, _, A, res, mo), k, n => (p, l, e, R, s, m, args, below, meth, c, Q, C, k, n, A, res, mo)
def kle : Ev → Nat → Nat → Prop
  | (_, _, _, R, _, _, _, _, _, _, _, _, kc, ks, _, _, _), k, n => kc ≤ k ∧ ks ≤ n ∧ k ≤ R.cells ∧ n ≤ R.slots
theorem z_wid {E : Ev} {nL pc : Nat} {lv : Lv} {st : List Value} {mm : Mem} {k n : Nat} (h : kle E k n) (kk : G (setk E k n) nL pc lv st mm) : G E nL pc lv st mm := by
  obtain ⟨p, l, e, R, s, m, args, below, meth, c, Q, C, kc, ks, A, res, mo⟩ := E
  intro H locs ls hP hS hl
  exact W.widen h.1 h.2.1 (kk H locs ls hP hS hl)
theorem Bx.setk {E : Ev} {own : String} {tb : Tb} {nL : Nat} {ret : Option FieldType} {k n : Nat} (B : Bx E own tb nL ret) (h : kle E k n) : Bx (setk E k n) own tb nL ret := by
  obtain ⟨p, l, e, R, s, m, args, below, meth, c, Q, C, kc, ks, A, res, mo⟩ := E
  exact ⟨B.1, B.2.1, B.ml, B.hown, B.tw, B.K, B.dj, B.aa, B.sx, B.rt, B.lk, h.2.2.1, h.2.2.2⟩
theorem Ec.setk {E : Ev} {l : Launch} {C : Cfg} {R : Room} {k n : Nat} (X : Ec E l C R) : Ec (setk E k n) l C R := by
  obtain ⟨p, l', e, R', s, m, args, below, meth, c, Q, C', kc, ks, A, res, mo⟩ := E
  exact X
def wcat : List Cond := [.classLink RL 13 "java/util/NoSuchElementException"]
theorem icat : ∀ w ∈ wcat, w ∈ TW := tw_of (ids := [855]) (by decide +kernel)
theorem zcast : Cond.castable "java/util/NoSuchElementException" "java/util/NoSuchElementException" ∈ TF := List.mem_filter.mpr ⟨List.mem_of_getElem? (i := 862) (by decide +kernel), by decide +kernel⟩
/-- the law's method catches what the call throws, and answers 1 -/
theorem z_catch {E : Ev} {tb : Tb} {pc nx : Nat} {lv : Lv} {st : List Value} {mm : Mem} {l : Launch} {C : Cfg} {R : Room} {y : MethodName} {bytes : ByteArray} {maxL n fr lo idx : Nat} {rt : Option FieldType} {x : vw_C} (q ci : Nat) (as rest : List Value) (X : Ec E l C R) (B : Bx E RL tb 5 (some .int)) (hQ : RtW E (tableOf [(0, 10, 13, 13)])) (hr : Rs E (some (.int 1)) mm) (i : Nat) (h : tb[i]? = some (pc, .invokevirtual idx, 3, nx)) (hpc : pc < 10) (i1 i2 i3 : Nat) (h1 : tb[i1]? = some (13, .astore 4, 2, 15)) (h2 : tb[i2]? = some (15, .iconst 1, 1, 16)) (h3 : tb[i3]? = some (16, .ireturn, 1, 17)) (hq : Ob q ci) (hx : zcls[ci]? = some x) (hxc : x.1 = y.cls) (hM : MI y bytes maxL rt n) (hw : Cond.methodLink RL idx y ∈ TW ∧ Cond.instanceMethod y ∈ TW ∧ Cond.selects y.cls y y ∈ TW) (hc : Cx l C y bytes maxL rt fr lo (.ref q :: as) mm) (hR : fr + 1 ≤ R.frames ∧ 8 + (maxL + 11) + lo ≤ R.locals ∧ 1 ≤ R.cells ∧ 6 ≤ R.slots) (hn : as.length = n) (hst : st = as.reverse ++ .ref q :: rest) (hW : (rest.map fun v => v.category).sum ≤ 8) : G E 5 pc lv st mm := by
  obtain ⟨p, l', e, R', s, m, args, below, meth, c, Q, C', kc, ks, A, res, mo⟩ := E
  obtain ⟨rfl, rfl, rfl⟩ := X
  obtain ⟨hQ, rfl, rfl, htab⟩ := hQ
  obtain ⟨rfl, rfl⟩ := hr
  have hQ : Q = MQ below (QC C' A _ _) args s 1 6 A := hQ
  subst hQ
  obtain ⟨hd, hnx⟩ := Bx.dec B h
  obtain ⟨hd1, -⟩ := Bx.dec B h1
  obtain ⟨hd2, -⟩ := Bx.dec B h2
  obtain ⟨hd3, -⟩ := Bx.dec B h3
  subst hst
  intro H locs ls hP hS hl
  have hrl : (rest.map (cvv C')).map (fun v => v.category) = rest.map (fun v => v.category) := by rw [List.map_map]; congr 1; funext v; exact cvv_cat C' v
  have hrec : ∃ cell : Cell, H[C'.1 q]? = some cell ∧ cell.vm.isStatics = false ∧ s.vm.findClass y.cls = some cell.cls := by
    rw [← hxc]
    exact va_recv B.K hP hx (by rw [wl_get hq.1, cel_obj hq.2 (zcls_lt hx)])
  have hAA : ∀ q, Aw C' q → A q := fun q hq => by obtain ⟨c, h1, rfl⟩ := hq; exact B.aa c h1
  have hrun := vx_runV (C := y.cls) (b := C'.1 q) (As := as.map (cvv C')) (rest := rest.map (cvv C')) (g := F0 m pc ls ((as.reverse ++ .ref q :: rest).map (cvv C'))) (cells := 0) (slots := 0) (locs := locs) (e := e) (below := below) (meth := meth) ⟨B.1, rfl, B.ml, B.hown, B.tw⟩ hc ⟨callB_of n B.tw (tw_good hM.1) rfl rfl rfl (B.tw _ hM.2.2.2) (B.tw _ hw.1) hM.2.2.1 ⟨hR.1, hR.2.1⟩, B.tw _ hw.2.1, B.tw _ hw.2.2⟩ ⟨Wd_blind, hrec, Wd_call B hP hS (.ref q :: as)⟩ rfl (by rw [List.length_map]; exact hn) hl.1 (by rw [List.map_append, List.map_reverse]; rfl) (lv_room (by rw [hrl]; exact hW)) hd (by have := hR.2.2; omega)
  intro T hT Y
  rcases hrun T hT Y with ⟨v, st₀, t, T', L, h0, X', hL, e1, e2, hF, st⟩ | ⟨q9, st₀, t, T', L, E9, ce, h0, X', hL, e1, e2, hXC, hce, hcv, hcl, st⟩
  · exact hF.elim
  · obtain ⟨rfl, hP1, hF⟩ := hXC
    have hS1 := (vx_keep h0 e1 hS (fun q _ h => hAA q h) hAA hL hF).2.2
    rw [← e1] at hP1
    have hW1 := vx_catch (Q := MQ below (QC C' A (some (.int 1)) _) args s 1 6 A) (cells := 0 + 1) (slots := 0 + 6) (ls := ls) (rest := rest.map (cvv C')) (pc := pc) (p := p) (l := l') (e := e) (R := R') (below := below) (meth := meth) (locs := locs ++ L) (H := T'.heap) (own := RL) (name := "java/util/NoSuchElementException") B.hown [] ⟨0, 10, 13, 13⟩ [] htab (fun z hz => by cases hz) (by simp [covers]; omega) (by decide) (B.tw _ (icat _ (List.mem_of_getElem? (i := 0) rfl))) (va_Nw.use rfl (B.sx.2.2.2.2.2.1 _ zcast)) (by rw [e1]; exact hce) hcv hcl
      (lv_astore B.1 rfl hd1 hl (by decide) rfl (fun ls' hl' => lv_iconst B.1 rfl hd2 (v := 1) (by decide) (W.zret (v := 1) B.1 rfl B.rt rfl (fun t ht hWm => ⟨rfl, Wd_end B hP1 hS1 ht hWm, hS1.F ht⟩) hS1.2.2 hd3 B.lk)))
    obtain ⟨t2, a1, b1⟩ := hW1 T' rfl X'
    exact ⟨t2, st.trans a1, b1⟩
end
section
/-! making: worlds of cells that lie one behind another, from the address n on -/
def shv (n : Nat) : Value → Value
  | .ref a => .ref (n + a)
  | .null => .null
  | .int x => .int x
  | .long x => .long x
  | .float x => .float x
  | .double x => .double x
  | .retAddr x => .retAddr x
def she (n : Nat) : va_E → va_E
  | .inl a => .inl a
  | .inr o => .inr (o.1, o.2.map (shv n))
def wsn (n : Nat) (cs : List va_E) : va_W := cs.mapIdx (fun j e => (n + j, she n e))
abbrev En : Type := Program × Launch × Env × Room × State × MethodId × Array Value × List Frame × Method × Code × (State → Prop) × va_G × ClassId × ClassId × ClassId × Nat × Lv
abbrev tyn (cI cZ cJ : ClassId) : List (ClassId × FieldType) := [(cI, .int), (cZ, .boolean), (cJ, .long)]
def Nx (U : State) : Prop := ∀ q ∈ zns, va_Nw (.methodLinkNest q.1 q.2.1 q.2.2.1 q.2.2.2) U
def GN : En → Nat → Nat → Lv → List Value → List va_E → Nat → Nat → Nat → Prop
  | (p, l, e, R, s, m, args, below, meth, c, Q, D, _, _, _, n, lr), nL, pc, lv, st, cs, len, kc, ks => ∀ (H : Heap) (locs : List Loc) (ls : Array Slot), cs.length = len → va_P D zcls (wsn n cs) H → H.size = n + cs.length → va_S (fun q => n ≤ q) s.heap H locs → lv_has ls nL (lr ++ lv.map (fun q => (q.1, shv n q.2))) → W p l e R s m args below meth c H locs kc ks Q (F0 m pc ls (st.map (shv n)))
def BN : En → String → Tb → Nat → Prop
  | (p, _, _, _, s, m, args, _, meth, c, _, D, cI, cZ, cJ, n, lr), own, tb, nL => p.tables.exec = Jvm.exec ∧ (∀ q ∈ tb, decode c.code q.1 = .ok (q.2.1, q.2.2.1) ∧ q.1 + q.2.2.1 = q.2.2.2) ∧ c.maxLocals = nL ∧ s.vm.findClass own = some m.cls ∧ (∀ w ∈ TW, w.before args s = true) ∧ va_K D zcls (tyn cI cZ cJ) s ∧ Nx s ∧ n ≤ s.heap.size ∧ meth.locks = false
def RN : En → Room → Prop
  | (_, _, _, R, _, _, _, _, _, _, _, _, _, _, _, _, _), R' => R = R'
def LN : En → Launch → va_G → ClassId → ClassId → ClassId → Prop
  | (_, l, _, _, _, _, _, _, _, _, _, D, cI, cZ, cJ, _, _), l', D', cI', cZ', cJ' => l = l' ∧ D = D' ∧ cI = cI' ∧ cZ = cZ' ∧ cJ = cJ'
def IN : En → Prop
  | (_, _, _, _, _, _, _, _, meth, _, _, _, _, _, _, _, _) => meth.name = "<init>"
theorem shv_cat (n : Nat) (v : Value) : (shv n v).category = v.category := by cases v <;> rfl
theorem wsn_get {n j : Nat} {cs : List va_E} {x : va_E} (h : cs[j]? = some x) : (wsn n cs)[j]? = some (n + j, she n x) := by
  unfold wsn
  rw [List.getElem?_mapIdx, h]
  rfl
theorem wsn_at {n k : Nat} {cs : List va_E} {q : Nat × va_E} (h : (wsn n cs)[k]? = some q) : ∃ x, cs[k]? = some x ∧ q = (n + k, she n x) := by
  unfold wsn at h
  rw [List.getElem?_mapIdx] at h
  cases hc : cs[k]? with
  | none => rw [hc] at h; cases h
  | some x => rw [hc] at h; exact ⟨x, rfl, (Option.some.inj h).symm⟩
theorem wsn_D (n : Nat) (cs : List va_E) : va_D (fun q => n ≤ q) (wsn n cs) := by
  refine ⟨fun i j x y hx hy hxy => ?_, fun k x hx => ?_⟩
  · obtain ⟨a, -, rfl⟩ := wsn_at hx
    obtain ⟨b, -, rfl⟩ := wsn_at hy
    have : n + i = n + j := hxy
    omega
  · obtain ⟨a, -, rfl⟩ := wsn_at hx
    exact Nat.le_add_right _ _
theorem wsn_app (n : Nat) (cs : List va_E) (x : va_E) : wsn n (cs ++ [x]) = wsn n cs ++ [(n + cs.length, she n x)] := by
  unfold wsn
  rw [List.mapIdx_append]
  simp
theorem wsn_set (n j : Nat) (cs : List va_E) (x : va_E) : (wsn n cs).set j (n + j, she n x) = wsn n (cs.set j x) := by
  apply List.ext_getElem?
  intro i
  unfold wsn
  rw [List.getElem?_mapIdx]
  by_cases hij : i = j
  · subst hij
    by_cases hl : i < cs.length
    · rw [List.getElem?_set_self (by rw [List.length_mapIdx]; exact hl), List.getElem?_set_self hl]
      rfl
    · rw [List.getElem?_eq_none (by rw [List.length_set, List.length_mapIdx]; omega), List.getElem?_eq_none (by rw [List.length_set]; omega)]
      rfl
  · rw [List.getElem?_set_ne (Ne.symm hij), List.getElem?_set_ne (Ne.symm hij), List.getElem?_mapIdx]
theorem shv_shv (n j : Nat) (v : Value) : shv n (shv j v) = shv (n + j) v := by
  cases v <;> simp [shv, Nat.add_assoc]
theorem she_she (n j : Nat) (x : va_E) : she n (she j x) = she (n + j) x := by
  cases x with
  | inl a => rfl
  | inr o =>
    simp only [she, List.map_map]
    congr 2
    apply List.map_congr_left
    intro v _
    exact shv_shv n j v
section NS
variable {p : Program} {l : Launch} {e : Env} {R : Room} {s : State} {m : MethodId} {args : Array Value} {below : List Frame} {meth : Method} {c : Code} {Q : State → Prop} {D : va_G} {cI cZ cJ : ClassId} {n : Nat} {lr : Lv} {ow : String} {tb : Tb} {nL : Nat}
variable {pc nx len : Nat} {ins : Instr}
theorem BN.dec (B : BN (p, l, e, R, s, m, args, below, meth, c, Q, D, cI, cZ, cJ, n, lr) ow tb nL) {i : Nat} (h : tb[i]? = some (pc, ins, len, nx)) : decode c.code pc = .ok (ins, len) ∧ pc + len = nx := by
  have h1 : ∀ q ∈ tb, decode c.code q.1 = .ok (q.2.1, q.2.2.1) ∧ q.1 + q.2.2.1 = q.2.2.2 := B.2.1
  exact h1 (pc, ins, len, nx) (List.mem_of_getElem? h)
theorem BN.ml (B : BN (p, l, e, R, s, m, args, below, meth, c, Q, D, cI, cZ, cJ, n, lr) ow tb nL) : c.maxLocals = nL := B.2.2.1
theorem BN.hown (B : BN (p, l, e, R, s, m, args, below, meth, c, Q, D, cI, cZ, cJ, n, lr) ow tb nL) : s.vm.findClass ow = some m.cls := B.2.2.2.1
theorem BN.tw (B : BN (p, l, e, R, s, m, args, below, meth, c, Q, D, cI, cZ, cJ, n, lr) ow tb nL) : ∀ w ∈ TW, w.before args s = true := B.2.2.2.2.1
theorem BN.K (B : BN (p, l, e, R, s, m, args, below, meth, c, Q, D, cI, cZ, cJ, n, lr) ow tb nL) : va_K D zcls (tyn cI cZ cJ) s := B.2.2.2.2.2.1
theorem BN.hnx (B : BN (p, l, e, R, s, m, args, below, meth, c, Q, D, cI, cZ, cJ, n, lr) ow tb nL) : Nx s := B.2.2.2.2.2.2.1
theorem BN.hn (B : BN (p, l, e, R, s, m, args, below, meth, c, Q, D, cI, cZ, cJ, n, lr) ow tb nL) : n ≤ s.heap.size := B.2.2.2.2.2.2.2.1
theorem BN.lk (B : BN (p, l, e, R, s, m, args, below, meth, c, Q, D, cI, cZ, cJ, n, lr) ow tb nL) : meth.locks = false := B.2.2.2.2.2.2.2.2
end NS
theorem lvmn {n : Nat} {lr lv : Lv} {j q : Nat} {v : Value} (h : lv[j]? = some (q, v)) : (lr ++ lv.map (fun q => (q.1, shv n q.2)))[lr.length + j]? = some (q, shv n v) := by
  rw [List.getElem?_append_right (Nat.le_add_right _ _), Nat.add_sub_cancel_left, List.getElem?_map, h]
  rfl
theorem zs1_mapn {n : Nat} {ls : Array Slot} {nL : Nat} {lr lv : Lv} {i : Nat} {v : Value} (hlr : ∀ q ∈ lr, (!(q.1 == i) && !(q.1 + 1 == i && q.2.category == 2)) = true) (h : lv_has ls nL ((i, shv n v) :: (lr ++ lv.map (fun q => (q.1, shv n q.2))).filter (fun q => !(q.1 == i) && !(q.1 + 1 == i && q.2.category == 2)))) : lv_has ls nL (lr ++ (zs1 lv i v).map (fun q => (q.1, shv n q.2))) := by
  refine ⟨h.1, h.2.1, fun q hq => h.2.2 q ?_⟩
  rcases List.mem_append.mp hq with h1 | h1
  · exact List.mem_cons_of_mem _ (List.mem_filter.mpr ⟨List.mem_append_left _ h1, hlr q h1⟩)
  · obtain ⟨x, hx, rfl⟩ := List.mem_map.mp h1
    unfold zs1 at hx
    rcases List.mem_cons.mp hx with e | e
    · rw [e]; exact List.mem_cons_self
    · obtain ⟨g1, g2⟩ := List.mem_filter.mp e
      refine List.mem_cons_of_mem _ (List.mem_filter.mpr ⟨List.mem_append_right _ (List.mem_map.mpr ⟨x, g1, rfl⟩), ?_⟩)
      simpa only [shv_cat] using g2
def LR : En → Nat → Prop
  | (_, _, _, _, _, _, _, _, _, _, _, _, _, _, _, _, lr), i => ∀ q ∈ lr, (!(q.1 == i) && !(q.1 + 1 == i && q.2.category == 2)) = true
/-- a constructor's contract -/
def CtN (l : Launch) (D : va_G) (cI cZ cJ : ClassId) (y : MethodName) (bytes : ByteArray) (maxL fr lo : Nat) (e0 : va_E) (blk : List va_E) (mc ms : Nat) : Prop := ∀ h0 : Nat,
  Met l y (Cond.code y bytes maxL none :: TW) ({ frames := fr, cells := mc, slots := ms, locals := lo }) (va_Pc [.ref h0] (fun U => U.heap.size = h0 + 1 ∧ va_P D zcls (wsn h0 [e0]) U.heap ∧ va_K D zcls (tyn cI cZ cJ) U ∧ Nx U)) (fun _ st oc t => oc = .returned none ∧ va_P D zcls (wsn h0 blk) t.heap ∧ t.heap.size = h0 + blk.length ∧ va_F (fun q => h0 ≤ q) st t) mc ms (fun q => h0 ≤ q)
def RtN : En → List va_E → Nat → Nat → Prop
  | (_, _, _, _, s, _, args, below, meth, _, Q, D, _, _, _, n, _), blk, mc, ms => Q = MQ below (fun _ st oc t => oc = .returned none ∧ va_P D zcls (wsn n blk) t.heap ∧ t.heap.size = n + blk.length ∧ va_F (fun q => n ≤ q) st t) args s mc ms (fun q => n ≤ q) ∧ meth.sig.returnType = none
theorem CtN.of {l : Launch} {D : va_G} {cI cZ cJ : ClassId} {y : MethodName} {bytes : ByteArray} {nL fr lo mc ms : Nat} {e0 : va_E} {blk : List va_E} {tb : Tb} (hy : plainName y.cls = true) (hcode : Cond.code y bytes nL none ∈ TW) (hnm : y.name = "<init>") (htb : ∀ q ∈ tb, decode bytes q.1 = .ok (q.2.1, q.2.2.1) ∧ q.1 + q.2.2.1 = q.2.2.2) (hlen : 1 ≤ nL)
    (body : ∀ E : En, BN E y.cls tb nL → RtN E blk mc ms → RN E ({ frames := fr, cells := mc, slots := ms, locals := lo } : Room) → LN E l D cI cZ cJ → IN E → GN E nL 0 [(0, .ref 0)] [] [e0] 1 0 0) : CtN l D cI cZ cJ y bytes nL fr lo e0 blk mc ms := by
  intro h0
  refine Met.ofW (cc := bytes) (maxL := nL) (ret := none) hy rfl ?_
  intro p e s m args below meth c s₁ B hml hv
  obtain ⟨rfl, hsz, hP, hK, hN⟩ := hv
  have hts : ∀ w ∈ TW, w.before (([.ref h0] : List Value)).toArray s = true := fun w hw => atoms_spec (ws := Cond.code y bytes nL none :: TW) B.pre w (List.mem_cons_of_mem _ hw)
  have hin : meth.name = "<init>" := (name_of_methodNamed B.named B.method).1.trans hnm
  have hG := body (p, l, e, ({ frames := fr, cells := mc, slots := ms, locals := lo } : Room), s, m, (([.ref h0] : List Value)).toArray, below, meth, c, MQ below (fun _ st oc t => oc = .returned none ∧ va_P D zcls (wsn h0 blk) t.heap ∧ t.heap.size = h0 + blk.length ∧ va_F (fun q => h0 ≤ q) st t) (([.ref h0] : List Value)).toArray s mc ms (fun q => h0 ≤ q), D, cI, cZ, cJ, h0, [])
    ⟨B.exec, fun q hq => by rw [B.bytes]; exact htb q hq, hml, findClass_of_methodNamed B.named, hts, hK, hN, by rw [hsz]; exact Nat.le_succ _, B.notSynchronized⟩ ⟨rfl, B.returns⟩ rfl ⟨rfl, rfl, rfl, rfl, rfl⟩ hin
  have hl := lv_entry [.ref h0] (n := nL) hlen
  rw [lg_entry_eq]
  generalize (lg_sl [.ref h0] ++ List.replicate (nL - (lg_sl [.ref h0]).length) Slot.unset).toArray = ls at hl ⊢
  exact hG s.heap [] ls rfl hP (by rw [hsz]; rfl) va_S.rf hl
theorem n_aload_n {E : En} {ow : String} {tb : Tb} {nL pc nx len kc ks : Nat} {lv : Lv} {st : List Value} {cs : List va_E} {x : Nat} {kk : Fin 4} (B : BN E ow tb nL) (i : Nat) (h : tb[i]? = some (pc, .aload_n kk, 1, nx)) (q j : Nat) (hq : (kk : Nat) = q) (hj : lv[j]? = some (q, .ref x)) (k : GN E nL nx lv (.ref x :: st) cs len kc ks) : GN E nL pc lv st cs len kc ks := by
  obtain ⟨p, l, e, R, s, m, args, below, meth, c, Q, D, cI, cZ, cJ, n, lr⟩ := E
  obtain ⟨hd, hn⟩ := BN.dec B h
  subst hn
  intro H locs ls hlen hP hz hS hl
  exact lv_aload_n B.1 rfl hd hq (lv_at hl (lr.length + j) (lvmn hj)) (k H locs ls hlen hP hz hS hl)
theorem n_iconst {E : En} {ow : String} {tb : Tb} {nL pc nx len kc ks : Nat} {lv : Lv} {st : List Value} {cs : List va_E} {z : Int} (v : Int32) (B : BN E ow tb nL) (i : Nat) (h : tb[i]? = some (pc, .iconst z, 1, nx)) (hv : Int32.ofInt z = v) (k : GN E nL nx lv (.int v :: st) cs len kc ks) : GN E nL pc lv st cs len kc ks := by
  obtain ⟨p, l, e, R, s, m, args, below, meth, c, Q, D, cI, cZ, cJ, n, lr⟩ := E
  obtain ⟨hd, hn⟩ := BN.dec B h
  subst hn
  intro H locs ls hlen hP hz hS hl
  exact lv_iconst B.1 rfl hd hv (k H locs ls hlen hP hz hS hl)
theorem n_bipush {E : En} {ow : String} {tb : Tb} {nL pc nx len kc ks : Nat} {lv : Lv} {st : List Value} {cs : List va_E} {z : Int} (v : Int32) (B : BN E ow tb nL) (i : Nat) (h : tb[i]? = some (pc, .bipush z, 2, nx)) (hv : (Int8.ofInt z).toInt32 = v) (k : GN E nL nx lv (.int v :: st) cs len kc ks) : GN E nL pc lv st cs len kc ks := by
  obtain ⟨p, l, e, R, s, m, args, below, meth, c, Q, D, cI, cZ, cJ, n, lr⟩ := E
  obtain ⟨hd, hn⟩ := BN.dec B h
  subst hn
  intro H locs ls hlen hP hz hS hl
  exact lv_bipush B.1 rfl hd hv (k H locs ls hlen hP hz hS hl)
theorem n_sipush {E : En} {ow : String} {tb : Tb} {nL pc nx len kc ks : Nat} {lv : Lv} {st : List Value} {cs : List va_E} {z : Int} (v : Int32) (B : BN E ow tb nL) (i : Nat) (h : tb[i]? = some (pc, .sipush z, 3, nx)) (hv : (Int16.ofInt z).toInt32 = v) (k : GN E nL nx lv (.int v :: st) cs len kc ks) : GN E nL pc lv st cs len kc ks := by
  obtain ⟨p, l, e, R, s, m, args, below, meth, c, Q, D, cI, cZ, cJ, n, lr⟩ := E
  obtain ⟨hd, hn⟩ := BN.dec B h
  subst hn
  intro H locs ls hlen hP hz hS hl
  exact lv_sipush B.1 rfl hd hv (k H locs ls hlen hP hz hS hl)
theorem n_dup {E : En} {ow : String} {tb : Tb} {nL pc nx len kc ks : Nat} {lv : Lv} {st : List Value} {cs : List va_E} {v : Value} (B : BN E ow tb nL) (i : Nat) (h : tb[i]? = some (pc, .dup, 1, nx)) (hv : v.category = 1) (k : GN E nL nx lv (v :: v :: st) cs len kc ks) : GN E nL pc lv (v :: st) cs len kc ks := by
  obtain ⟨p, l, e, R, s, m, args, below, meth, c, Q, D, cI, cZ, cJ, n, lr⟩ := E
  obtain ⟨hd, hn⟩ := BN.dec B h
  subst hn
  intro H locs ls hlen hP hz hS hl
  exact lv_dup B.1 rfl hd ((shv_cat n v).trans hv) (k H locs ls hlen hP hz hS hl)
theorem n_astore_n {E : En} {ow : String} {tb : Tb} {nL pc nx len kc ks : Nat} {lv : Lv} {st : List Value} {cs : List va_E} {x : Nat} {kk : Fin 4} (lv' : Lv) (q : Nat) (hlr : LR E q) (B : BN E ow tb nL) (i : Nat) (h : tb[i]? = some (pc, .astore_n kk, 1, nx)) (hq : (kk : Nat) = q) (hn : q < nL) (hl' : zs1 lv q (.ref x) = lv') (k : GN E nL nx lv' st cs len kc ks) : GN E nL pc lv (.ref x :: st) cs len kc ks := by
  subst hl'
  obtain ⟨p, l, e, R, s, m, args, below, meth, c, Q, D, cI, cZ, cJ, n, lr⟩ := E
  obtain ⟨hd, hn2⟩ := BN.dec B h
  subst hn2
  intro H locs ls hlen hP hz hS hl
  exact lv_astore_n B.1 rfl hd hq hl hn rfl (fun ls' hl' => k H locs ls' hlen hP hz hS (zs1_mapn hlr hl'))
theorem n_istore {E : En} {ow : String} {tb : Tb} {nL pc nx len kc ks : Nat} {lv : Lv} {st : List Value} {cs : List va_E} {x : Int32} {q : Nat} (lv' : Lv) (hlr : LR E q) (B : BN E ow tb nL) (i : Nat) (h : tb[i]? = some (pc, .istore q, 2, nx)) (hn : q < nL) (hl' : zs1 lv q (.int x) = lv') (k : GN E nL nx lv' st cs len kc ks) : GN E nL pc lv (.int x :: st) cs len kc ks := by
  subst hl'
  obtain ⟨p, l, e, R, s, m, args, below, meth, c, Q, D, cI, cZ, cJ, n, lr⟩ := E
  obtain ⟨hd, hn2⟩ := BN.dec B h
  subst hn2
  intro H locs ls hlen hP hz hS hl
  exact lv_istore B.1 rfl hd hl hn rfl (fun ls' hl' => k H locs ls' hlen hP hz hS (zs1_mapn hlr hl'))
theorem n_obj {E : En} {ow : String} {tb : Tb} {nL pc nx len kc ks : Nat} {lv : Lv} {st : List Value} {cs : List va_E} {R : Room} {x idx : Nat} (hR0 : RN E R) (B : BN E ow tb nL) (i : Nat) (h : tb[i]? = some (pc, .invokespecial idx, 3, nx)) (hw : Cond.methodLink ow idx Lib.objectInit ∈ TW ∧ Cond.instanceMethod Lib.objectInit ∈ TW ∧ Cond.code Lib.objectInit ⟨#[0xb1]⟩ 1 none ∈ TW) (hR : 1 ≤ R.frames ∧ 20 ≤ R.locals) (hW : (st.map fun v => v.category).sum ≤ 8) (k : GN E nL nx lv st cs len kc ks) : GN E nL pc lv (.ref x :: st) cs len kc ks := by
  obtain ⟨p, l, e, R', s, m, args, below, meth, c, Q, D, cI, cZ, cJ, n, lr⟩ := E
  obtain rfl : R' = R := hR0
  obtain ⟨hd, hn⟩ := BN.dec B h
  subst hn
  intro H locs ls hlen hP hz hS hl
  have hrl : ((st.map (shv n)).map (fun v => v.category)).sum ≤ 8 := by
    rw [List.map_map]
    have : ((fun v : Value => v.category) ∘ shv n) = fun v => v.category := by funext v; exact shv_cat n v
    rw [this]; exact hW
  refine W.objInit B.1 rfl B.hown (B.tw _ hw.1) (B.tw _ hw.2.1) (B.tw _ hw.2.2) rfl (by rw [B.ml]; exact hl.1) rfl hd hR.1 (by have := hR.2; have := hrl; show 2 * 0 + _ + 12 ≤ _; omega) ?_
  exact k H locs ls hlen hP hz hS hl
theorem n_new {E : En} {ow : String} {tb : Tb} {nL pc nx len kc ks : Nat} {lv : Lv} {st : List Value} {cs : List va_E} {R : Room} {idx N : Nat} {Cn : String} {T : u_T} (ci j0 : Nat) (fs : List Value) (cs2 : List va_E) (len2 kc2 ks2 : Nat) (hR0 : RN E R) (B : BN E ow tb nL) (i : Nat) (h : tb[i]? = some (pc, .new idx, 3, nx)) (hx : zcls[ci]? = some (Cn, T, N)) (hw : Cond.classLink ow idx Cn ∈ TW ∧ Cond.instantiable Cn N ∈ TW ∧ Cond.initialized Cn ∈ TW) (hj : len = j0 ∧ len + 1 = len2) (h2 : cs ++ [.inr (ci, fs)] = cs2) (hfs : ∀ j, j < N → defaultValue (tyA ci j) = vp_V (fs.map (shv 0)) j) (hf2 : ∀ z, fs.map (shv z) = fs.map (shv 0)) (hk : kc + 1 = kc2 ∧ ks + N = ks2 ∧ kc2 ≤ R.cells ∧ ks2 ≤ R.slots) (k : GN E nL nx lv (.ref j0 :: st) cs2 len2 kc2 ks2) : GN E nL pc lv st cs len kc ks := by
  subst h2
  obtain ⟨rfl, rfl⟩ := hj
  obtain ⟨rfl, rfl, hk1, hk2⟩ := hk
  obtain ⟨p, l, e, R', s, m, args, below, meth, c, Q, D, cI, cZ, cJ, n, lr⟩ := E
  obtain rfl : R' = R := hR0
  obtain ⟨hd, hn⟩ := BN.dec B h
  subst hn
  intro H locs ls hlen hP hz hS hl
  obtain ⟨hws, hN, hty, hnm⟩ := zcls_ok hx
  have hKn := B.K.1 ci _ hx
  refine W.newcK B.1 rfl B.hown (B.tw _ hw.1) (B.tw _ hw.2.1) (B.tw _ hw.2.2) rfl hd hk1 hk2 hKn.2.1 rfl fun H1 kC hkC e1 z1 o1 => ?_
  have hkp : ∀ (k : Nat) (x : Nat × va_E), (wsn n cs)[k]? = some x → H1[x.1]? = H[x.1]? := fun k x hx => o1 x.1 ((hP k x hx).lt)
  have hnew : va_P D zcls [(n + cs.length, she n (.inr (ci, fs)))] H1 := by
    intro k x hx2
    have hz0 : k < 1 := (List.getElem?_eq_some_iff.mp hx2).1
    rw [show k = 0 by omega] at hx2
    cases hx2
    refine ⟨_, hx, ?_⟩
    show t_OB (n + cs.length) _ _ _ _ (vp_V (fs.map (shv n)))
    rw [← hz, hf2 n]
    exact (u_born (tyA ci) B.tw hws hKn hkC e1 hty).to hfs
  subst hlen
  have := k H1 locs ls (by rw [List.length_append]; rfl) (by rw [wsn_app]; exact (hP.kept hkp).app hnew) (by rw [z1, hz, List.length_append]; rfl) ⟨Nat.le_trans hS.1 (by omega), fun x h1 h2 => (o1 x (Nat.lt_of_lt_of_le h1 hS.1)).trans (hS.2.1 x h1 h2), hS.2.2⟩ hl
  rw [hz]
  exact this
theorem n_newaI {E : En} {ow : String} {tb : Tb} {nL pc nx len kc ks : Nat} {lv : Lv} {st : List Value} {cs : List va_E} {R : Room} {l0 : Launch} {D0 : va_G} {cI cZ cJ : ClassId} {v : Int32} (N j0 : Nat) (cs2 : List va_E) (len2 kc2 ks2 : Nat) (hR0 : RN E R) (hL : LN E l0 D0 cI cZ cJ) (B : BN E ow tb nL) (i : Nat) (h : tb[i]? = some (pc, .newarray .int, 2, nx)) (hw : Cond.arrayClass .int ∈ TW) (hv : ¬ v < 0 ∧ v.toNatClampNeg = N ∧ N * 8 ≤ 536870912) (hj : len = j0 ∧ len + 1 = len2) (h2 : cs ++ [.inl (cI, N, .inl (fun _ => 0))] = cs2) (hk : kc + 1 = kc2 ∧ ks + N = ks2 ∧ kc2 ≤ R.cells ∧ ks2 ≤ R.slots) (k : GN E nL nx lv (.ref j0 :: st) cs2 len2 kc2 ks2) : GN E nL pc lv (.int v :: st) cs len kc ks := by
  subst h2
  obtain ⟨rfl, rfl⟩ := hj
  obtain ⟨rfl, rfl, hk1, hk2⟩ := hk
  obtain ⟨p, l, e, R', s, m, args, below, meth, c, Q, D, cI', cZ', cJ', n, lr⟩ := E
  obtain rfl : R' = R := hR0
  obtain ⟨rfl, rfl, rfl, rfl, rfl⟩ := hL
  obtain ⟨hd, hn⟩ := BN.dec B h
  subst hn
  intro H locs ls hlen hP hz hS hl
  refine va_newaK B.1 rfl (atype := .int) (B.tw _ hw) rfl hd rfl hv.1 hv.2.1 (Nat.le_trans (Nat.mul_le_mul_left _ (by decide)) hv.2.2) hk1 hk2 rfl fun H1 cA e1 z1 o1 hAr hNm => ?_
  have hcA : cA = cI' := by
    have h1 := (B.K.2 0 _ rfl).2
    have h2 : s.vm.findClass _ = some cI' := h1
    exact Option.some.inj (hNm.symm.trans h2)
  subst hcA
  have hkp : ∀ (k : Nat) (x : Nat × va_E), (wsn n cs)[k]? = some x → H1[x.1]? = H[x.1]? := fun k x hx => o1 x.1 ((hP k x hx).lt)
  have hnew : va_P D zcls [(n + cs.length, she n (.inl (cA, N, .inl (fun _ => 0))))] H1 := by
    intro k x hx2
    have hz0 : k < 1 := (List.getElem?_eq_some_iff.mp hx2).1
    rw [show k = 0 by omega] at hx2
    cases hx2
    show H1[n + cs.length]? = some (vp_cell _ _)
    rw [← hz]
    exact e1
  subst hlen
  have := k H1 locs ls (by rw [List.length_append]; rfl) (by rw [wsn_app]; exact (hP.kept hkp).app hnew) (by rw [z1, hz, List.length_append]; rfl) ⟨Nat.le_trans hS.1 (by omega), fun x h1 h2 => (o1 x (Nat.lt_of_lt_of_le h1 hS.1)).trans (hS.2.1 x h1 h2), hS.2.2⟩ hl
  rw [hz]
  exact this
theorem n_newaZ {E : En} {ow : String} {tb : Tb} {nL pc nx len kc ks : Nat} {lv : Lv} {st : List Value} {cs : List va_E} {R : Room} {l0 : Launch} {D0 : va_G} {cI cZ cJ : ClassId} {v : Int32} (N j0 : Nat) (cs2 : List va_E) (len2 kc2 ks2 : Nat) (hR0 : RN E R) (hL : LN E l0 D0 cI cZ cJ) (B : BN E ow tb nL) (i : Nat) (h : tb[i]? = some (pc, .newarray .boolean, 2, nx)) (hw : Cond.arrayClass .boolean ∈ TW) (hv : ¬ v < 0 ∧ v.toNatClampNeg = N ∧ N * 8 ≤ 536870912) (hj : len = j0 ∧ len + 1 = len2) (h2 : cs ++ [.inl (cZ, N, .inl (fun _ => 0))] = cs2) (hk : kc + 1 = kc2 ∧ ks + N = ks2 ∧ kc2 ≤ R.cells ∧ ks2 ≤ R.slots) (k : GN E nL nx lv (.ref j0 :: st) cs2 len2 kc2 ks2) : GN E nL pc lv (.int v :: st) cs len kc ks := by
  subst h2
  obtain ⟨rfl, rfl⟩ := hj
  obtain ⟨rfl, rfl, hk1, hk2⟩ := hk
  obtain ⟨p, l, e, R', s, m, args, below, meth, c, Q, D, cI', cZ', cJ', n, lr⟩ := E
  obtain rfl : R' = R := hR0
  obtain ⟨rfl, rfl, rfl, rfl, rfl⟩ := hL
  obtain ⟨hd, hn⟩ := BN.dec B h
  subst hn
  intro H locs ls hlen hP hz hS hl
  refine va_newaK B.1 rfl (atype := .boolean) (B.tw _ hw) rfl hd rfl hv.1 hv.2.1 (Nat.le_trans (Nat.mul_le_mul_left _ (by decide)) hv.2.2) hk1 hk2 rfl fun H1 cA e1 z1 o1 hAr hNm => ?_
  have hcA : cA = cZ' := by
    have h1 := (B.K.2 1 _ rfl).2
    have h2 : s.vm.findClass _ = some cZ' := h1
    exact Option.some.inj (hNm.symm.trans h2)
  subst hcA
  have hkp : ∀ (k : Nat) (x : Nat × va_E), (wsn n cs)[k]? = some x → H1[x.1]? = H[x.1]? := fun k x hx => o1 x.1 ((hP k x hx).lt)
  have hnew : va_P D zcls [(n + cs.length, she n (.inl (cA, N, .inl (fun _ => 0))))] H1 := by
    intro k x hx2
    have hz0 : k < 1 := (List.getElem?_eq_some_iff.mp hx2).1
    rw [show k = 0 by omega] at hx2
    cases hx2
    show H1[n + cs.length]? = some (vp_cell _ _)
    rw [← hz]
    exact e1
  subst hlen
  have := k H1 locs ls (by rw [List.length_append]; rfl) (by rw [wsn_app]; exact (hP.kept hkp).app hnew) (by rw [z1, hz, List.length_append]; rfl) ⟨Nat.le_trans hS.1 (by omega), fun x h1 h2 => (o1 x (Nat.lt_of_lt_of_le h1 hS.1)).trans (hS.2.1 x h1 h2), hS.2.2⟩ hl
  rw [hz]
  exact this
theorem n_newaJ {E : En} {ow : String} {tb : Tb} {nL pc nx len kc ks : Nat} {lv : Lv} {st : List Value} {cs : List va_E} {R : Room} {l0 : Launch} {D0 : va_G} {cI cZ cJ : ClassId} {v : Int32} (N j0 : Nat) (cs2 : List va_E) (len2 kc2 ks2 : Nat) (hR0 : RN E R) (hL : LN E l0 D0 cI cZ cJ) (B : BN E ow tb nL) (i : Nat) (h : tb[i]? = some (pc, .newarray .long, 2, nx)) (hw : Cond.arrayClass .long ∈ TW) (hv : ¬ v < 0 ∧ v.toNatClampNeg = N ∧ N * 8 ≤ 536870912) (hj : len = j0 ∧ len + 1 = len2) (h2 : cs ++ [.inl (cJ, N, .inr (.inl (fun _ => 0)))] = cs2) (hk : kc + 1 = kc2 ∧ ks + N = ks2 ∧ kc2 ≤ R.cells ∧ ks2 ≤ R.slots) (k : GN E nL nx lv (.ref j0 :: st) cs2 len2 kc2 ks2) : GN E nL pc lv (.int v :: st) cs len kc ks := by
  subst h2
  obtain ⟨rfl, rfl⟩ := hj
  obtain ⟨rfl, rfl, hk1, hk2⟩ := hk
  obtain ⟨p, l, e, R', s, m, args, below, meth, c, Q, D, cI', cZ', cJ', n, lr⟩ := E
  obtain rfl : R' = R := hR0
  obtain ⟨rfl, rfl, rfl, rfl, rfl⟩ := hL
  obtain ⟨hd, hn⟩ := BN.dec B h
  subst hn
  intro H locs ls hlen hP hz hS hl
  refine va_newaK B.1 rfl (atype := .long) (B.tw _ hw) rfl hd rfl hv.1 hv.2.1 (Nat.le_trans (Nat.mul_le_mul_left _ (by decide)) hv.2.2) hk1 hk2 rfl fun H1 cA e1 z1 o1 hAr hNm => ?_
  have hcA : cA = cJ' := by
    have h1 := (B.K.2 2 _ rfl).2
    have h2 : s.vm.findClass _ = some cJ' := h1
    exact Option.some.inj (hNm.symm.trans h2)
  subst hcA
  have hkp : ∀ (k : Nat) (x : Nat × va_E), (wsn n cs)[k]? = some x → H1[x.1]? = H[x.1]? := fun k x hx => o1 x.1 ((hP k x hx).lt)
  have hnew : va_P D zcls [(n + cs.length, she n (.inl (cA, N, .inr (.inl (fun _ => 0)))))] H1 := by
    intro k x hx2
    have hz0 : k < 1 := (List.getElem?_eq_some_iff.mp hx2).1
    rw [show k = 0 by omega] at hx2
    cases hx2
    show H1[n + cs.length]? = some (vp_cell _ _)
    rw [← hz]
    exact e1
  subst hlen
  have := k H1 locs ls (by rw [List.length_append]; rfl) (by rw [wsn_app]; exact (hP.kept hkp).app hnew) (by rw [z1, hz, List.length_append]; rfl) ⟨Nat.le_trans hS.1 (by omega), fun x h1 h2 => (o1 x (Nat.lt_of_lt_of_le h1 hS.1)).trans (hS.2.1 x h1 h2), hS.2.2⟩ hl
  rw [hz]
  exact this
theorem n_putF {E : En} {ow : String} {tb : Tb} {nL pc nx len kc ks : Nat} {lv : Lv} {st : List Value} {cs : List va_E} {idx : Nat} {v : Value} {fs : List Value} (ci kf j : Nat) (cs2 : List va_E) (B : BN E ow tb nL) (i : Nat) (h : tb[i]? = some (pc, .putfield idx, 3, nx)) {rn nm d : String} (hw : Cond.fieldLink ow idx rn nm d ∈ TW) (hf : zfl ci kf = some (rn, nm, d)) {ty : FieldType} (hd0 : parseFieldDescriptor d = some ty) (hfin : zfin ci kf = true) (hI : IN E) (hdecl : rn = ow) (hv : ∀ z, narrow ty (shv z v) = shv z v ∧ fits ty (shv z v) = true) (he : cs[j]? = some (.inr (ci, fs))) (hl0 : kf < fs.length) (h2 : cs.set j (.inr (ci, fs.set kf v)) = cs2) (k : GN E nL nx lv st cs2 len kc ks) : GN E nL pc lv (v :: .ref j :: st) cs len kc ks := by
  subst h2
  obtain ⟨p, l, e, R, s, m, args, below, meth, c, Q, D, cI, cZ, cJ, n, lr⟩ := E
  obtain ⟨hd, hn⟩ := BN.dec B h
  subst hn
  intro H locs ls hlen hP hz hS hl
  obtain ⟨⟨Cn, T, N⟩, hx, hkN, rfl, rfl, rfl⟩ := zfl_spec hf
  obtain ⟨hws, hN, hty, hnm⟩ := zcls_ok hx
  have hfin' : (T kf).2.2.2 = true := by unfold zfin at hfin; rw [hx] at hfin; exact hfin
  have he' := wsn_get (n := n) he
  have hap := va_apart (own := ow) B.tw hws (tyA ci) hty hnm B.K hx
  obtain ⟨r, h1, cell, q1, q2, q3, q4⟩ := hP j _ he'
  have hr : r = (Cn, T, N) := Option.some.inj (h1.symm.trans hx)
  subst hr
  obtain ⟨hSl, hfc, kC, hkC, hkind⟩ := B.K.1 ci _ hx
  obtain ⟨cf, kk9, fi, f, hi, hsl⟩ := hSl kf hkN
  have hst := (u_facts hfc hkC (u_lays B.tw hws hkN) hi).1
  have hlay := B.tw _ (hws _ (u_in_lay hkN))
  unfold u_lay at hlay
  rw [if_pos hfin'] at hlay
  have hcf : m.cls = cf := by
    obtain ⟨_, _, c', _, _, _, -, -, hf', -, -, -, hown2, -⟩ := Cond.laysFinal_spec hlay
    have e1 : c' = cf := by have := hi.symm.trans hf'; simp at this; exact this.1.symm
    rw [hdecl] at hown2
    rw [← e1]; exact Option.some.inj (B.hown.symm.trans hown2)
  have h6 := u_fits hfc hkC hkind (Or.inr hlay) hi hd0 (hv n).1 (hv n).2
  refine W.putFinK B.1 rfl B.hown (B.tw _ hw) hi hst hcf hI (by rw [q2]; exact h6) q1 q3 (by rw [hsl]; exact k2_hasslot (q4 kf hkN)) rfl rfl hd fun H1 e1 e2 e3 => ?_
  rw [hsl] at e1 ⊢
  have hP1 : va_P D zcls ((wsn n cs).set j (n + j, .inr (ci, (fs.map (shv n)).set kf (shv n v)))) H1 := hP.set (wsn_D n cs) he' ⟨_, hx, t_OB.to (V := updV (vp_V (fs.map (shv n))) kf (shv n v)) ⟨_, e1, q2, q3, t_set q4 hap hkN (shv n v)⟩ (fun i _ => vp_updV_set (by rw [List.length_map]; exact hl0) (shv n v) i)⟩ e3
  have hset : (fs.map (shv n)).set kf (shv n v) = (fs.set kf v).map (shv n) := by rw [List.map_set]
  rw [hset] at hP1
  have hP1 : va_P D zcls ((wsn n cs).set j (n + j, she n (.inr (ci, fs.set kf v)))) H1 := hP1
  rw [wsn_set] at hP1
  exact k H1 _ ls (by rw [List.length_set]; exact hlen) hP1 (by rw [List.length_set]; omega) (hS.put e2 e3 (Nat.le_add_right n j)) hl
theorem n_put {E : En} {ow : String} {tb : Tb} {nL pc nx len kc ks : Nat} {lv : Lv} {st : List Value} {cs : List va_E} {idx : Nat} {v : Value} {fs : List Value} (ci kf j : Nat) (cs2 : List va_E) (B : BN E ow tb nL) (i : Nat) (h : tb[i]? = some (pc, .putfield idx, 3, nx)) {rn nm d : String} (hw : Cond.fieldLink ow idx rn nm d ∈ TW) (hf : zfl ci kf = some (rn, nm, d)) {ty : FieldType} (hd0 : parseFieldDescriptor d = some ty) (hfin : zfin ci kf = false) (hv : ∀ z, narrow ty (shv z v) = shv z v ∧ fits ty (shv z v) = true) (he : cs[j]? = some (.inr (ci, fs))) (hl0 : kf < fs.length) (h2 : cs.set j (.inr (ci, fs.set kf v)) = cs2) (k : GN E nL nx lv st cs2 len kc ks) : GN E nL pc lv (v :: .ref j :: st) cs len kc ks := by
  subst h2
  obtain ⟨p, l, e, R, s, m, args, below, meth, c, Q, D, cI, cZ, cJ, n, lr⟩ := E
  obtain ⟨hd, hn⟩ := BN.dec B h
  subst hn
  intro H locs ls hlen hP hz hS hl
  obtain ⟨⟨Cn, T, N⟩, hx, hkN, rfl, rfl, rfl⟩ := zfl_spec hf
  obtain ⟨hws, hN, hty, hnm⟩ := zcls_ok hx
  have hfin' : (T kf).2.2.2 = false := by unfold zfin at hfin; rw [hx] at hfin; exact hfin
  have he' := wsn_get (n := n) he
  have hap := va_apart (own := ow) B.tw hws (tyA ci) hty hnm B.K hx
  obtain ⟨r, h1, cell, q1, q2, q3, q4⟩ := hP j _ he'
  have hr : r = (Cn, T, N) := Option.some.inj (h1.symm.trans hx)
  subst hr
  obtain ⟨hSl, hfc, kC, hkC, hkind⟩ := B.K.1 ci _ hx
  obtain ⟨cf, kk9, fi, f, hi, hsl⟩ := hSl kf hkN
  have hst := (u_facts hfc hkC (u_lays B.tw hws hkN) hi).1
  have hlay := B.tw _ (hws _ (u_in_lay hkN))
  unfold u_lay at hlay
  rw [if_neg (by rw [hfin']; decide)] at hlay
  have h6 := u_store hfc hkC hkind hlay hi hd0 (hv n).1 (hv n).2
  refine W.putK B.1 rfl (f := f) ⟨B.hown, B.tw _ hw, ⟨_, _, _, hi⟩, hst⟩ (by rw [q2]; exact h6) q1 q3 (by rw [hsl]; exact k2_hasslot (q4 kf hkN)) rfl rfl hd fun H1 e1 e2 e3 => ?_
  rw [hsl] at e1 ⊢
  have hP1 : va_P D zcls ((wsn n cs).set j (n + j, .inr (ci, (fs.map (shv n)).set kf (shv n v)))) H1 := hP.set (wsn_D n cs) he' ⟨_, hx, t_OB.to (V := updV (vp_V (fs.map (shv n))) kf (shv n v)) ⟨_, e1, q2, q3, t_set q4 hap hkN (shv n v)⟩ (fun i _ => vp_updV_set (by rw [List.length_map]; exact hl0) (shv n v) i)⟩ e3
  have hset : (fs.map (shv n)).set kf (shv n v) = (fs.set kf v).map (shv n) := by rw [List.map_set]
  rw [hset] at hP1
  have hP1 : va_P D zcls ((wsn n cs).set j (n + j, she n (.inr (ci, fs.set kf v)))) H1 := hP1
  rw [wsn_set] at hP1
  exact k H1 _ ls (by rw [List.length_set]; exact hlen) hP1 (by rw [List.length_set]; omega) (hS.put e2 e3 (Nat.le_add_right n j)) hl
theorem n_get {E : En} {ow : String} {tb : Tb} {nL pc nx len kc ks : Nat} {lv : Lv} {st : List Value} {cs : List va_E} {idx q2 : Nat} {fs : List Value} (ci kf j : Nat) (B : BN E ow tb nL) (i : Nat) (h : tb[i]? = some (pc, .getfield idx, 3, nx)) {rn nm d : String} (hw : Cond.fieldLink ow idx rn nm d ∈ TW) (hf : zfl ci kf = some (rn, nm, d)) (he : cs[j]? = some (.inr (ci, fs))) (hv : fs[kf]? = some (.ref q2)) (k : GN E nL nx lv (.ref q2 :: st) cs len kc ks) : GN E nL pc lv (.ref j :: st) cs len kc ks := by
  obtain ⟨p, l, e, R, s, m, args, below, meth, c, Q, D, cI, cZ, cJ, n, lr⟩ := E
  obtain ⟨hd, hn⟩ := BN.dec B h
  subst hn
  intro H locs ls hlen hP hz hS hl
  obtain ⟨⟨Cn, T, N⟩, hx, hkN, rfl, rfl, rfl⟩ := zfl_spec hf
  obtain ⟨hws, hN, hty, hnm⟩ := zcls_ok hx
  exact va_get (C := Cn) (T := T) (N := N) (fs := fs.map (shv n)) B.1 rfl B.tw hws B.hown B.K hP j (wsn_get he) hx kf hkN (B.tw _ hw) (fun _ h => h) (v := .ref (n + q2)) (by rw [List.getElem?_map, hv]; rfl) hd (k H locs ls hlen hP hz hS hl)
theorem n_iast {E : En} {ow : String} {tb : Tb} {nL pc nx len kc ks : Nat} {lv : Lv} {st : List Value} {cs : List va_E} {R : Room} {l0 : Launch} {D0 : va_G} {cI cZ cJ : ClassId} {N : Nat} {f : Nat → Int32} {x v : Int32} (j : Nat) (cs2 : List va_E) (hL : LN E l0 D0 cI cZ cJ) (B : BN E ow tb nL) (i : Nat) (h : tb[i]? = some (pc, .iastore, 1, nx)) (he : cs[j]? = some (.inl (cI, N, .inl f))) (hx : vp_in x N) (h2 : cs.set j (.inl (cI, N, .inl (upd f x.toNatClampNeg v))) = cs2) (k : GN E nL nx lv st cs2 len kc ks) : GN E nL pc lv (.int v :: .int x :: .ref j :: st) cs len kc ks := by
  subst h2
  obtain ⟨p, l, e, R', s, m, args, below, meth, c, Q, D, cI', cZ', cJ', n, lr⟩ := E
  obtain ⟨rfl, rfl, rfl, rfl, rfl⟩ := hL
  obtain ⟨hd, hn⟩ := BN.dec B h
  subst hn
  intro H locs ls hlen hP hz hS hl
  have he' := wsn_get (n := n) he
  refine W.iast B.1 rfl (hP j _ he') ((B.K.2 0 _ rfl).1 N (fun i => .int (f i))) (fun q => by cases q) (by show ¬ (x < 0 ∨ (arrV _ _ _).slots.size ≤ _); rw [arrV_size]; exact hx) rfl rfl hd fun H1 e1 z1 oq => ?_
  have hP1 : va_P D zcls ((wsn n cs).set j (n + j, .inl (cI', N, .inl (upd f x.toNatClampNeg v)))) H1 := by
    refine hP.set (wsn_D n cs) he' ?_ oq
    show H1[n + j]? = some (vp_cell _ _)
    rw [e1]
    rw [vp_cell_i, vp_cell_i, arrV_store]
    congr 2
    funext q
    by_cases hq : q = x.toNatClampNeg
    · subst hq
      simp [updV, upd]
    · simp [updV, upd, hq]
  have hP1 : va_P D zcls ((wsn n cs).set j (n + j, she n (.inl (cI', N, .inl (upd f x.toNatClampNeg v))))) H1 := hP1
  rw [wsn_set] at hP1
  exact k H1 _ ls (by rw [List.length_set]; exact hlen) hP1 (by rw [List.length_set]; omega) (hS.put z1 oq (Nat.le_add_right n j)) hl
theorem n_vret {E : En} {ow : String} {tb : Tb} {nL pc nx len kc ks : Nat} {lv : Lv} {cs : List va_E} {blk : List va_E} {mc ms : Nat} (B : BN E ow tb nL) (i : Nat) (h : tb[i]? = some (pc, .return_, 1, nx)) (hQ : RtN E blk mc ms) (hb : cs = blk ∧ kc = mc ∧ ks = ms) : GN E nL pc lv [] cs len kc ks := by
  obtain ⟨p, l, e, R, s, m, args, below, meth, c, Q, D, cI, cZ, cJ, n, lr⟩ := E
  obtain ⟨hd, hn⟩ := BN.dec B h
  subst hn
  intro H locs ls hlen hP hz hS hl
  obtain ⟨hQ, hrt⟩ := hQ
  obtain ⟨rfl, rfl, rfl⟩ := hb
  have hQ : Q = _ := hQ
  subst hQ
  exact W.vret B.1 rfl hrt (fun t ht hW => ⟨rfl, by rw [ht]; exact hP, by rw [ht]; exact hz, hS.F ht⟩) hS.2.2 hd B.lk
theorem n_callO {E : En} {ow : String} {tb : Tb} {nL pc nx len kc ks : Nat} {lv : Lv} {st : List Value} {cs : List va_E} {R : Room} {l0 : Launch} {D0 : va_G} {cI cZ cJ : ClassId} {y : MethodName} {bytes : ByteArray} {maxL fr lo idx mc ms : Nat} {e0 : va_E} {blk : List va_E} (j0 : Nat) (cs0 cs2 : List va_E) (len2 kc2 ks2 : Nat) (hR0 : RN E R) (hL : LN E l0 D0 cI cZ cJ) (B : BN E ow tb nL) (i : Nat) (h : tb[i]? = some (pc, .invokespecial idx, 3, nx)) (hM : MI y bytes maxL none 0) (hw : Cond.methodLink ow idx y ∈ TW) (hin : Cond.instanceMethod y ∈ TW) (hnm : y.name = "<init>") (hc : CtN l0 D0 cI cZ cJ y bytes maxL fr lo e0 blk mc ms) (hR : fr + 1 ≤ R.frames ∧ 8 + (maxL + 11) + lo ≤ R.locals ∧ kc + mc = kc2 ∧ ks + ms = ks2 ∧ kc2 ≤ R.cells ∧ ks2 ≤ R.slots) (hcs : cs = cs0 ++ [e0]) (bl : Nat) (hj : j0 + 1 = len ∧ blk.length = bl ∧ j0 + bl = len2) (he0 : ∀ z, she z e0 = e0) (h2 : cs0 ++ blk.map (she j0) = cs2) (hW : (st.map fun v => v.category).sum ≤ 8) (k : GN E nL nx lv st cs2 len2 kc2 ks2) : GN E nL pc lv (.ref j0 :: st) cs len kc ks := by
  subst h2
  subst hcs
  obtain ⟨hj1, hj2, hj3⟩ := hj
  obtain ⟨p, l, e, R', s, m, args, below, meth, c, Q, D, cI', cZ', cJ', n, lr⟩ := E
  obtain rfl : R' = R := hR0
  obtain ⟨rfl, rfl, rfl, rfl, rfl⟩ := hL
  obtain ⟨hd, hn⟩ := BN.dec B h
  subst hn
  intro H locs ls hlen hP hz hS hl
  rw [List.length_append] at hz hlen
  have hj : cs0.length = j0 := by
    have h1 : cs0.length + 1 = len := hlen
    omega
  subst hj
  have hrl : ((st.map (shv n)).map (fun v => v.category)).sum ≤ 8 := by
    rw [List.map_map]
    have : ((fun v : Value => v.category) ∘ shv n) = fun v => v.category := by funext v; exact shv_cat n v
    rw [this]; exact hW
  have hPl : va_P D zcls (wsn (n + cs0.length) [e0]) H := by
    intro k q hq
    obtain ⟨x, hx, rfl⟩ := wsn_at hq
    have h0 : k < 1 := (List.getElem?_eq_some_iff.mp hx).1
    rw [show k = 0 by omega] at hx ⊢
    cases hx
    have h1 := hP cs0.length _ (wsn_get (n := n) (by rw [List.getElem?_append_right (Nat.le_refl _), Nat.sub_self]; rfl))
    rw [he0] at h1
    rw [he0]
    exact h1
  have hrun := va_runI (As := []) (b := n + cs0.length) (rest := st.map (shv n)) (g := F0 m pc ls (.ref (n + cs0.length) :: st.map (shv n))) (cells := kc) (slots := ks) (locs := locs) (H := H) (e := e) (below := below) (meth := meth) ⟨B.1, rfl, B.ml, B.hown, B.tw⟩ (hc (n + cs0.length)) ⟨callB_of 0 B.tw (tw_good hM.1) rfl rfl rfl (B.tw _ hM.2.2.2) (B.tw _ hw) hM.2.2.1 ⟨hR.1, hR.2.1⟩, hnm, B.tw _ hin⟩ ⟨fun a U g mk q => ⟨q.1, q.2.1, q.2.2.1, va_K.moved (u := U) (U := U.calling g mk a) (Vm.Alike.refl U.vm) q.2.2.2.1, fun x m => va_Nw.same rfl (u := U) (U := U.calling g mk a) rfl (q.2.2.2.2 x m)⟩, fun U hU hW => ⟨rfl, by rw [hU, hz]; rfl, by rw [hU]; exact hPl, va_K.moved hW.alike B.K, fun x m => (B.hnx x m).warmM hW⟩⟩ rfl rfl hl.1 rfl (lv_room hrl) hd (by have := hR.2.2; omega)
  intro T hT Y
  obtain ⟨v, st₀, t, T', L, h0, X', hL, e1, e2, ⟨hv, hP1, hz1, hF⟩, hst⟩ := hrun T hT Y
  cases hv
  have hAA : ∀ q, (n + cs0.length ≤ q) → n ≤ q := fun q h => by omega
  obtain ⟨g1, g2, hS1⟩ := vx_keep h0 e1 hS (fun q _ h => hAA q h) hAA hL hF
  have hP2 : va_P D zcls (wsn n (cs0 ++ blk.map (she cs0.length))) T'.heap := by
    intro k q hq
    obtain ⟨x, hx, rfl⟩ := wsn_at hq
    by_cases hk : k < cs0.length
    · rw [List.getElem?_append_left hk] at hx
      refine (hP k _ (wsn_get (n := n) (x := x) (by rw [List.getElem?_append_left hk]; exact hx))).kept ?_
      exact g2 (n + k) (by omega) (by show ¬ _ ≤ _; omega)
    · rw [List.getElem?_append_right (by omega), List.getElem?_map] at hx
      cases hb : blk[k - cs0.length]? with
      | none => rw [hb] at hx; cases hx
      | some b =>
        rw [hb] at hx
        cases hx
        rw [she_she, show n + k = n + cs0.length + (k - cs0.length) by omega, e1]
        exact hP1 _ _ (wsn_get hb)
  have hgo := k T'.heap (locs ++ L) ls (by rw [List.length_append, List.length_map]; omega) hP2 (by rw [e1, hz1, List.length_append, List.length_map]; omega) hS1 hl
  have hr3 := hR.2.2
  rw [← hr3.1, ← hr3.2.1] at hgo
  obtain ⟨t2, a1, b1⟩ := hgo T' rfl X'
  exact ⟨t2, hst t2 a1, b1⟩
theorem n_callN {E : En} {ow : String} {tb : Tb} {nL pc nx len kc ks : Nat} {lv : Lv} {st : List Value} {cs : List va_E} {R : Room} {l0 : Launch} {D0 : va_G} {cI cZ cJ : ClassId} {y : MethodName} {bytes : ByteArray} {maxL fr lo idx mc ms : Nat} {host : String} {e0 : va_E} {blk : List va_E} (j0 : Nat) (cs0 cs2 : List va_E) (len2 kc2 ks2 : Nat) (hR0 : RN E R) (hL : LN E l0 D0 cI cZ cJ) (B : BN E ow tb nL) (i : Nat) (h : tb[i]? = some (pc, .invokespecial idx, 3, nx)) (hM : MI y bytes maxL none 0) (hw : (ow, idx, y, host) ∈ zns) (hin : Cond.instanceMethod y ∈ TW) (hnm : y.name = "<init>") (hc : CtN l0 D0 cI cZ cJ y bytes maxL fr lo e0 blk mc ms) (hR : fr + 1 ≤ R.frames ∧ 8 + (maxL + 11) + lo ≤ R.locals ∧ kc + mc = kc2 ∧ ks + ms = ks2 ∧ kc2 ≤ R.cells ∧ ks2 ≤ R.slots) (hcs : cs = cs0 ++ [e0]) (bl : Nat) (hj : j0 + 1 = len ∧ blk.length = bl ∧ j0 + bl = len2) (he0 : ∀ z, she z e0 = e0) (h2 : cs0 ++ blk.map (she j0) = cs2) (hW : (st.map fun v => v.category).sum ≤ 8) (k : GN E nL nx lv st cs2 len2 kc2 ks2) : GN E nL pc lv (.ref j0 :: st) cs len kc ks := by
  subst h2
  subst hcs
  obtain ⟨hj1, hj2, hj3⟩ := hj
  obtain ⟨p, l, e, R', s, m, args, below, meth, c, Q, D, cI', cZ', cJ', n, lr⟩ := E
  obtain rfl : R' = R := hR0
  obtain ⟨rfl, rfl, rfl, rfl, rfl⟩ := hL
  obtain ⟨hd, hn⟩ := BN.dec B h
  subst hn
  intro H locs ls hlen hP hz hS hl
  rw [List.length_append] at hz hlen
  have hj : cs0.length = j0 := by
    have h1 : cs0.length + 1 = len := hlen
    omega
  subst hj
  have hrl : ((st.map (shv n)).map (fun v => v.category)).sum ≤ 8 := by
    rw [List.map_map]
    have : ((fun v : Value => v.category) ∘ shv n) = fun v => v.category := by funext v; exact shv_cat n v
    rw [this]; exact hW
  have hPl : va_P D zcls (wsn (n + cs0.length) [e0]) H := by
    intro k q hq
    obtain ⟨x, hx, rfl⟩ := wsn_at hq
    have h0 : k < 1 := (List.getElem?_eq_some_iff.mp hx).1
    rw [show k = 0 by omega] at hx ⊢
    cases hx
    have h1 := hP cs0.length _ (wsn_get (n := n) (by rw [List.getElem?_append_right (Nat.le_refl _), Nat.sub_self]; rfl))
    rw [he0] at h1
    rw [he0]
    exact h1
  have hrun := va_runIN (As := []) (b := n + cs0.length) (rest := st.map (shv n)) (g := F0 m pc ls (.ref (n + cs0.length) :: st.map (shv n))) (cells := kc) (slots := ks) (locs := locs) (H := H) (e := e) (below := below) (meth := meth) ⟨B.1, rfl, B.ml, B.hown, B.tw⟩ (hc (n + cs0.length)) ⟨va_cnB 0 B.tw (tw_good hM.1) rfl rfl rfl (B.hnx _ hw) (B.tw _ hM.2.2.2) hM.2.2.1 ⟨hR.1, hR.2.1⟩, hnm, B.tw _ hin⟩ ⟨fun a U g mk q => ⟨q.1, q.2.1, q.2.2.1, va_K.moved (u := U) (U := U.calling g mk a) (Vm.Alike.refl U.vm) q.2.2.2.1, fun x m => va_Nw.same rfl (u := U) (U := U.calling g mk a) rfl (q.2.2.2.2 x m)⟩, fun U hU hW => ⟨rfl, by rw [hU, hz]; rfl, by rw [hU]; exact hPl, va_K.moved hW.alike B.K, fun x m => (B.hnx x m).warmM hW⟩⟩ rfl rfl hl.1 rfl (lv_room hrl) hd (by have := hR.2.2; omega)
  intro T hT Y
  obtain ⟨v, st₀, t, T', L, h0, X', hL, e1, e2, ⟨hv, hP1, hz1, hF⟩, hst⟩ := hrun T hT Y
  cases hv
  have hAA : ∀ q, (n + cs0.length ≤ q) → n ≤ q := fun q h => by omega
  obtain ⟨g1, g2, hS1⟩ := vx_keep h0 e1 hS (fun q _ h => hAA q h) hAA hL hF
  have hP2 : va_P D zcls (wsn n (cs0 ++ blk.map (she cs0.length))) T'.heap := by
    intro k q hq
    obtain ⟨x, hx, rfl⟩ := wsn_at hq
    by_cases hk : k < cs0.length
    · rw [List.getElem?_append_left hk] at hx
      refine (hP k _ (wsn_get (n := n) (x := x) (by rw [List.getElem?_append_left hk]; exact hx))).kept ?_
      exact g2 (n + k) (by omega) (by show ¬ _ ≤ _; omega)
    · rw [List.getElem?_append_right (by omega), List.getElem?_map] at hx
      cases hb : blk[k - cs0.length]? with
      | none => rw [hb] at hx; cases hx
      | some b =>
        rw [hb] at hx
        cases hx
        rw [she_she, show n + k = n + cs0.length + (k - cs0.length) by omega, e1]
        exact hP1 _ _ (wsn_get hb)
  have hgo := k T'.heap (locs ++ L) ls (by rw [List.length_append, List.length_map]; omega) hP2 (by rw [e1, hz1, List.length_append, List.length_map]; omega) hS1 hl
  have hr3 := hR.2.2
  rw [← hr3.1, ← hr3.2.1] at hgo
  obtain ⟨t2, a1, b1⟩ := hgo T' rfl X'
  exact ⟨t2, hst t2 a1, b1⟩
end
section
/-! ZoneCapacity.put([III)V -/
def tbX6_put : Tb := [(0, .aload_n 0, 1, 1), (1, .ifnull 17, 3, 4), (4, .iload_n 1, 1, 5), (5, .ifCond .lt 13, 3, 8), (8, .iload_n 1, 1, 9), (9, .aload_n 0, 1, 10), (10, .arraylength, 1, 11), (11, .if_icmp .ge 7, 3, 14), (14, .aload_n 0, 1, 15), (15, .iload_n 1, 1, 16), (16, .iload_n 2, 1, 17), (17, .iastore, 1, 18), (18, .return_, 1, 19)]
theorem dtX6_put : ∀ q ∈ tbX6_put, decode cX6_put q.1 = .ok (q.2.1, q.2.2.1) ∧ q.1 + q.2.2.1 = q.2.2.2 := by decide +kernel
theorem miX6_put : MI yX6_put cX6_put 3 none 3 := ⟨tw_mem (List.mem_of_getElem? (i := 116) (by decide +kernel)) rfl, by decide, by decide +kernel, tw_mem (List.mem_of_getElem? (i := 71) (by decide +kernel)) rfl⟩
abbrev rmX6_put : Room := { frames := 0, cells := 0, slots := 0, locals := 0 }
def f6_put (mm : Mem) (a0 : Nat) (a1 : Int32) (a2 : Int32) : Option Mem := if a1 < 0 then some mm else if a1 < (nI (ln a0)) then rdc a0 a1 (nm (up2 mm a0 a1.toNatClampNeg a2) (fun m1 => some m1)) else some mm
theorem ctX6_put {l : Launch} {C : Cfg} (hj : Dj C) {mm : Mem} {a0 : Nat} {a1 : Int32} {a2 : Int32} {x : Mem} (o_a0 : Ob a0 8) (hf : f6_put mm a0 a1 a2 = some x) : Ct l C yX6_put cX6_put 3 none 0 0 [.ref a0, .int a1, .int a2] mm none x := by
  refine Ct.of (tb := tbX6_put) hj miX6_put.2.1 miX6_put.1 dtX6_put (Nat.le_of_ble_eq_true rfl) ?_
  intro E B hQ hr X
  unfold f6_put at hf
  show G E 3 0 [(0, .ref a0), (1, .int a1), (2, .int a2)] [] mm
  refine z_aload_n B 0 rfl 0 0 rfl rfl ?_
  refine z_ifnull B 1 rfl ?_
  refine z_iload_n B 2 rfl 1 1 rfl rfl ?_
  by_cases hc : a1 < 0
  · replace hf := (if_pos hc).symm.trans hf
    refine z_if_lt_t B 3 rfl 18 (by decide) hc ?_
    cases hf
    exact z_vret B 12 rfl hQ hr
  · replace hf := (if_neg hc).symm.trans hf
    refine z_if_lt_f B 3 rfl 18 (by decide) hc ?_
    refine z_iload_n B 4 rfl 1 1 rfl rfl ?_
    refine z_aload_n B 5 rfl 0 0 rfl rfl ?_
    refine z_alen B 6 rfl o_a0 ?_
    by_cases hc : a1 < (nI (ln a0))
    · replace hf := (if_pos hc).symm.trans hf
      refine z_icmp_ge_f B 7 rfl 18 (by decide) hc ?_
      refine z_aload_n B 8 rfl 0 0 rfl rfl ?_
      refine z_iload_n B 9 rfl 1 1 rfl rfl ?_
      refine z_iload_n B 10 rfl 2 2 rfl rfl ?_
      obtain ⟨hx, hf⟩ := rdc_e hf
      refine z_iast B 11 rfl o_a0 hx ?_
      obtain ⟨m1, ex, hf⟩ := nm_x hf
      refine z_mem ex ?_
      cases hf
      exact z_vret B 12 rfl hQ hr
    · replace hf := (if_neg hc).symm.trans hf
      refine z_icmp_ge_t B 7 rfl 18 (by decide) hc ?_
      cases hf
      exact z_vret B 12 rfl hQ hr
/-! ZoneCapacity.at([II)I -/
def tbX6_at : Tb := [(0, .aload_n 0, 1, 1), (1, .ifnull 19, 3, 4), (4, .iload_n 1, 1, 5), (5, .ifCond .lt 15, 3, 8), (8, .iload_n 1, 1, 9), (9, .aload_n 0, 1, 10), (10, .arraylength, 1, 11), (11, .if_icmp .ge 9, 3, 14), (14, .aload_n 0, 1, 15), (15, .iload_n 1, 1, 16), (16, .iaload, 1, 17), (17, .goto 4, 3, 20), (20, .iconst 0, 1, 21), (21, .ireturn, 1, 22)]
theorem dtX6_at : ∀ q ∈ tbX6_at, decode cX6_at q.1 = .ok (q.2.1, q.2.2.1) ∧ q.1 + q.2.2.1 = q.2.2.2 := by decide +kernel
theorem miX6_at : MI yX6_at cX6_at 2 (some .int) 2 := ⟨tw_mem (List.mem_of_getElem? (i := 388) (by decide +kernel)) rfl, by decide, by decide +kernel, tw_mem (List.mem_of_getElem? (i := 71) (by decide +kernel)) rfl⟩
abbrev rmX6_at : Room := { frames := 0, cells := 0, slots := 0, locals := 0 }
def f6_at (mm : Mem) (a0 : Nat) (a1 : Int32) : Option Int32 := if a1 < 0 then some ((0 : Int32)) else if a1 < (nI (ln a0)) then rdc a0 a1 (nm (mm a0 a1.toNatClampNeg) (fun v1 => some (v1))) else some ((0 : Int32))
theorem ctX6_at {l : Launch} {C : Cfg} (hj : Dj C) {mm : Mem} {a0 : Nat} {a1 : Int32} {x : Int32} (o_a0 : Ob a0 8) (hf : f6_at mm a0 a1 = some x) : Ct l C yX6_at cX6_at 2 (some .int) 0 0 [.ref a0, .int a1] mm (some (.int x)) mm := by
  refine Ct.of (tb := tbX6_at) hj miX6_at.2.1 miX6_at.1 dtX6_at (Nat.le_of_ble_eq_true rfl) ?_
  intro E B hQ hr X
  unfold f6_at at hf
  show G E 2 0 [(0, .ref a0), (1, .int a1)] [] mm
  refine z_aload_n B 0 rfl 0 0 rfl rfl ?_
  refine z_ifnull B 1 rfl ?_
  refine z_iload_n B 2 rfl 1 1 rfl rfl ?_
  by_cases hc : a1 < 0
  · replace hf := (if_pos hc).symm.trans hf
    refine z_if_lt_t B 3 rfl 20 (by decide) hc ?_
    refine z_iconst 0 B 12 rfl (by decide) ?_
    cases hf
    exact z_iret B 13 rfl rfl hQ hr
  · replace hf := (if_neg hc).symm.trans hf
    refine z_if_lt_f B 3 rfl 20 (by decide) hc ?_
    refine z_iload_n B 4 rfl 1 1 rfl rfl ?_
    refine z_aload_n B 5 rfl 0 0 rfl rfl ?_
    refine z_alen B 6 rfl o_a0 ?_
    by_cases hc : a1 < (nI (ln a0))
    · replace hf := (if_pos hc).symm.trans hf
      refine z_icmp_ge_f B 7 rfl 20 (by decide) hc ?_
      refine z_aload_n B 8 rfl 0 0 rfl rfl ?_
      refine z_iload_n B 9 rfl 1 1 rfl rfl ?_
      obtain ⟨hx, hf⟩ := rdc_e hf
      refine z_iald B 10 rfl o_a0 hx ?_
      obtain ⟨v1, ex, hf⟩ := nm_x hf
      refine z_top ex ?_
      refine z_goto B 11 rfl 21 (by decide) ?_
      cases hf
      exact z_iret B 13 rfl rfl hQ hr
    · replace hf := (if_neg hc).symm.trans hf
      refine z_icmp_ge_t B 7 rfl 20 (by decide) hc ?_
      refine z_iconst 0 B 12 rfl (by decide) ?_
      cases hf
      exact z_iret B 13 rfl rfl hQ hr
/-! ZoneCapacity$Offers.rest(I)I -/
def tbX2_rest : Tb := [(0, .aload_n 0, 1, 1), (1, .getfield 22, 3, 4), (4, .iload_n 1, 1, 5), (5, .invokestatic 57, 3, 8), (8, .istore_n 2, 1, 9), (9, .iconst 0, 1, 10), (10, .istore_n 3, 1, 11), (11, .iload_n 3, 1, 12), (12, .aload_n 0, 1, 13), (13, .getfield 37, 3, 16), (16, .iload_n 1, 1, 17), (17, .invokestatic 57, 3, 20), (20, .if_icmp .ge 24, 3, 23), (23, .iload_n 2, 1, 24), (24, .aload_n 0, 1, 25), (25, .getfield 40, 3, 28), (28, .iload_n 1, 1, 29), (29, .iconst 3, 1, 30), (30, .imul, 1, 31), (31, .iload_n 3, 1, 32), (32, .iadd, 1, 33), (33, .invokestatic 57, 3, 36), (36, .isub, 1, 37), (37, .istore_n 2, 1, 38), (38, .iinc 3 1, 3, 41), (41, .goto (-30), 3, 44), (44, .iload_n 2, 1, 45), (45, .ireturn, 1, 46)]
theorem dtX2_rest : ∀ q ∈ tbX2_rest, decode cX2_rest q.1 = .ok (q.2.1, q.2.2.1) ∧ q.1 + q.2.2.1 = q.2.2.2 := by decide +kernel
theorem miX2_rest : MI yX2_rest cX2_rest 4 (some .int) 1 := ⟨tw_mem (List.mem_of_getElem? (i := 535) (by decide +kernel)) rfl, by decide, by decide +kernel, tw_mem (List.mem_of_getElem? (i := 75) (by decide +kernel)) rfl⟩
abbrev rmX2_rest : Room := { frames := 1, cells := 0, slots := 0, locals := 21 }
def wX2_rest : List Cond := [.fieldLink "ZoneCapacity$Offers" 22 "ZoneCapacity$Offers" "sizes" "[I", .static yX6_at, .fieldLink "ZoneCapacity$Offers" 37 "ZoneCapacity$Offers" "steps" "[I", .fieldLink "ZoneCapacity$Offers" 40 "ZoneCapacity$Offers" "stepUnits" "[I"]
theorem iX2_rest : ∀ w ∈ wX2_rest, w ∈ TW := tw_of (ids := [171, 387, 182, 184]) (by decide +kernel)
def f2_rest_l11 (mm : Mem) : Nat → Nat → Int32 → Int32 → Int32 → Option Int32
  | 0, _, _, _, _ => none
  | n + 1, x0, x1, x2, x3 => bd (f6_at mm (x0 + 8) x1) (fun r2 => if x3 < r2 then bd (f6_at mm (x0 + 9) ((x1 * (3 : Int32)) + x3)) (fun r3 => nm (x2 - r3) (fun v4 => nm (x3 + 1) (fun v5 => f2_rest_l11 mm n x0 x1 v4 v5))) else some (x2))
theorem f2_rest_l11_ok {E : Ev} {l : Launch} {C : Cfg} {mm : Mem} {x : Int32} (hj : Dj C) (X : Ec E l C rmX2_rest) (B : Bx E RX2 tbX2_rest 4 (some .int)) (hQ : Rt E) (hr : Rs E (some (.int x)) mm) (n : Nat) : ∀ (x0 : Nat) (x1 : Int32) (x2 : Int32) (x3 : Int32), Ob x0 2 → f2_rest_l11 mm n x0 x1 x2 x3 = some x → G E 4 11 [(0, .ref x0), (1, .int x1), (2, .int x2), (3, .int x3)] [] mm := by
  induction n with
  | zero =>
    intro x0 x1 x2 x3 o_x0 hf
    rw [f2_rest_l11] at hf
    cases hf
  | succ n ih =>
    intro x0 x1 x2 x3 o_x0 hf
    rw [f2_rest_l11] at hf
    refine z_iload_n B 7 rfl 3 3 rfl rfl ?_
    refine z_aload_n B 8 rfl 0 0 rfl rfl ?_
    refine z_getr 2 9 x0 B 9 rfl o_x0 rfl (iX2_rest _ (List.mem_of_getElem? (i := 2) rfl)) rfl ?_
    refine z_iload_n B 10 rfl 1 1 rfl rfl ?_
    obtain ⟨r2, ec, hf⟩ := bd_e hf
    refine z_callN [.ref (x0 + 8), .int x1] [.int x3] [.int r2, .int x3] X B 11 rfl miX6_at ⟨List.mem_of_getElem? (i := 15) rfl, (iX2_rest _ (List.mem_of_getElem? (i := 1) rfl))⟩ (ctX6_at hj (obf_2_9 o_x0) ec) ⟨Nat.le_of_ble_eq_true rfl, Nat.le_of_ble_eq_true rfl⟩ rfl rfl (Nat.le_of_ble_eq_true rfl) rfl ?_
    by_cases hc : x3 < r2
    · replace hf := (if_pos hc).symm.trans hf
      refine z_icmp_ge_f B 12 rfl 44 (by decide) hc ?_
      refine z_iload_n B 13 rfl 2 2 rfl rfl ?_
      refine z_aload_n B 14 rfl 0 0 rfl rfl ?_
      refine z_getr 2 10 x0 B 15 rfl o_x0 rfl (iX2_rest _ (List.mem_of_getElem? (i := 3) rfl)) rfl ?_
      refine z_iload_n B 16 rfl 1 1 rfl rfl ?_
      refine z_iconst 3 B 17 rfl (by decide) ?_
      refine z_imul B 18 rfl ?_
      refine z_iload_n B 19 rfl 3 3 rfl rfl ?_
      refine z_iadd B 20 rfl ?_
      obtain ⟨r3, ec, hf⟩ := bd_e hf
      refine z_callN [.ref (x0 + 9), .int ((x1 * (3 : Int32)) + x3)] [.int x2] [.int r3, .int x2] X B 21 rfl miX6_at ⟨List.mem_of_getElem? (i := 15) rfl, (iX2_rest _ (List.mem_of_getElem? (i := 1) rfl))⟩ (ctX6_at hj (obf_2_10 o_x0) ec) ⟨Nat.le_of_ble_eq_true rfl, Nat.le_of_ble_eq_true rfl⟩ rfl rfl (Nat.le_of_ble_eq_true rfl) rfl ?_
      refine z_isub B 22 rfl ?_
      obtain ⟨v4, ex, hf⟩ := nm_x hf
      refine z_top ex ?_
      refine z_istore_n [(2, .int v4), (0, .ref x0), (1, .int x1), (3, .int x3)] B 23 rfl 2 rfl (by decide) rfl ?_
      obtain ⟨v5, ex, hf⟩ := nm_x hf
      refine z_iinc v5 [(3, .int v5), (2, .int v4), (0, .ref x0), (1, .int x1)] B 24 rfl 3 rfl (ex.symm) (by decide) rfl ?_
      refine z_goto B 25 rfl 11 (by decide) ?_
      refine z_sub [(0, .ref x0), (1, .int x1), (2, .int v4), (3, .int v5)] [2, 3, 1, 0] rfl ?_
      exact ih _ _ _ _ o_x0  hf
    · replace hf := (if_neg hc).symm.trans hf
      refine z_icmp_ge_t B 12 rfl 44 (by decide) hc ?_
      refine z_iload_n B 26 rfl 2 2 rfl rfl ?_
      cases hf
      exact z_iret B 27 rfl rfl hQ hr
def f2_rest (mm : Mem) (a0 : Nat) (a1 : Int32) : Option Int32 := bd (f6_at mm (a0 + 3) a1) (fun r1 => f2_rest_l11 mm FU a0 a1 r1 (0 : Int32))
theorem ctX2_rest {l : Launch} {C : Cfg} (hj : Dj C) {mm : Mem} {a0 : Nat} {a1 : Int32} {x : Int32} (o_a0 : Ob a0 2) (hf : f2_rest mm a0 a1 = some x) : Ct l C yX2_rest cX2_rest 4 (some .int) 1 21 [.ref a0, .int a1] mm (some (.int x)) mm := by
  refine Ct.of (tb := tbX2_rest) hj miX2_rest.2.1 miX2_rest.1 dtX2_rest (Nat.le_of_ble_eq_true rfl) ?_
  intro E B hQ hr X
  unfold f2_rest at hf
  show G E 4 0 [(0, .ref a0), (1, .int a1)] [] mm
  refine z_aload_n B 0 rfl 0 0 rfl rfl ?_
  refine z_getr 2 4 a0 B 1 rfl o_a0 rfl (iX2_rest _ (List.mem_of_getElem? (i := 0) rfl)) rfl ?_
  refine z_iload_n B 2 rfl 1 1 rfl rfl ?_
  obtain ⟨r1, ec, hf⟩ := bd_e hf
  refine z_callN [.ref (a0 + 3), .int a1] [] [.int r1] X B 3 rfl miX6_at ⟨List.mem_of_getElem? (i := 15) rfl, (iX2_rest _ (List.mem_of_getElem? (i := 1) rfl))⟩ (ctX6_at hj (obf_2_4 o_a0) ec) ⟨Nat.le_of_ble_eq_true rfl, Nat.le_of_ble_eq_true rfl⟩ rfl rfl (Nat.le_of_ble_eq_true rfl) rfl ?_
  refine z_istore_n [(2, .int r1), (0, .ref a0), (1, .int a1)] B 4 rfl 2 rfl (by decide) rfl ?_
  refine z_iconst 0 B 5 rfl (by decide) ?_
  refine z_istore_n [(3, .int (0 : Int32)), (2, .int r1), (0, .ref a0), (1, .int a1)] B 6 rfl 3 rfl (by decide) rfl ?_
  refine z_sub [(0, .ref a0), (1, .int a1), (2, .int r1), (3, .int (0 : Int32))] [2, 3, 1, 0] rfl ?_
  exact f2_rest_l11_ok hj X B hQ hr FU _ _ _ _ o_a0  hf
/-! ZoneCapacity$Offers.unitsOf(II)I -/
def tbX2_unitsOf : Tb := [(0, .iload_n 2, 1, 1), (1, .iconst 3, 1, 2), (2, .if_icmp .ne 25, 3, 5), (5, .aload_n 0, 1, 6), (6, .getfield 31, 3, 9), (9, .iload_n 1, 1, 10), (10, .invokestatic 57, 3, 13), (13, .iconst 1, 1, 14), (14, .if_icmp .ne 11, 3, 17), (17, .aload_n 0, 1, 18), (18, .iload_n 1, 1, 19), (19, .invokevirtual 77, 3, 22), (22, .goto 4, 3, 25), (25, .iconst 0, 1, 26), (26, .ireturn, 1, 27), (27, .iload_n 2, 1, 28), (28, .aload_n 0, 1, 29), (29, .getfield 37, 3, 32), (32, .iload_n 1, 1, 33), (33, .invokestatic 57, 3, 36), (36, .if_icmp .ge 18, 3, 39), (39, .aload_n 0, 1, 40), (40, .getfield 40, 3, 43), (43, .iload_n 1, 1, 44), (44, .iconst 3, 1, 45), (45, .imul, 1, 46), (46, .iload_n 2, 1, 47), (47, .iadd, 1, 48), (48, .invokestatic 57, 3, 51), (51, .goto 4, 3, 54), (54, .iconst 0, 1, 55), (55, .ireturn, 1, 56)]
theorem dtX2_unitsOf : ∀ q ∈ tbX2_unitsOf, decode cX2_unitsOf q.1 = .ok (q.2.1, q.2.2.1) ∧ q.1 + q.2.2.1 = q.2.2.2 := by decide +kernel
theorem miX2_unitsOf : MI yX2_unitsOf cX2_unitsOf 3 (some .int) 2 := ⟨tw_mem (List.mem_of_getElem? (i := 638) (by decide +kernel)) rfl, by decide, by decide +kernel, tw_mem (List.mem_of_getElem? (i := 75) (by decide +kernel)) rfl⟩
abbrev rmX2_unitsOf : Room := { frames := 2, cells := 0, slots := 0, locals := 44 }
def wX2_unitsOf : List Cond := [.fieldLink "ZoneCapacity$Offers" 37 "ZoneCapacity$Offers" "steps" "[I", .static yX6_at, .fieldLink "ZoneCapacity$Offers" 40 "ZoneCapacity$Offers" "stepUnits" "[I", .fieldLink "ZoneCapacity$Offers" 31 "ZoneCapacity$Offers" "must" "[I", .methodLink "ZoneCapacity$Offers" 77 yX2_rest, .instanceMethod yX2_rest, .selects "ZoneCapacity$Offers" yX2_rest yX2_rest]
theorem iX2_unitsOf : ∀ w ∈ wX2_unitsOf, w ∈ TW := tw_of (ids := [182, 387, 184, 178, 639, 533, 534]) (by decide +kernel)
def f2_unitsOf (mm : Mem) (a0 : Nat) (a1 : Int32) (a2 : Int32) : Option Int32 := if a2 = (3 : Int32) then bd (f6_at mm (a0 + 6) a1) (fun r3 => if r3 = (1 : Int32) then bd (f2_rest mm a0 a1) (fun r4 => some (r4)) else some ((0 : Int32))) else bd (f6_at mm (a0 + 8) a1) (fun r1 => if a2 < r1 then bd (f6_at mm (a0 + 9) ((a1 * (3 : Int32)) + a2)) (fun r2 => some (r2)) else some ((0 : Int32)))
theorem ctX2_unitsOf {l : Launch} {C : Cfg} (hj : Dj C) {mm : Mem} {a0 : Nat} {a1 : Int32} {a2 : Int32} {x : Int32} (o_a0 : Ob a0 2) (hf : f2_unitsOf mm a0 a1 a2 = some x) : Ct l C yX2_unitsOf cX2_unitsOf 3 (some .int) 2 44 [.ref a0, .int a1, .int a2] mm (some (.int x)) mm := by
  refine Ct.of (tb := tbX2_unitsOf) hj miX2_unitsOf.2.1 miX2_unitsOf.1 dtX2_unitsOf (Nat.le_of_ble_eq_true rfl) ?_
  intro E B hQ hr X
  unfold f2_unitsOf at hf
  show G E 3 0 [(0, .ref a0), (1, .int a1), (2, .int a2)] [] mm
  refine z_iload_n B 0 rfl 2 2 rfl rfl ?_
  refine z_iconst 3 B 1 rfl (by decide) ?_
  by_cases hc : a2 = (3 : Int32)
  · replace hf := (if_pos hc).symm.trans hf
    refine z_icmp_ne_f B 2 rfl 27 (by decide) hc ?_
    refine z_aload_n B 3 rfl 0 0 rfl rfl ?_
    refine z_getr 2 7 a0 B 4 rfl o_a0 rfl (iX2_unitsOf _ (List.mem_of_getElem? (i := 3) rfl)) rfl ?_
    refine z_iload_n B 5 rfl 1 1 rfl rfl ?_
    obtain ⟨r3, ec, hf⟩ := bd_e hf
    refine z_callN [.ref (a0 + 6), .int a1] [] [.int r3] X B 6 rfl miX6_at ⟨List.mem_of_getElem? (i := 15) rfl, (iX2_unitsOf _ (List.mem_of_getElem? (i := 1) rfl))⟩ (ctX6_at hj (obf_2_7 o_a0) ec) ⟨Nat.le_of_ble_eq_true rfl, Nat.le_of_ble_eq_true rfl⟩ rfl rfl (Nat.le_of_ble_eq_true rfl) rfl ?_
    refine z_iconst 1 B 7 rfl (by decide) ?_
    by_cases hc : r3 = (1 : Int32)
    · replace hf := (if_pos hc).symm.trans hf
      refine z_icmp_ne_f B 8 rfl 25 (by decide) hc ?_
      refine z_aload_n B 9 rfl 0 0 rfl rfl ?_
      refine z_iload_n B 10 rfl 1 1 rfl rfl ?_
      obtain ⟨r4, ec, hf⟩ := bd_e hf
      refine z_callV a0 2 [.int a1] [] [.int r4] X B 11 rfl o_a0 rfl rfl miX2_rest ⟨(iX2_unitsOf _ (List.mem_of_getElem? (i := 4) rfl)), (iX2_unitsOf _ (List.mem_of_getElem? (i := 5) rfl)), (iX2_unitsOf _ (List.mem_of_getElem? (i := 6) rfl))⟩ (ctX2_rest hj o_a0 ec) ⟨Nat.le_of_ble_eq_true rfl, Nat.le_of_ble_eq_true rfl⟩ rfl rfl (Nat.le_of_ble_eq_true rfl) rfl ?_
      refine z_goto B 12 rfl 26 (by decide) ?_
      cases hf
      exact z_iret B 14 rfl rfl hQ hr
    · replace hf := (if_neg hc).symm.trans hf
      refine z_icmp_ne_t B 8 rfl 25 (by decide) hc ?_
      refine z_iconst 0 B 13 rfl (by decide) ?_
      cases hf
      exact z_iret B 14 rfl rfl hQ hr
  · replace hf := (if_neg hc).symm.trans hf
    refine z_icmp_ne_t B 2 rfl 27 (by decide) hc ?_
    refine z_iload_n B 15 rfl 2 2 rfl rfl ?_
    refine z_aload_n B 16 rfl 0 0 rfl rfl ?_
    refine z_getr 2 9 a0 B 17 rfl o_a0 rfl (iX2_unitsOf _ (List.mem_of_getElem? (i := 0) rfl)) rfl ?_
    refine z_iload_n B 18 rfl 1 1 rfl rfl ?_
    obtain ⟨r1, ec, hf⟩ := bd_e hf
    refine z_callN [.ref (a0 + 8), .int a1] [.int a2] [.int r1, .int a2] X B 19 rfl miX6_at ⟨List.mem_of_getElem? (i := 15) rfl, (iX2_unitsOf _ (List.mem_of_getElem? (i := 1) rfl))⟩ (ctX6_at hj (obf_2_9 o_a0) ec) ⟨Nat.le_of_ble_eq_true rfl, Nat.le_of_ble_eq_true rfl⟩ rfl rfl (Nat.le_of_ble_eq_true rfl) rfl ?_
    by_cases hc : a2 < r1
    · replace hf := (if_pos hc).symm.trans hf
      refine z_icmp_ge_f B 20 rfl 54 (by decide) hc ?_
      refine z_aload_n B 21 rfl 0 0 rfl rfl ?_
      refine z_getr 2 10 a0 B 22 rfl o_a0 rfl (iX2_unitsOf _ (List.mem_of_getElem? (i := 2) rfl)) rfl ?_
      refine z_iload_n B 23 rfl 1 1 rfl rfl ?_
      refine z_iconst 3 B 24 rfl (by decide) ?_
      refine z_imul B 25 rfl ?_
      refine z_iload_n B 26 rfl 2 2 rfl rfl ?_
      refine z_iadd B 27 rfl ?_
      obtain ⟨r2, ec, hf⟩ := bd_e hf
      refine z_callN [.ref (a0 + 9), .int ((a1 * (3 : Int32)) + a2)] [] [.int r2] X B 28 rfl miX6_at ⟨List.mem_of_getElem? (i := 15) rfl, (iX2_unitsOf _ (List.mem_of_getElem? (i := 1) rfl))⟩ (ctX6_at hj (obf_2_10 o_a0) ec) ⟨Nat.le_of_ble_eq_true rfl, Nat.le_of_ble_eq_true rfl⟩ rfl rfl (Nat.le_of_ble_eq_true rfl) rfl ?_
      refine z_goto B 29 rfl 55 (by decide) ?_
      cases hf
      exact z_iret B 31 rfl rfl hQ hr
    · replace hf := (if_neg hc).symm.trans hf
      refine z_icmp_ge_t B 20 rfl 54 (by decide) hc ?_
      refine z_iconst 0 B 30 rfl (by decide) ?_
      cases hf
      exact z_iret B 31 rfl rfl hQ hr
/-! ZoneCapacity$Offers.itsOf(II)I -/
def tbX2_itsOf : Tb := [(0, .iload_n 2, 1, 1), (1, .iconst 3, 1, 2), (2, .if_icmp .ne 5, 3, 5), (5, .iconst 0, 1, 6), (6, .ireturn, 1, 7), (7, .aload_n 0, 1, 8), (8, .getfield 43, 3, 11), (11, .iload_n 1, 1, 12), (12, .iconst 3, 1, 13), (13, .imul, 1, 14), (14, .iload_n 2, 1, 15), (15, .iadd, 1, 16), (16, .invokestatic 57, 3, 19), (19, .istore_n 3, 1, 20), (20, .aload_n 0, 1, 21), (21, .getfield 34, 3, 24), (24, .iload_n 1, 1, 25), (25, .invokestatic 57, 3, 28), (28, .ifCond .ne 23, 3, 31), (31, .iload_n 3, 1, 32), (32, .aload_n 0, 1, 33), (33, .getfield 15, 3, 36), (36, .aload_n 0, 1, 37), (37, .getfield 25, 3, 40), (40, .iload_n 1, 1, 41), (41, .invokestatic 57, 3, 44), (44, .invokestatic 57, 3, 47), (47, .invokestatic 81, 3, 50), (50, .istore_n 3, 1, 51), (51, .aload_n 0, 1, 52), (52, .getfield 31, 3, 55), (55, .iload_n 1, 1, 56), (56, .invokestatic 57, 3, 59), (59, .iconst 1, 1, 60), (60, .if_icmp .ne 14, 3, 63), (63, .iload_n 3, 1, 64), (64, .aload_n 0, 1, 65), (65, .getfield 9, 3, 68), (68, .invokestatic 86, 3, 71), (71, .goto 4, 3, 74), (74, .iload_n 3, 1, 75), (75, .ireturn, 1, 76)]
theorem dtX2_itsOf : ∀ q ∈ tbX2_itsOf, decode cX2_itsOf q.1 = .ok (q.2.1, q.2.2.1) ∧ q.1 + q.2.2.1 = q.2.2.2 := by decide +kernel
theorem miX2_itsOf : MI yX2_itsOf cX2_itsOf 4 (some .int) 2 := ⟨tw_mem (List.mem_of_getElem? (i := 643) (by decide +kernel)) rfl, by decide, by decide +kernel, tw_mem (List.mem_of_getElem? (i := 75) (by decide +kernel)) rfl⟩
abbrev rmX2_itsOf : Room := { frames := 1, cells := 0, slots := 0, locals := 21 }
def wX2_itsOf : List Cond := [.fieldLink "ZoneCapacity$Offers" 43 "ZoneCapacity$Offers" "stepPrices" "[I", .static yX6_at, .fieldLink "ZoneCapacity$Offers" 34 "ZoneCapacity$Offers" "free" "[I", .fieldLink "ZoneCapacity$Offers" 31 "ZoneCapacity$Offers" "must" "[I", .fieldLink "ZoneCapacity$Offers" 9 "ZoneCapacity$Offers" "ceiling" "I", .methodLink "ZoneCapacity$Offers" 86 ⟨"java/lang/Math", "min", "(II)I"⟩, .static ⟨"java/lang/Math", "min", "(II)I"⟩, .initialized "java/lang/Math", .code Lib.Math.min.name Lib.Math.min.code 2 (some .int), .fieldLink "ZoneCapacity$Offers" 15 "ZoneCapacity$Offers" "floors" "[I", .fieldLink "ZoneCapacity$Offers" 25 "ZoneCapacity$Offers" "kinds" "[I", .methodLink "ZoneCapacity$Offers" 81 ⟨"java/lang/Math", "max", "(II)I"⟩, .static ⟨"java/lang/Math", "max", "(II)I"⟩, .code Lib.Math.max.name Lib.Math.max.code 2 (some .int)]
theorem iX2_itsOf : ∀ w ∈ wX2_itsOf, w ∈ TW := tw_of (ids := [185, 387, 180, 178, 162, 647, 648, 87, 649, 165, 173, 644, 645, 646]) (by decide +kernel)
def f2_itsOf_j51 (mm : Mem) (x0 : Nat) (x1 : Int32) (x3 : Int32) : Option Int32 := bd (f6_at mm (x0 + 6) x1) (fun r3 => if r3 = (1 : Int32) then nm (mni x3 (mm x0 1)) (fun v4 => some (v4)) else some (x3))
theorem f2_itsOf_j51_ok {E : Ev} {l : Launch} {C : Cfg} {mm : Mem} {x : Int32} (hj : Dj C) (X : Ec E l C rmX2_itsOf) (B : Bx E RX2 tbX2_itsOf 4 (some .int)) (hQ : Rt E) (hr : Rs E (some (.int x)) mm) (x0 : Nat) (x1 : Int32) (x3 : Int32) (o_x0 : Ob x0 2) (hf : f2_itsOf_j51 mm x0 x1 x3 = some x) : G E 4 51 [(0, .ref x0), (1, .int x1), (3, .int x3)] [] mm := by
  unfold f2_itsOf_j51 at hf
  refine z_aload_n B 29 rfl 0 0 rfl rfl ?_
  refine z_getr 2 7 x0 B 30 rfl o_x0 rfl (iX2_itsOf _ (List.mem_of_getElem? (i := 3) rfl)) rfl ?_
  refine z_iload_n B 31 rfl 1 1 rfl rfl ?_
  obtain ⟨r3, ec, hf⟩ := bd_e hf
  refine z_callN [.ref (x0 + 6), .int x1] [] [.int r3] X B 32 rfl miX6_at ⟨List.mem_of_getElem? (i := 15) rfl, (iX2_itsOf _ (List.mem_of_getElem? (i := 1) rfl))⟩ (ctX6_at hj (obf_2_7 o_x0) ec) ⟨Nat.le_of_ble_eq_true rfl, Nat.le_of_ble_eq_true rfl⟩ rfl rfl (Nat.le_of_ble_eq_true rfl) rfl ?_
  refine z_iconst 1 B 33 rfl (by decide) ?_
  by_cases hc : r3 = (1 : Int32)
  · replace hf := (if_pos hc).symm.trans hf
    refine z_icmp_ne_f B 34 rfl 74 (by decide) hc ?_
    refine z_iload_n B 35 rfl 3 2 rfl rfl ?_
    refine z_aload_n B 36 rfl 0 0 rfl rfl ?_
    refine z_geti 2 1 x0 B 37 rfl o_x0 rfl (iX2_itsOf _ (List.mem_of_getElem? (i := 4) rfl)) rfl ?_
    refine z_mmin X B 38 rfl ⟨(iX2_itsOf _ (List.mem_of_getElem? (i := 5) rfl)), (iX2_itsOf _ (List.mem_of_getElem? (i := 6) rfl)), (iX2_itsOf _ (List.mem_of_getElem? (i := 7) rfl)), (iX2_itsOf _ (List.mem_of_getElem? (i := 8) rfl))⟩ ⟨Nat.le_of_ble_eq_true rfl, Nat.le_of_ble_eq_true rfl⟩ (Nat.le_of_ble_eq_true rfl) ?_
    obtain ⟨v4, ex, hf⟩ := nm_x hf
    refine z_top ex ?_
    refine z_goto B 39 rfl 75 (by decide) ?_
    cases hf
    exact z_iret B 41 rfl rfl hQ hr
  · replace hf := (if_neg hc).symm.trans hf
    refine z_icmp_ne_t B 34 rfl 74 (by decide) hc ?_
    refine z_iload_n B 40 rfl 3 2 rfl rfl ?_
    cases hf
    exact z_iret B 41 rfl rfl hQ hr
def f2_itsOf (mm : Mem) (a0 : Nat) (a1 : Int32) (a2 : Int32) : Option Int32 := if a2 = (3 : Int32) then some ((0 : Int32)) else bd (f6_at mm (a0 + 10) ((a1 * (3 : Int32)) + a2)) (fun r1 => bd (f6_at mm (a0 + 7) a1) (fun r2 => if r2 = 0 then bd (f6_at mm (a0 + 4) a1) (fun r5 => bd (f6_at mm (a0 + 1) r5) (fun r6 => nm (mxi r1 r6) (fun v7 => f2_itsOf_j51 mm a0 a1 v7))) else f2_itsOf_j51 mm a0 a1 r1))
theorem ctX2_itsOf {l : Launch} {C : Cfg} (hj : Dj C) {mm : Mem} {a0 : Nat} {a1 : Int32} {a2 : Int32} {x : Int32} (o_a0 : Ob a0 2) (hf : f2_itsOf mm a0 a1 a2 = some x) : Ct l C yX2_itsOf cX2_itsOf 4 (some .int) 1 21 [.ref a0, .int a1, .int a2] mm (some (.int x)) mm := by
  refine Ct.of (tb := tbX2_itsOf) hj miX2_itsOf.2.1 miX2_itsOf.1 dtX2_itsOf (Nat.le_of_ble_eq_true rfl) ?_
  intro E B hQ hr X
  unfold f2_itsOf at hf
  show G E 4 0 [(0, .ref a0), (1, .int a1), (2, .int a2)] [] mm
  refine z_iload_n B 0 rfl 2 2 rfl rfl ?_
  refine z_iconst 3 B 1 rfl (by decide) ?_
  by_cases hc : a2 = (3 : Int32)
  · replace hf := (if_pos hc).symm.trans hf
    refine z_icmp_ne_f B 2 rfl 7 (by decide) hc ?_
    refine z_iconst 0 B 3 rfl (by decide) ?_
    cases hf
    exact z_iret B 4 rfl rfl hQ hr
  · replace hf := (if_neg hc).symm.trans hf
    refine z_icmp_ne_t B 2 rfl 7 (by decide) hc ?_
    refine z_aload_n B 5 rfl 0 0 rfl rfl ?_
    refine z_getr 2 11 a0 B 6 rfl o_a0 rfl (iX2_itsOf _ (List.mem_of_getElem? (i := 0) rfl)) rfl ?_
    refine z_iload_n B 7 rfl 1 1 rfl rfl ?_
    refine z_iconst 3 B 8 rfl (by decide) ?_
    refine z_imul B 9 rfl ?_
    refine z_iload_n B 10 rfl 2 2 rfl rfl ?_
    refine z_iadd B 11 rfl ?_
    obtain ⟨r1, ec, hf⟩ := bd_e hf
    refine z_callN [.ref (a0 + 10), .int ((a1 * (3 : Int32)) + a2)] [] [.int r1] X B 12 rfl miX6_at ⟨List.mem_of_getElem? (i := 15) rfl, (iX2_itsOf _ (List.mem_of_getElem? (i := 1) rfl))⟩ (ctX6_at hj (obf_2_11 o_a0) ec) ⟨Nat.le_of_ble_eq_true rfl, Nat.le_of_ble_eq_true rfl⟩ rfl rfl (Nat.le_of_ble_eq_true rfl) rfl ?_
    refine z_istore_n [(3, .int r1), (0, .ref a0), (1, .int a1), (2, .int a2)] B 13 rfl 3 rfl (by decide) rfl ?_
    refine z_aload_n B 14 rfl 0 1 rfl rfl ?_
    refine z_getr 2 8 a0 B 15 rfl o_a0 rfl (iX2_itsOf _ (List.mem_of_getElem? (i := 2) rfl)) rfl ?_
    refine z_iload_n B 16 rfl 1 2 rfl rfl ?_
    obtain ⟨r2, ec, hf⟩ := bd_e hf
    refine z_callN [.ref (a0 + 7), .int a1] [] [.int r2] X B 17 rfl miX6_at ⟨List.mem_of_getElem? (i := 15) rfl, (iX2_itsOf _ (List.mem_of_getElem? (i := 1) rfl))⟩ (ctX6_at hj (obf_2_8 o_a0) ec) ⟨Nat.le_of_ble_eq_true rfl, Nat.le_of_ble_eq_true rfl⟩ rfl rfl (Nat.le_of_ble_eq_true rfl) rfl ?_
    by_cases hc : r2 = 0
    · replace hf := (if_pos hc).symm.trans hf
      refine z_if_ne_f B 18 rfl 51 (by decide) hc ?_
      refine z_iload_n B 19 rfl 3 0 rfl rfl ?_
      refine z_aload_n B 20 rfl 0 1 rfl rfl ?_
      refine z_getr 2 2 a0 B 21 rfl o_a0 rfl (iX2_itsOf _ (List.mem_of_getElem? (i := 9) rfl)) rfl ?_
      refine z_aload_n B 22 rfl 0 1 rfl rfl ?_
      refine z_getr 2 5 a0 B 23 rfl o_a0 rfl (iX2_itsOf _ (List.mem_of_getElem? (i := 10) rfl)) rfl ?_
      refine z_iload_n B 24 rfl 1 2 rfl rfl ?_
      obtain ⟨r5, ec, hf⟩ := bd_e hf
      refine z_callN [.ref (a0 + 4), .int a1] [.ref (a0 + 1), .int r1] [.int r5, .ref (a0 + 1), .int r1] X B 25 rfl miX6_at ⟨List.mem_of_getElem? (i := 15) rfl, (iX2_itsOf _ (List.mem_of_getElem? (i := 1) rfl))⟩ (ctX6_at hj (obf_2_5 o_a0) ec) ⟨Nat.le_of_ble_eq_true rfl, Nat.le_of_ble_eq_true rfl⟩ rfl rfl (Nat.le_of_ble_eq_true rfl) rfl ?_
      obtain ⟨r6, ec, hf⟩ := bd_e hf
      refine z_callN [.ref (a0 + 1), .int r5] [.int r1] [.int r6, .int r1] X B 26 rfl miX6_at ⟨List.mem_of_getElem? (i := 15) rfl, (iX2_itsOf _ (List.mem_of_getElem? (i := 1) rfl))⟩ (ctX6_at hj (obf_2_2 o_a0) ec) ⟨Nat.le_of_ble_eq_true rfl, Nat.le_of_ble_eq_true rfl⟩ rfl rfl (Nat.le_of_ble_eq_true rfl) rfl ?_
      refine z_mmax X B 27 rfl ⟨(iX2_itsOf _ (List.mem_of_getElem? (i := 11) rfl)), (iX2_itsOf _ (List.mem_of_getElem? (i := 12) rfl)), (iX2_itsOf _ (List.mem_of_getElem? (i := 7) rfl)), (iX2_itsOf _ (List.mem_of_getElem? (i := 13) rfl))⟩ ⟨Nat.le_of_ble_eq_true rfl, Nat.le_of_ble_eq_true rfl⟩ (Nat.le_of_ble_eq_true rfl) ?_
      obtain ⟨v7, ex, hf⟩ := nm_x hf
      refine z_top ex ?_
      refine z_istore_n [(3, .int v7), (0, .ref a0), (1, .int a1), (2, .int a2)] B 28 rfl 3 rfl (by decide) rfl ?_
      refine z_sub [(0, .ref a0), (1, .int a1), (3, .int v7)] [1, 2, 0] rfl ?_
      exact f2_itsOf_j51_ok hj X B hQ hr _ _ _ o_a0  hf
    · replace hf := (if_neg hc).symm.trans hf
      refine z_if_ne_t B 18 rfl 51 (by decide) hc ?_
      refine z_sub [(0, .ref a0), (1, .int a1), (3, .int r1)] [1, 2, 0] rfl ?_
      exact f2_itsOf_j51_ok hj X B hQ hr _ _ _ o_a0  hf
/-! ZoneCapacity$Auction.readLines()V -/
def tbX0_readLines : Tb := [(0, .aload_n 0, 1, 1), (1, .getfield 12, 3, 4), (4, .getfield 85, 3, 7), (7, .astore_n 1, 1, 8), (8, .iconst 0, 1, 9), (9, .istore_n 2, 1, 10), (10, .iload_n 2, 1, 11), (11, .aload_n 1, 1, 12), (12, .getfield 89, 3, 15), (15, .if_icmp .ge 58, 3, 18), (18, .iconst 0, 1, 19), (19, .istore_n 3, 1, 20), (20, .iload_n 3, 1, 21), (21, .iconst 4, 1, 22), (22, .if_icmp .ge 45, 3, 25), (25, .aload_n 0, 1, 26), (26, .getfield 31, 3, 29), (29, .iload_n 2, 1, 30), (30, .iconst 4, 1, 31), (31, .imul, 1, 32), (32, .iload_n 3, 1, 33), (33, .iadd, 1, 34), (34, .aload_n 1, 1, 35), (35, .iload_n 2, 1, 36), (36, .iload_n 3, 1, 37), (37, .invokevirtual 92, 3, 40), (40, .invokestatic 56, 3, 43), (43, .aload_n 0, 1, 44), (44, .getfield 34, 3, 47), (47, .iload_n 2, 1, 48), (48, .iconst 4, 1, 49), (49, .imul, 1, 50), (50, .iload_n 3, 1, 51), (51, .iadd, 1, 52), (52, .aload_n 1, 1, 53), (53, .iload_n 2, 1, 54), (54, .iload_n 3, 1, 55), (55, .invokevirtual 95, 3, 58), (58, .invokestatic 56, 3, 61), (61, .iinc 3 1, 3, 64), (64, .goto (-44), 3, 67), (67, .iinc 2 1, 3, 70), (70, .goto (-60), 3, 73), (73, .return_, 1, 74)]
theorem dtX0_readLines : ∀ q ∈ tbX0_readLines, decode cX0_readLines q.1 = .ok (q.2.1, q.2.2.1) ∧ q.1 + q.2.2.1 = q.2.2.2 := by decide +kernel
theorem miX0_readLines : MI yX0_readLines cX0_readLines 4 none 0 := ⟨tw_mem (List.mem_of_getElem? (i := 685) (by decide +kernel)) rfl, by decide, by decide +kernel, tw_mem (List.mem_of_getElem? (i := 72) (by decide +kernel)) rfl⟩
abbrev rmX0_readLines : Room := { frames := 3, cells := 0, slots := 0, locals := 66 }
def wX0_readLines : List Cond := [.fieldLink "ZoneCapacity$Auction" 12 "ZoneCapacity$Auction" "market" "LZoneCapacity$Market;", .fieldLink "ZoneCapacity$Auction" 85 "ZoneCapacity$Market" "offers" "LZoneCapacity$Offers;", .fieldLink "ZoneCapacity$Auction" 89 "ZoneCapacity$Offers" "many" "I", .fieldLink "ZoneCapacity$Auction" 31 "ZoneCapacity$Auction" "units" "[I", .methodLink "ZoneCapacity$Auction" 92 yX2_unitsOf, .instanceMethod yX2_unitsOf, .selects "ZoneCapacity$Offers" yX2_unitsOf yX2_unitsOf, .static yX6_put, .fieldLink "ZoneCapacity$Auction" 34 "ZoneCapacity$Auction" "its" "[I", .methodLink "ZoneCapacity$Auction" 95 yX2_itsOf, .instanceMethod yX2_itsOf, .selects "ZoneCapacity$Offers" yX2_itsOf yX2_itsOf]
theorem iX0_readLines : ∀ w ∈ wX0_readLines, w ∈ TW := tw_of (ids := [224, 216, 159, 234, 686, 636, 637, 115, 235, 688, 641, 642]) (by decide +kernel)
def f0_readLines_l20 (k10 : Nat → Nat → Int32 → Mem → Option Mem) : Nat → Nat → Nat → Int32 → Int32 → Mem → Option Mem
  | 0, _, _, _, _, _ => none
  | n + 1, x0, x1, x2, x3, mm => if x3 < (4 : Int32) then bd (f2_unitsOf mm x1 x2 x3) (fun r2 => bd (f6_put mm (x0 + 24) ((x2 * (4 : Int32)) + x3) r2) (fun r3 => bd (f2_itsOf r3 x1 x2 x3) (fun r4 => bd (f6_put r3 (x0 + 25) ((x2 * (4 : Int32)) + x3) r4) (fun r5 => nm (x3 + 1) (fun v6 => f0_readLines_l20 k10 n x0 x1 x2 v6 r5))))) else nm (x2 + 1) (fun v1 => k10 x0 x1 v1 mm)
theorem f0_readLines_l20_ok {E : Ev} {l : Launch} {C : Cfg} {x : Mem} {k10 : Nat → Nat → Int32 → Mem → Option Mem} (hj : Dj C) (X : Ec E l C rmX0_readLines) (B : Bx E RX0 tbX0_readLines 4 none) (hQ : Rt E) (hr : Rs E none x) (hk10 : ∀ (x0 : Nat) (x1 : Nat) (x2 : Int32) (mm : Mem), Ob x0 0 → Ob x1 2 → k10 x0 x1 x2 mm = some x → G E 4 10 [(0, .ref x0), (1, .ref x1), (2, .int x2)] [] mm) (n : Nat) : ∀ (x0 : Nat) (x1 : Nat) (x2 : Int32) (x3 : Int32) (mm : Mem), Ob x0 0 → Ob x1 2 → f0_readLines_l20 k10 n x0 x1 x2 x3 mm = some x → G E 4 20 [(0, .ref x0), (1, .ref x1), (2, .int x2), (3, .int x3)] [] mm := by
  induction n with
  | zero =>
    intro x0 x1 x2 x3 mm o_x0 o_x1 hf
    rw [f0_readLines_l20] at hf
    cases hf
  | succ n ih =>
    intro x0 x1 x2 x3 mm o_x0 o_x1 hf
    rw [f0_readLines_l20] at hf
    refine z_iload_n B 12 rfl 3 3 rfl rfl ?_
    refine z_iconst 4 B 13 rfl (by decide) ?_
    by_cases hc : x3 < (4 : Int32)
    · replace hf := (if_pos hc).symm.trans hf
      refine z_icmp_ge_f B 14 rfl 67 (by decide) hc ?_
      refine z_aload_n B 15 rfl 0 0 rfl rfl ?_
      refine z_getr 0 5 x0 B 16 rfl o_x0 rfl (iX0_readLines _ (List.mem_of_getElem? (i := 3) rfl)) rfl ?_
      refine z_iload_n B 17 rfl 2 2 rfl rfl ?_
      refine z_iconst 4 B 18 rfl (by decide) ?_
      refine z_imul B 19 rfl ?_
      refine z_iload_n B 20 rfl 3 3 rfl rfl ?_
      refine z_iadd B 21 rfl ?_
      refine z_aload_n B 22 rfl 1 1 rfl rfl ?_
      refine z_iload_n B 23 rfl 2 2 rfl rfl ?_
      refine z_iload_n B 24 rfl 3 3 rfl rfl ?_
      obtain ⟨r2, ec, hf⟩ := bd_e hf
      refine z_callV x1 2 [.int x2, .int x3] [.int ((x2 * (4 : Int32)) + x3), .ref (x0 + 24)] [.int r2, .int ((x2 * (4 : Int32)) + x3), .ref (x0 + 24)] X B 25 rfl o_x1 rfl rfl miX2_unitsOf ⟨(iX0_readLines _ (List.mem_of_getElem? (i := 4) rfl)), (iX0_readLines _ (List.mem_of_getElem? (i := 5) rfl)), (iX0_readLines _ (List.mem_of_getElem? (i := 6) rfl))⟩ (ctX2_unitsOf hj o_x1 ec) ⟨Nat.le_of_ble_eq_true rfl, Nat.le_of_ble_eq_true rfl⟩ rfl rfl (Nat.le_of_ble_eq_true rfl) rfl ?_
      obtain ⟨r3, ec, hf⟩ := bd_e hf
      refine z_callN [.ref (x0 + 24), .int ((x2 * (4 : Int32)) + x3), .int r2] [] [] X B 26 rfl miX6_put ⟨List.mem_of_getElem? (i := 18) rfl, (iX0_readLines _ (List.mem_of_getElem? (i := 7) rfl))⟩ (ctX6_put hj (obf_0_5 o_x0) ec) ⟨Nat.le_of_ble_eq_true rfl, Nat.le_of_ble_eq_true rfl⟩ rfl rfl (Nat.le_of_ble_eq_true rfl) rfl ?_
      refine z_aload_n B 27 rfl 0 0 rfl rfl ?_
      refine z_getr 0 6 x0 B 28 rfl o_x0 rfl (iX0_readLines _ (List.mem_of_getElem? (i := 8) rfl)) rfl ?_
      refine z_iload_n B 29 rfl 2 2 rfl rfl ?_
      refine z_iconst 4 B 30 rfl (by decide) ?_
      refine z_imul B 31 rfl ?_
      refine z_iload_n B 32 rfl 3 3 rfl rfl ?_
      refine z_iadd B 33 rfl ?_
      refine z_aload_n B 34 rfl 1 1 rfl rfl ?_
      refine z_iload_n B 35 rfl 2 2 rfl rfl ?_
      refine z_iload_n B 36 rfl 3 3 rfl rfl ?_
      obtain ⟨r4, ec, hf⟩ := bd_e hf
      refine z_callV x1 2 [.int x2, .int x3] [.int ((x2 * (4 : Int32)) + x3), .ref (x0 + 25)] [.int r4, .int ((x2 * (4 : Int32)) + x3), .ref (x0 + 25)] X B 37 rfl o_x1 rfl rfl miX2_itsOf ⟨(iX0_readLines _ (List.mem_of_getElem? (i := 9) rfl)), (iX0_readLines _ (List.mem_of_getElem? (i := 10) rfl)), (iX0_readLines _ (List.mem_of_getElem? (i := 11) rfl))⟩ (ctX2_itsOf hj o_x1 ec) ⟨Nat.le_of_ble_eq_true rfl, Nat.le_of_ble_eq_true rfl⟩ rfl rfl (Nat.le_of_ble_eq_true rfl) rfl ?_
      obtain ⟨r5, ec, hf⟩ := bd_e hf
      refine z_callN [.ref (x0 + 25), .int ((x2 * (4 : Int32)) + x3), .int r4] [] [] X B 38 rfl miX6_put ⟨List.mem_of_getElem? (i := 18) rfl, (iX0_readLines _ (List.mem_of_getElem? (i := 7) rfl))⟩ (ctX6_put hj (obf_0_6 o_x0) ec) ⟨Nat.le_of_ble_eq_true rfl, Nat.le_of_ble_eq_true rfl⟩ rfl rfl (Nat.le_of_ble_eq_true rfl) rfl ?_
      obtain ⟨v6, ex, hf⟩ := nm_x hf
      refine z_iinc v6 [(3, .int v6), (0, .ref x0), (1, .ref x1), (2, .int x2)] B 39 rfl 3 rfl (ex.symm) (by decide) rfl ?_
      refine z_goto B 40 rfl 20 (by decide) ?_
      refine z_sub [(0, .ref x0), (1, .ref x1), (2, .int x2), (3, .int v6)] [1, 2, 3, 0] rfl ?_
      exact ih _ _ _ _ _ o_x0 o_x1  hf
    · replace hf := (if_neg hc).symm.trans hf
      refine z_icmp_ge_t B 14 rfl 67 (by decide) hc ?_
      obtain ⟨v1, ex, hf⟩ := nm_x hf
      refine z_iinc v1 [(2, .int v1), (0, .ref x0), (1, .ref x1), (3, .int x3)] B 41 rfl 2 rfl (ex.symm) (by decide) rfl ?_
      refine z_goto B 42 rfl 10 (by decide) ?_
      refine z_sub [(0, .ref x0), (1, .ref x1), (2, .int v1)] [1, 2, 0] rfl ?_
      exact hk10 _ _ _ _ o_x0 o_x1  hf
def f0_readLines_l10 : Nat → Nat → Nat → Int32 → Mem → Option Mem
  | 0, _, _, _, _ => none
  | n + 1, x0, x1, x2, mm => if x2 < (mm x1 0) then f0_readLines_l20 (fun x0 x1 x2 mm => f0_readLines_l10 n x0 x1 x2 mm) FU x0 x1 x2 (0 : Int32) mm else some mm
theorem f0_readLines_l10_ok {E : Ev} {l : Launch} {C : Cfg} {x : Mem} (hj : Dj C) (X : Ec E l C rmX0_readLines) (B : Bx E RX0 tbX0_readLines 4 none) (hQ : Rt E) (hr : Rs E none x) (n : Nat) : ∀ (x0 : Nat) (x1 : Nat) (x2 : Int32) (mm : Mem), Ob x0 0 → Ob x1 2 → f0_readLines_l10 n x0 x1 x2 mm = some x → G E 4 10 [(0, .ref x0), (1, .ref x1), (2, .int x2)] [] mm := by
  induction n with
  | zero =>
    intro x0 x1 x2 mm o_x0 o_x1 hf
    rw [f0_readLines_l10] at hf
    cases hf
  | succ n ih =>
    intro x0 x1 x2 mm o_x0 o_x1 hf
    rw [f0_readLines_l10] at hf
    refine z_iload_n B 6 rfl 2 2 rfl rfl ?_
    refine z_aload_n B 7 rfl 1 1 rfl rfl ?_
    refine z_geti 2 0 x1 B 8 rfl o_x1 rfl (iX0_readLines _ (List.mem_of_getElem? (i := 2) rfl)) rfl ?_
    by_cases hc : x2 < (mm x1 0)
    · replace hf := (if_pos hc).symm.trans hf
      refine z_icmp_ge_f B 9 rfl 73 (by decide) hc ?_
      refine z_iconst 0 B 10 rfl (by decide) ?_
      refine z_istore_n [(3, .int (0 : Int32)), (0, .ref x0), (1, .ref x1), (2, .int x2)] B 11 rfl 3 rfl (by decide) rfl ?_
      refine z_sub [(0, .ref x0), (1, .ref x1), (2, .int x2), (3, .int (0 : Int32))] [1, 2, 3, 0] rfl ?_
      exact f0_readLines_l20_ok hj X B hQ hr ih FU _ _ _ _ _ o_x0 o_x1  hf
    · replace hf := (if_neg hc).symm.trans hf
      refine z_icmp_ge_t B 9 rfl 73 (by decide) hc ?_
      cases hf
      exact z_vret B 43 rfl hQ hr
def f0_readLines (mm : Mem) (a0 : Nat) : Option Mem := f0_readLines_l10 FU a0 (a0 + 1 + 8) (0 : Int32) mm
theorem ctX0_readLines {l : Launch} {C : Cfg} (hj : Dj C) {mm : Mem} {a0 : Nat} {x : Mem} (o_a0 : Ob a0 0) (hf : f0_readLines mm a0 = some x) : Ct l C yX0_readLines cX0_readLines 4 none 3 66 [.ref a0] mm none x := by
  refine Ct.of (tb := tbX0_readLines) hj miX0_readLines.2.1 miX0_readLines.1 dtX0_readLines (Nat.le_of_ble_eq_true rfl) ?_
  intro E B hQ hr X
  unfold f0_readLines at hf
  show G E 4 0 [(0, .ref a0)] [] mm
  refine z_aload_n B 0 rfl 0 0 rfl rfl ?_
  refine z_getr 0 0 a0 B 1 rfl o_a0 rfl (iX0_readLines _ (List.mem_of_getElem? (i := 0) rfl)) rfl ?_
  refine z_getr 1 1 (a0 + 1) B 2 rfl (obf_0_0 o_a0) rfl (iX0_readLines _ (List.mem_of_getElem? (i := 1) rfl)) rfl ?_
  refine z_astore_n [(1, .ref (a0 + 1 + 8)), (0, .ref a0)] B 3 rfl 1 rfl (by decide) rfl ?_
  refine z_iconst 0 B 4 rfl (by decide) ?_
  refine z_istore_n [(2, .int (0 : Int32)), (1, .ref (a0 + 1 + 8)), (0, .ref a0)] B 5 rfl 2 rfl (by decide) rfl ?_
  refine z_sub [(0, .ref a0), (1, .ref (a0 + 1 + 8)), (2, .int (0 : Int32))] [2, 1, 0] rfl ?_
  exact f0_readLines_l10_ok hj X B hQ hr FU _ _ _ _ o_a0 (obf_1_1 (obf_0_0 o_a0))  hf
/-! ZoneCapacity$Zones.firstPrice(I)I -/
def tbX5_firstPrice : Tb := [(0, .aload_n 0, 1, 1), (1, .getfield 25, 3, 4), (4, .iload_n 1, 1, 5), (5, .invokestatic 46, 3, 8), (8, .ifCond .ne 7, 3, 11), (11, .iconst 0, 1, 12), (12, .goto 13, 3, 15), (15, .aload_n 0, 1, 16), (16, .getfield 31, 3, 19), (19, .iload_n 1, 1, 20), (20, .iconst 4, 1, 21), (21, .imul, 1, 22), (22, .invokestatic 46, 3, 25), (25, .ireturn, 1, 26)]
theorem dtX5_firstPrice : ∀ q ∈ tbX5_firstPrice, decode cX5_firstPrice q.1 = .ok (q.2.1, q.2.2.1) ∧ q.1 + q.2.2.1 = q.2.2.2 := by decide +kernel
theorem miX5_firstPrice : MI yX5_firstPrice cX5_firstPrice 2 (some .int) 1 := ⟨tw_mem (List.mem_of_getElem? (i := 720) (by decide +kernel)) rfl, by decide, by decide +kernel, tw_mem (List.mem_of_getElem? (i := 74) (by decide +kernel)) rfl⟩
abbrev rmX5_firstPrice : Room := { frames := 1, cells := 0, slots := 0, locals := 21 }
def wX5_firstPrice : List Cond := [.fieldLink "ZoneCapacity$Zones" 25 "ZoneCapacity$Zones" "points" "[I", .static yX6_at, .fieldLink "ZoneCapacity$Zones" 31 "ZoneCapacity$Zones" "pointPrices" "[I"]
theorem iX5_firstPrice : ∀ w ∈ wX5_firstPrice, w ∈ TW := tw_of (ids := [132, 387, 135]) (by decide +kernel)
def f5_firstPrice (mm : Mem) (a0 : Nat) (a1 : Int32) : Option Int32 := bd (f6_at mm (a0 + 4) a1) (fun r1 => if r1 = 0 then some ((0 : Int32)) else bd (f6_at mm (a0 + 6) (a1 * (4 : Int32))) (fun r2 => some (r2)))
theorem ctX5_firstPrice {l : Launch} {C : Cfg} (hj : Dj C) {mm : Mem} {a0 : Nat} {a1 : Int32} {x : Int32} (o_a0 : Ob a0 5) (hf : f5_firstPrice mm a0 a1 = some x) : Ct l C yX5_firstPrice cX5_firstPrice 2 (some .int) 1 21 [.ref a0, .int a1] mm (some (.int x)) mm := by
  refine Ct.of (tb := tbX5_firstPrice) hj miX5_firstPrice.2.1 miX5_firstPrice.1 dtX5_firstPrice (Nat.le_of_ble_eq_true rfl) ?_
  intro E B hQ hr X
  unfold f5_firstPrice at hf
  show G E 2 0 [(0, .ref a0), (1, .int a1)] [] mm
  refine z_aload_n B 0 rfl 0 0 rfl rfl ?_
  refine z_getr 5 4 a0 B 1 rfl o_a0 rfl (iX5_firstPrice _ (List.mem_of_getElem? (i := 0) rfl)) rfl ?_
  refine z_iload_n B 2 rfl 1 1 rfl rfl ?_
  obtain ⟨r1, ec, hf⟩ := bd_e hf
  refine z_callN [.ref (a0 + 4), .int a1] [] [.int r1] X B 3 rfl miX6_at ⟨List.mem_of_getElem? (i := 13) rfl, (iX5_firstPrice _ (List.mem_of_getElem? (i := 1) rfl))⟩ (ctX6_at hj (obf_5_4 o_a0) ec) ⟨Nat.le_of_ble_eq_true rfl, Nat.le_of_ble_eq_true rfl⟩ rfl rfl (Nat.le_of_ble_eq_true rfl) rfl ?_
  by_cases hc : r1 = 0
  · replace hf := (if_pos hc).symm.trans hf
    refine z_if_ne_f B 4 rfl 15 (by decide) hc ?_
    refine z_iconst 0 B 5 rfl (by decide) ?_
    refine z_goto B 6 rfl 25 (by decide) ?_
    cases hf
    exact z_iret B 13 rfl rfl hQ hr
  · replace hf := (if_neg hc).symm.trans hf
    refine z_if_ne_t B 4 rfl 15 (by decide) hc ?_
    refine z_aload_n B 7 rfl 0 0 rfl rfl ?_
    refine z_getr 5 6 a0 B 8 rfl o_a0 rfl (iX5_firstPrice _ (List.mem_of_getElem? (i := 2) rfl)) rfl ?_
    refine z_iload_n B 9 rfl 1 1 rfl rfl ?_
    refine z_iconst 4 B 10 rfl (by decide) ?_
    refine z_imul B 11 rfl ?_
    obtain ⟨r2, ec, hf⟩ := bd_e hf
    refine z_callN [.ref (a0 + 6), .int (a1 * (4 : Int32))] [] [.int r2] X B 12 rfl miX6_at ⟨List.mem_of_getElem? (i := 13) rfl, (iX5_firstPrice _ (List.mem_of_getElem? (i := 1) rfl))⟩ (ctX6_at hj (obf_5_6 o_a0) ec) ⟨Nat.le_of_ble_eq_true rfl, Nat.le_of_ble_eq_true rfl⟩ rfl rfl (Nat.le_of_ble_eq_true rfl) rfl ?_
    cases hf
    exact z_iret B 13 rfl rfl hQ hr
/-! ZoneCapacity$Auction.readTop()V -/
def tbX0_readTop : Tb := [(0, .aload_n 0, 1, 1), (1, .iconst 0, 1, 2), (2, .putfield 98, 3, 5), (5, .iconst 0, 1, 6), (6, .istore_n 1, 1, 7), (7, .iload_n 1, 1, 8), (8, .aload_n 0, 1, 9), (9, .getfield 12, 3, 12), (12, .getfield 60, 3, 15), (15, .getfield 64, 3, 18), (18, .if_icmp .ge 31, 3, 21), (21, .aload_n 0, 1, 22), (22, .aload_n 0, 1, 23), (23, .getfield 98, 3, 26), (26, .aload_n 0, 1, 27), (27, .getfield 12, 3, 30), (30, .getfield 60, 3, 33), (33, .iload_n 1, 1, 34), (34, .invokevirtual 101, 3, 37), (37, .invokestatic 105, 3, 40), (40, .putfield 98, 3, 43), (43, .iinc 1 1, 3, 46), (46, .goto (-39), 3, 49), (49, .return_, 1, 50)]
theorem dtX0_readTop : ∀ q ∈ tbX0_readTop, decode cX0_readTop q.1 = .ok (q.2.1, q.2.2.1) ∧ q.1 + q.2.2.1 = q.2.2.2 := by decide +kernel
theorem miX0_readTop : MI yX0_readTop cX0_readTop 2 none 0 := ⟨tw_mem (List.mem_of_getElem? (i := 716) (by decide +kernel)) rfl, by decide, by decide +kernel, tw_mem (List.mem_of_getElem? (i := 72) (by decide +kernel)) rfl⟩
abbrev rmX0_readTop : Room := { frames := 2, cells := 0, slots := 0, locals := 42 }
def wX0_readTop : List Cond := [.fieldLink "ZoneCapacity$Auction" 98 "ZoneCapacity$Auction" "top" "I", .fieldLink "ZoneCapacity$Auction" 12 "ZoneCapacity$Auction" "market" "LZoneCapacity$Market;", .fieldLink "ZoneCapacity$Auction" 60 "ZoneCapacity$Market" "zones" "LZoneCapacity$Zones;", .fieldLink "ZoneCapacity$Auction" 64 "ZoneCapacity$Zones" "many" "I", .methodLink "ZoneCapacity$Auction" 101 yX5_firstPrice, .instanceMethod yX5_firstPrice, .selects "ZoneCapacity$Zones" yX5_firstPrice yX5_firstPrice, .methodLink "ZoneCapacity$Auction" 105 ⟨"java/lang/Math", "max", "(II)I"⟩, .static ⟨"java/lang/Math", "max", "(II)I"⟩, .initialized "java/lang/Math", .code Lib.Math.max.name Lib.Math.max.code 2 (some .int)]
theorem iX0_readTop : ∀ w ∈ wX0_readTop, w ∈ TW := tw_of (ids := [240, 224, 212, 118, 717, 718, 719, 721, 645, 87, 646]) (by decide +kernel)
def f0_readTop_l7 : Nat → Nat → Int32 → Mem → Option Mem
  | 0, _, _, _ => none
  | n + 1, x0, x1, mm => if x1 < (mm (x0 + 1 + 1) 0) then bd (f5_firstPrice mm (x0 + 1 + 1) x1) (fun r2 => nm (mxi (mm x0 11) r2) (fun v3 => nm (up2 mm x0 11 v3) (fun m4 => nm (x1 + 1) (fun v5 => f0_readTop_l7 n x0 v5 m4)))) else some mm
theorem f0_readTop_l7_ok {E : Ev} {l : Launch} {C : Cfg} {x : Mem} (hj : Dj C) (X : Ec E l C rmX0_readTop) (B : Bx E RX0 tbX0_readTop 2 none) (hQ : Rt E) (hr : Rs E none x) (n : Nat) : ∀ (x0 : Nat) (x1 : Int32) (mm : Mem), Ob x0 0 → f0_readTop_l7 n x0 x1 mm = some x → G E 2 7 [(0, .ref x0), (1, .int x1)] [] mm := by
  induction n with
  | zero =>
    intro x0 x1 mm o_x0 hf
    rw [f0_readTop_l7] at hf
    cases hf
  | succ n ih =>
    intro x0 x1 mm o_x0 hf
    rw [f0_readTop_l7] at hf
    refine z_iload_n B 5 rfl 1 1 rfl rfl ?_
    refine z_aload_n B 6 rfl 0 0 rfl rfl ?_
    refine z_getr 0 0 x0 B 7 rfl o_x0 rfl (iX0_readTop _ (List.mem_of_getElem? (i := 1) rfl)) rfl ?_
    refine z_getr 1 0 (x0 + 1) B 8 rfl (obf_0_0 o_x0) rfl (iX0_readTop _ (List.mem_of_getElem? (i := 2) rfl)) rfl ?_
    refine z_geti 5 0 (x0 + 1 + 1) B 9 rfl (obf_1_0 (obf_0_0 o_x0)) rfl (iX0_readTop _ (List.mem_of_getElem? (i := 3) rfl)) rfl ?_
    by_cases hc : x1 < (mm (x0 + 1 + 1) 0)
    · replace hf := (if_pos hc).symm.trans hf
      refine z_icmp_ge_f B 10 rfl 49 (by decide) hc ?_
      refine z_aload_n B 11 rfl 0 0 rfl rfl ?_
      refine z_aload_n B 12 rfl 0 0 rfl rfl ?_
      refine z_geti 0 11 x0 B 13 rfl o_x0 rfl (iX0_readTop _ (List.mem_of_getElem? (i := 0) rfl)) rfl ?_
      refine z_aload_n B 14 rfl 0 0 rfl rfl ?_
      refine z_getr 0 0 x0 B 15 rfl o_x0 rfl (iX0_readTop _ (List.mem_of_getElem? (i := 1) rfl)) rfl ?_
      refine z_getr 1 0 (x0 + 1) B 16 rfl (obf_0_0 o_x0) rfl (iX0_readTop _ (List.mem_of_getElem? (i := 2) rfl)) rfl ?_
      refine z_iload_n B 17 rfl 1 1 rfl rfl ?_
      obtain ⟨r2, ec, hf⟩ := bd_e hf
      refine z_callV (x0 + 1 + 1) 5 [.int x1] [.int (mm x0 11), .ref x0] [.int r2, .int (mm x0 11), .ref x0] X B 18 rfl (obf_1_0 (obf_0_0 o_x0)) rfl rfl miX5_firstPrice ⟨(iX0_readTop _ (List.mem_of_getElem? (i := 4) rfl)), (iX0_readTop _ (List.mem_of_getElem? (i := 5) rfl)), (iX0_readTop _ (List.mem_of_getElem? (i := 6) rfl))⟩ (ctX5_firstPrice hj (obf_1_0 (obf_0_0 o_x0)) ec) ⟨Nat.le_of_ble_eq_true rfl, Nat.le_of_ble_eq_true rfl⟩ rfl rfl (Nat.le_of_ble_eq_true rfl) rfl ?_
      refine z_mmax X B 19 rfl ⟨(iX0_readTop _ (List.mem_of_getElem? (i := 7) rfl)), (iX0_readTop _ (List.mem_of_getElem? (i := 8) rfl)), (iX0_readTop _ (List.mem_of_getElem? (i := 9) rfl)), (iX0_readTop _ (List.mem_of_getElem? (i := 10) rfl))⟩ ⟨Nat.le_of_ble_eq_true rfl, Nat.le_of_ble_eq_true rfl⟩ (Nat.le_of_ble_eq_true rfl) ?_
      obtain ⟨v3, ex, hf⟩ := nm_x hf
      refine z_top ex ?_
      refine z_puti 0 11 x0 B 20 rfl o_x0 rfl (iX0_readTop _ (List.mem_of_getElem? (i := 0) rfl)) rfl (ty := .int) (by decide) rfl rfl rfl ?_
      obtain ⟨m4, ex, hf⟩ := nm_x hf
      refine z_mem ex ?_
      obtain ⟨v5, ex, hf⟩ := nm_x hf
      refine z_iinc v5 [(1, .int v5), (0, .ref x0)] B 21 rfl 1 rfl (ex.symm) (by decide) rfl ?_
      refine z_goto B 22 rfl 7 (by decide) ?_
      refine z_sub [(0, .ref x0), (1, .int v5)] [1, 0] rfl ?_
      exact ih _ _ _ o_x0  hf
    · replace hf := (if_neg hc).symm.trans hf
      refine z_icmp_ge_t B 10 rfl 49 (by decide) hc ?_
      cases hf
      exact z_vret B 23 rfl hQ hr
def f0_readTop (mm : Mem) (a0 : Nat) : Option Mem := nm (up2 mm a0 11 (0 : Int32)) (fun m1 => f0_readTop_l7 FU a0 (0 : Int32) m1)
theorem ctX0_readTop {l : Launch} {C : Cfg} (hj : Dj C) {mm : Mem} {a0 : Nat} {x : Mem} (o_a0 : Ob a0 0) (hf : f0_readTop mm a0 = some x) : Ct l C yX0_readTop cX0_readTop 2 none 2 42 [.ref a0] mm none x := by
  refine Ct.of (tb := tbX0_readTop) hj miX0_readTop.2.1 miX0_readTop.1 dtX0_readTop (Nat.le_of_ble_eq_true rfl) ?_
  intro E B hQ hr X
  unfold f0_readTop at hf
  show G E 2 0 [(0, .ref a0)] [] mm
  refine z_aload_n B 0 rfl 0 0 rfl rfl ?_
  refine z_iconst 0 B 1 rfl (by decide) ?_
  refine z_puti 0 11 a0 B 2 rfl o_a0 rfl (iX0_readTop _ (List.mem_of_getElem? (i := 0) rfl)) rfl (ty := .int) (by decide) rfl rfl rfl ?_
  obtain ⟨m1, ex, hf⟩ := nm_x hf
  refine z_mem ex ?_
  refine z_iconst 0 B 3 rfl (by decide) ?_
  refine z_istore_n [(1, .int (0 : Int32)), (0, .ref a0)] B 4 rfl 1 rfl (by decide) rfl ?_
  refine z_sub [(0, .ref a0), (1, .int (0 : Int32))] [1, 0] rfl ?_
  exact f0_readTop_l7_ok hj X B hQ hr FU _ _ _ o_a0  hf
/-! ZoneCapacity$Zones.wantedBetween(IIII)I -/
def tbX5_wantedBetween : Tb := [(0, .iload_n 0, 1, 1), (1, .iload_n 1, 1, 2), (2, .isub, 1, 3), (3, .istore 4, 2, 5), (5, .iload 4, 2, 7), (7, .ifCond .gt 5, 3, 10), (10, .iconst 0, 1, 11), (11, .ireturn, 1, 12), (12, .iload_n 0, 1, 13), (13, .iload_n 3, 1, 14), (14, .isub, 1, 15), (15, .iconst 1, 1, 16), (16, .iadd, 1, 17), (17, .iload_n 2, 1, 18), (18, .imul, 1, 19), (19, .iconst 1, 1, 20), (20, .isub, 1, 21), (21, .iload 4, 2, 23), (23, .idiv, 1, 24), (24, .ireturn, 1, 25)]
theorem dtX5_wantedBetween : ∀ q ∈ tbX5_wantedBetween, decode cX5_wantedBetween q.1 = .ok (q.2.1, q.2.2.1) ∧ q.1 + q.2.2.1 = q.2.2.2 := by decide +kernel
theorem miX5_wantedBetween : MI yX5_wantedBetween cX5_wantedBetween 5 (some .int) 4 := ⟨tw_mem (List.mem_of_getElem? (i := 672) (by decide +kernel)) rfl, by decide, by decide +kernel, tw_mem (List.mem_of_getElem? (i := 74) (by decide +kernel)) rfl⟩
abbrev rmX5_wantedBetween : Room := { frames := 0, cells := 0, slots := 0, locals := 0 }
def f5_wantedBetween (mm : Mem) (a0 : Int32) (a1 : Int32) (a2 : Int32) (a3 : Int32) : Option Int32 := nm (a0 - a1) (fun v1 => if 0 < v1 then dvz v1 (some (((((a0 - a3) + (1 : Int32)) * a2) - (1 : Int32)) / v1)) else some ((0 : Int32)))
theorem ctX5_wantedBetween {l : Launch} {C : Cfg} (hj : Dj C) {mm : Mem} {a0 : Int32} {a1 : Int32} {a2 : Int32} {a3 : Int32} {x : Int32} (hf : f5_wantedBetween mm a0 a1 a2 a3 = some x) : Ct l C yX5_wantedBetween cX5_wantedBetween 5 (some .int) 0 0 [.int a0, .int a1, .int a2, .int a3] mm (some (.int x)) mm := by
  refine Ct.of (tb := tbX5_wantedBetween) hj miX5_wantedBetween.2.1 miX5_wantedBetween.1 dtX5_wantedBetween (Nat.le_of_ble_eq_true rfl) ?_
  intro E B hQ hr X
  unfold f5_wantedBetween at hf
  show G E 5 0 [(0, .int a0), (1, .int a1), (2, .int a2), (3, .int a3)] [] mm
  refine z_iload_n B 0 rfl 0 0 rfl rfl ?_
  refine z_iload_n B 1 rfl 1 1 rfl rfl ?_
  refine z_isub B 2 rfl ?_
  obtain ⟨v1, ex, hf⟩ := nm_x hf
  refine z_top ex ?_
  refine z_istore [(4, .int v1), (0, .int a0), (1, .int a1), (2, .int a2), (3, .int a3)] B 3 rfl (by decide) rfl ?_
  refine z_iload B 4 rfl 0 rfl ?_
  by_cases hc : 0 < v1
  · replace hf := (if_pos hc).symm.trans hf
    refine z_if_gt_t B 5 rfl 12 (by decide) hc ?_
    refine z_iload_n B 8 rfl 0 1 rfl rfl ?_
    refine z_iload_n B 9 rfl 3 4 rfl rfl ?_
    refine z_isub B 10 rfl ?_
    refine z_iconst 1 B 11 rfl (by decide) ?_
    refine z_iadd B 12 rfl ?_
    refine z_iload_n B 13 rfl 2 3 rfl rfl ?_
    refine z_imul B 14 rfl ?_
    refine z_iconst 1 B 15 rfl (by decide) ?_
    refine z_isub B 16 rfl ?_
    refine z_iload B 17 rfl 0 rfl ?_
    obtain ⟨hz, hf⟩ := dvz_e hf
    refine z_idiv B 18 rfl hz ?_
    cases hf
    exact z_iret B 19 rfl rfl hQ hr
  · replace hf := (if_neg hc).symm.trans hf
    refine z_if_gt_f B 5 rfl 12 (by decide) hc ?_
    refine z_iconst 0 B 6 rfl (by decide) ?_
    cases hf
    exact z_iret B 7 rfl rfl hQ hr
/-! ZoneCapacity$Zones.wantedFrom(II)I -/
def tbX5_wantedFrom : Tb := [(0, .iconst 0, 1, 1), (1, .istore_n 3, 1, 2), (2, .iconst 0, 1, 3), (3, .istore 4, 2, 5), (5, .iconst 0, 1, 6), (6, .istore 5, 2, 8), (8, .iload 5, 2, 10), (10, .aload_n 0, 1, 11), (11, .getfield 25, 3, 14), (14, .iload_n 1, 1, 15), (15, .invokestatic 46, 3, 18), (18, .if_icmp .ge 76, 3, 21), (21, .aload_n 0, 1, 22), (22, .getfield 28, 3, 25), (25, .iload_n 1, 1, 26), (26, .iconst 4, 1, 27), (27, .imul, 1, 28), (28, .iload 5, 2, 30), (30, .iadd, 1, 31), (31, .invokestatic 46, 3, 34), (34, .istore 6, 2, 36), (36, .aload_n 0, 1, 37), (37, .getfield 31, 3, 40), (40, .iload_n 1, 1, 41), (41, .iconst 4, 1, 42), (42, .imul, 1, 43), (43, .iload 5, 2, 45), (45, .iadd, 1, 46), (46, .invokestatic 46, 3, 49), (49, .istore 7, 2, 51), (51, .iload 7, 2, 53), (53, .iload_n 2, 1, 54), (54, .if_icmp .ge 27, 3, 57), (57, .iload 5, 2, 59), (59, .ifCond .ne 7, 3, 62), (62, .iconst 0, 1, 63), (63, .goto 17, 3, 66), (66, .iload_n 3, 1, 67), (67, .iload 4, 2, 69), (69, .iload 7, 2, 71), (71, .iload 6, 2, 73), (73, .iload_n 3, 1, 74), (74, .isub, 1, 75), (75, .iload_n 2, 1, 76), (76, .invokestatic 60, 3, 79), (79, .iadd, 1, 80), (80, .ireturn, 1, 81), (81, .iload 6, 2, 83), (83, .istore_n 3, 1, 84), (84, .iload 7, 2, 86), (86, .istore 4, 2, 88), (88, .iinc 5 1, 3, 91), (91, .goto (-83), 3, 94), (94, .iload_n 3, 1, 95), (95, .ireturn, 1, 96)]
theorem dtX5_wantedFrom : ∀ q ∈ tbX5_wantedFrom, decode cX5_wantedFrom q.1 = .ok (q.2.1, q.2.2.1) ∧ q.1 + q.2.2.1 = q.2.2.2 := by decide +kernel
theorem miX5_wantedFrom : MI yX5_wantedFrom cX5_wantedFrom 8 (some .int) 2 := ⟨tw_mem (List.mem_of_getElem? (i := 669) (by decide +kernel)) rfl, by decide, by decide +kernel, tw_mem (List.mem_of_getElem? (i := 74) (by decide +kernel)) rfl⟩
abbrev rmX5_wantedFrom : Room := { frames := 1, cells := 0, slots := 0, locals := 24 }
def wX5_wantedFrom : List Cond := [.fieldLink "ZoneCapacity$Zones" 25 "ZoneCapacity$Zones" "points" "[I", .static yX6_at, .fieldLink "ZoneCapacity$Zones" 28 "ZoneCapacity$Zones" "pointUnits" "[I", .fieldLink "ZoneCapacity$Zones" 31 "ZoneCapacity$Zones" "pointPrices" "[I", .methodLink "ZoneCapacity$Zones" 60 yX5_wantedBetween, .static yX5_wantedBetween]
theorem iX5_wantedFrom : ∀ w ∈ wX5_wantedFrom, w ∈ TW := tw_of (ids := [132, 387, 134, 135, 670, 671]) (by decide +kernel)
def f5_wantedFrom_l8 (mm : Mem) : Nat → Nat → Int32 → Int32 → Int32 → Int32 → Int32 → Option Int32
  | 0, _, _, _, _, _, _ => none
  | n + 1, x0, x1, x2, x3, x4, x5 => bd (f6_at mm (x0 + 4) x1) (fun r1 => if x5 < r1 then bd (f6_at mm (x0 + 5) ((x1 * (4 : Int32)) + x5)) (fun r2 => bd (f6_at mm (x0 + 6) ((x1 * (4 : Int32)) + x5)) (fun r3 => if r3 < x2 then if x5 = 0 then some ((0 : Int32)) else bd (f5_wantedBetween mm x4 r3 (r2 - x3) x2) (fun r5 => some (x3 + r5)) else nm (x5 + 1) (fun v4 => f5_wantedFrom_l8 mm n x0 x1 x2 r2 r3 v4))) else some (x3))
theorem f5_wantedFrom_l8_ok {E : Ev} {l : Launch} {C : Cfg} {mm : Mem} {x : Int32} (hj : Dj C) (X : Ec E l C rmX5_wantedFrom) (B : Bx E RX5 tbX5_wantedFrom 8 (some .int)) (hQ : Rt E) (hr : Rs E (some (.int x)) mm) (n : Nat) : ∀ (x0 : Nat) (x1 : Int32) (x2 : Int32) (x3 : Int32) (x4 : Int32) (x5 : Int32), Ob x0 5 → f5_wantedFrom_l8 mm n x0 x1 x2 x3 x4 x5 = some x → G E 8 8 [(0, .ref x0), (1, .int x1), (2, .int x2), (3, .int x3), (4, .int x4), (5, .int x5)] [] mm := by
  induction n with
  | zero =>
    intro x0 x1 x2 x3 x4 x5 o_x0 hf
    rw [f5_wantedFrom_l8] at hf
    cases hf
  | succ n ih =>
    intro x0 x1 x2 x3 x4 x5 o_x0 hf
    rw [f5_wantedFrom_l8] at hf
    refine z_iload B 6 rfl 5 rfl ?_
    refine z_aload_n B 7 rfl 0 0 rfl rfl ?_
    refine z_getr 5 4 x0 B 8 rfl o_x0 rfl (iX5_wantedFrom _ (List.mem_of_getElem? (i := 0) rfl)) rfl ?_
    refine z_iload_n B 9 rfl 1 1 rfl rfl ?_
    obtain ⟨r1, ec, hf⟩ := bd_e hf
    refine z_callN [.ref (x0 + 4), .int x1] [.int x5] [.int r1, .int x5] X B 10 rfl miX6_at ⟨List.mem_of_getElem? (i := 13) rfl, (iX5_wantedFrom _ (List.mem_of_getElem? (i := 1) rfl))⟩ (ctX6_at hj (obf_5_4 o_x0) ec) ⟨Nat.le_of_ble_eq_true rfl, Nat.le_of_ble_eq_true rfl⟩ rfl rfl (Nat.le_of_ble_eq_true rfl) rfl ?_
    by_cases hc : x5 < r1
    · replace hf := (if_pos hc).symm.trans hf
      refine z_icmp_ge_f B 11 rfl 94 (by decide) hc ?_
      refine z_aload_n B 12 rfl 0 0 rfl rfl ?_
      refine z_getr 5 5 x0 B 13 rfl o_x0 rfl (iX5_wantedFrom _ (List.mem_of_getElem? (i := 2) rfl)) rfl ?_
      refine z_iload_n B 14 rfl 1 1 rfl rfl ?_
      refine z_iconst 4 B 15 rfl (by decide) ?_
      refine z_imul B 16 rfl ?_
      refine z_iload B 17 rfl 5 rfl ?_
      refine z_iadd B 18 rfl ?_
      obtain ⟨r2, ec, hf⟩ := bd_e hf
      refine z_callN [.ref (x0 + 5), .int ((x1 * (4 : Int32)) + x5)] [] [.int r2] X B 19 rfl miX6_at ⟨List.mem_of_getElem? (i := 13) rfl, (iX5_wantedFrom _ (List.mem_of_getElem? (i := 1) rfl))⟩ (ctX6_at hj (obf_5_5 o_x0) ec) ⟨Nat.le_of_ble_eq_true rfl, Nat.le_of_ble_eq_true rfl⟩ rfl rfl (Nat.le_of_ble_eq_true rfl) rfl ?_
      refine z_istore [(6, .int r2), (0, .ref x0), (1, .int x1), (2, .int x2), (3, .int x3), (4, .int x4), (5, .int x5)] B 20 rfl (by decide) rfl ?_
      refine z_aload_n B 21 rfl 0 1 rfl rfl ?_
      refine z_getr 5 6 x0 B 22 rfl o_x0 rfl (iX5_wantedFrom _ (List.mem_of_getElem? (i := 3) rfl)) rfl ?_
      refine z_iload_n B 23 rfl 1 2 rfl rfl ?_
      refine z_iconst 4 B 24 rfl (by decide) ?_
      refine z_imul B 25 rfl ?_
      refine z_iload B 26 rfl 6 rfl ?_
      refine z_iadd B 27 rfl ?_
      obtain ⟨r3, ec, hf⟩ := bd_e hf
      refine z_callN [.ref (x0 + 6), .int ((x1 * (4 : Int32)) + x5)] [] [.int r3] X B 28 rfl miX6_at ⟨List.mem_of_getElem? (i := 13) rfl, (iX5_wantedFrom _ (List.mem_of_getElem? (i := 1) rfl))⟩ (ctX6_at hj (obf_5_6 o_x0) ec) ⟨Nat.le_of_ble_eq_true rfl, Nat.le_of_ble_eq_true rfl⟩ rfl rfl (Nat.le_of_ble_eq_true rfl) rfl ?_
      refine z_istore [(7, .int r3), (6, .int r2), (0, .ref x0), (1, .int x1), (2, .int x2), (3, .int x3), (4, .int x4), (5, .int x5)] B 29 rfl (by decide) rfl ?_
      refine z_iload B 30 rfl 0 rfl ?_
      refine z_iload_n B 31 rfl 2 4 rfl rfl ?_
      by_cases hc : r3 < x2
      · replace hf := (if_pos hc).symm.trans hf
        refine z_icmp_ge_f B 32 rfl 81 (by decide) hc ?_
        refine z_iload B 33 rfl 7 rfl ?_
        by_cases hc : x5 = 0
        · replace hf := (if_pos hc).symm.trans hf
          refine z_if_ne_f B 34 rfl 66 (by decide) hc ?_
          refine z_iconst 0 B 35 rfl (by decide) ?_
          refine z_goto B 36 rfl 80 (by decide) ?_
          cases hf
          exact z_iret B 46 rfl rfl hQ hr
        · replace hf := (if_neg hc).symm.trans hf
          refine z_if_ne_t B 34 rfl 66 (by decide) hc ?_
          refine z_iload_n B 37 rfl 3 5 rfl rfl ?_
          refine z_iload B 38 rfl 6 rfl ?_
          refine z_iload B 39 rfl 0 rfl ?_
          refine z_iload B 40 rfl 1 rfl ?_
          refine z_iload_n B 41 rfl 3 5 rfl rfl ?_
          refine z_isub B 42 rfl ?_
          refine z_iload_n B 43 rfl 2 4 rfl rfl ?_
          obtain ⟨r5, ec, hf⟩ := bd_e hf
          refine z_callS [.int x4, .int r3, .int (r2 - x3), .int x2] [.int x3] [.int r5, .int x3] X B 44 rfl miX5_wantedBetween ⟨(iX5_wantedFrom _ (List.mem_of_getElem? (i := 4) rfl)), (iX5_wantedFrom _ (List.mem_of_getElem? (i := 5) rfl))⟩ (ctX5_wantedBetween hj ec) ⟨Nat.le_of_ble_eq_true rfl, Nat.le_of_ble_eq_true rfl⟩ rfl rfl (Nat.le_of_ble_eq_true rfl) rfl ?_
          refine z_iadd B 45 rfl ?_
          cases hf
          exact z_iret B 46 rfl rfl hQ hr
      · replace hf := (if_neg hc).symm.trans hf
        refine z_icmp_ge_t B 32 rfl 81 (by decide) hc ?_
        refine z_iload B 47 rfl 1 rfl ?_
        refine z_istore_n [(3, .int r2), (7, .int r3), (6, .int r2), (0, .ref x0), (1, .int x1), (2, .int x2), (4, .int x4), (5, .int x5)] B 48 rfl 3 rfl (by decide) rfl ?_
        refine z_iload B 49 rfl 1 rfl ?_
        refine z_istore [(4, .int r3), (3, .int r2), (7, .int r3), (6, .int r2), (0, .ref x0), (1, .int x1), (2, .int x2), (5, .int x5)] B 50 rfl (by decide) rfl ?_
        obtain ⟨v4, ex, hf⟩ := nm_x hf
        refine z_iinc v4 [(5, .int v4), (4, .int r3), (3, .int r2), (7, .int r3), (6, .int r2), (0, .ref x0), (1, .int x1), (2, .int x2)] B 51 rfl 7 rfl (ex.symm) (by decide) rfl ?_
        refine z_goto B 52 rfl 8 (by decide) ?_
        refine z_sub [(0, .ref x0), (1, .int x1), (2, .int x2), (3, .int r2), (4, .int r3), (5, .int v4)] [5, 6, 7, 2, 1, 0] rfl ?_
        exact ih _ _ _ _ _ _ o_x0  hf
    · replace hf := (if_neg hc).symm.trans hf
      refine z_icmp_ge_t B 11 rfl 94 (by decide) hc ?_
      refine z_iload_n B 53 rfl 3 3 rfl rfl ?_
      cases hf
      exact z_iret B 54 rfl rfl hQ hr
def f5_wantedFrom (mm : Mem) (a0 : Nat) (a1 : Int32) (a2 : Int32) : Option Int32 := f5_wantedFrom_l8 mm FU a0 a1 a2 (0 : Int32) (0 : Int32) (0 : Int32)
theorem ctX5_wantedFrom {l : Launch} {C : Cfg} (hj : Dj C) {mm : Mem} {a0 : Nat} {a1 : Int32} {a2 : Int32} {x : Int32} (o_a0 : Ob a0 5) (hf : f5_wantedFrom mm a0 a1 a2 = some x) : Ct l C yX5_wantedFrom cX5_wantedFrom 8 (some .int) 1 24 [.ref a0, .int a1, .int a2] mm (some (.int x)) mm := by
  refine Ct.of (tb := tbX5_wantedFrom) hj miX5_wantedFrom.2.1 miX5_wantedFrom.1 dtX5_wantedFrom (Nat.le_of_ble_eq_true rfl) ?_
  intro E B hQ hr X
  unfold f5_wantedFrom at hf
  show G E 8 0 [(0, .ref a0), (1, .int a1), (2, .int a2)] [] mm
  refine z_iconst 0 B 0 rfl (by decide) ?_
  refine z_istore_n [(3, .int (0 : Int32)), (0, .ref a0), (1, .int a1), (2, .int a2)] B 1 rfl 3 rfl (by decide) rfl ?_
  refine z_iconst 0 B 2 rfl (by decide) ?_
  refine z_istore [(4, .int (0 : Int32)), (3, .int (0 : Int32)), (0, .ref a0), (1, .int a1), (2, .int a2)] B 3 rfl (by decide) rfl ?_
  refine z_iconst 0 B 4 rfl (by decide) ?_
  refine z_istore [(5, .int (0 : Int32)), (4, .int (0 : Int32)), (3, .int (0 : Int32)), (0, .ref a0), (1, .int a1), (2, .int a2)] B 5 rfl (by decide) rfl ?_
  refine z_sub [(0, .ref a0), (1, .int a1), (2, .int a2), (3, .int (0 : Int32)), (4, .int (0 : Int32)), (5, .int (0 : Int32))] [3, 4, 5, 2, 1, 0] rfl ?_
  exact f5_wantedFrom_l8_ok hj X B hQ hr FU _ _ _ _ _ _ o_a0  hf
/-! ZoneCapacity$Auction.unitsBelow(II)I -/
def tbX0_unitsBelow : Tb := [(0, .iconst 0, 1, 1), (1, .istore_n 3, 1, 2), (2, .iload_n 1, 1, 3), (3, .iconst 4, 1, 4), (4, .imul, 1, 5), (5, .istore 4, 2, 7), (7, .iload 4, 2, 9), (9, .iload_n 1, 1, 10), (10, .iconst 4, 1, 11), (11, .imul, 1, 12), (12, .iconst 4, 1, 13), (13, .iadd, 1, 14), (14, .if_icmp .ge 34, 3, 17), (17, .aload_n 0, 1, 18), (18, .getfield 34, 3, 21), (21, .iload 4, 2, 23), (23, .invokestatic 69, 3, 26), (26, .iload_n 2, 1, 27), (27, .if_icmp .ge 15, 3, 30), (30, .iload_n 3, 1, 31), (31, .aload_n 0, 1, 32), (32, .getfield 31, 3, 35), (35, .iload 4, 2, 37), (37, .invokestatic 69, 3, 40), (40, .iadd, 1, 41), (41, .istore_n 3, 1, 42), (42, .iinc 4 1, 3, 45), (45, .goto (-38), 3, 48), (48, .iload_n 3, 1, 49), (49, .ireturn, 1, 50)]
theorem dtX0_unitsBelow : ∀ q ∈ tbX0_unitsBelow, decode cX0_unitsBelow q.1 = .ok (q.2.1, q.2.2.1) ∧ q.1 + q.2.2.1 = q.2.2.2 := by decide +kernel
theorem miX0_unitsBelow : MI yX0_unitsBelow cX0_unitsBelow 5 (some .int) 2 := ⟨tw_mem (List.mem_of_getElem? (i := 698) (by decide +kernel)) rfl, by decide, by decide +kernel, tw_mem (List.mem_of_getElem? (i := 72) (by decide +kernel)) rfl⟩
abbrev rmX0_unitsBelow : Room := { frames := 1, cells := 0, slots := 0, locals := 21 }
def wX0_unitsBelow : List Cond := [.fieldLink "ZoneCapacity$Auction" 34 "ZoneCapacity$Auction" "its" "[I", .static yX6_at, .fieldLink "ZoneCapacity$Auction" 31 "ZoneCapacity$Auction" "units" "[I"]
theorem iX0_unitsBelow : ∀ w ∈ wX0_unitsBelow, w ∈ TW := tw_of (ids := [235, 387, 234]) (by decide +kernel)
def f0_unitsBelow_j42 (k7 : Nat → Int32 → Int32 → Int32 → Int32 → Option Int32) (mm : Mem) (x0 : Nat) (x1 : Int32) (x2 : Int32) (x3 : Int32) (x4 : Int32) : Option Int32 := nm (x4 + 1) (fun v3 => k7 x0 x1 x2 x3 v3)
theorem f0_unitsBelow_j42_ok {E : Ev} {l : Launch} {C : Cfg} {mm : Mem} {x : Int32} {k7 : Nat → Int32 → Int32 → Int32 → Int32 → Option Int32} (hj : Dj C) (X : Ec E l C rmX0_unitsBelow) (B : Bx E RX0 tbX0_unitsBelow 5 (some .int)) (hQ : Rt E) (hr : Rs E (some (.int x)) mm) (hk7 : ∀ (x0 : Nat) (x1 : Int32) (x2 : Int32) (x3 : Int32) (x4 : Int32), Ob x0 0 → k7 x0 x1 x2 x3 x4 = some x → G E 5 7 [(0, .ref x0), (1, .int x1), (2, .int x2), (3, .int x3), (4, .int x4)] [] mm) (x0 : Nat) (x1 : Int32) (x2 : Int32) (x3 : Int32) (x4 : Int32) (o_x0 : Ob x0 0) (hf : f0_unitsBelow_j42 k7 mm x0 x1 x2 x3 x4 = some x) : G E 5 42 [(0, .ref x0), (1, .int x1), (2, .int x2), (3, .int x3), (4, .int x4)] [] mm := by
  unfold f0_unitsBelow_j42 at hf
  obtain ⟨v3, ex, hf⟩ := nm_x hf
  refine z_iinc v3 [(4, .int v3), (0, .ref x0), (1, .int x1), (2, .int x2), (3, .int x3)] B 26 rfl 4 rfl (ex.symm) (by decide) rfl ?_
  refine z_goto B 27 rfl 7 (by decide) ?_
  refine z_sub [(0, .ref x0), (1, .int x1), (2, .int x2), (3, .int x3), (4, .int v3)] [1, 2, 3, 4, 0] rfl ?_
  exact hk7 _ _ _ _ _ o_x0  hf
def f0_unitsBelow_l7 (mm : Mem) : Nat → Nat → Int32 → Int32 → Int32 → Int32 → Option Int32
  | 0, _, _, _, _, _ => none
  | n + 1, x0, x1, x2, x3, x4 => if x4 < ((x1 * (4 : Int32)) + (4 : Int32)) then bd (f6_at mm (x0 + 25) x4) (fun r2 => if r2 < x2 then bd (f6_at mm (x0 + 24) x4) (fun r4 => nm (x3 + r4) (fun v5 => f0_unitsBelow_j42 (fun x0 x1 x2 x3 x4 => f0_unitsBelow_l7 mm n x0 x1 x2 x3 x4) mm x0 x1 x2 v5 x4)) else f0_unitsBelow_j42 (fun x0 x1 x2 x3 x4 => f0_unitsBelow_l7 mm n x0 x1 x2 x3 x4) mm x0 x1 x2 x3 x4) else some (x3)
theorem f0_unitsBelow_l7_ok {E : Ev} {l : Launch} {C : Cfg} {mm : Mem} {x : Int32} (hj : Dj C) (X : Ec E l C rmX0_unitsBelow) (B : Bx E RX0 tbX0_unitsBelow 5 (some .int)) (hQ : Rt E) (hr : Rs E (some (.int x)) mm) (n : Nat) : ∀ (x0 : Nat) (x1 : Int32) (x2 : Int32) (x3 : Int32) (x4 : Int32), Ob x0 0 → f0_unitsBelow_l7 mm n x0 x1 x2 x3 x4 = some x → G E 5 7 [(0, .ref x0), (1, .int x1), (2, .int x2), (3, .int x3), (4, .int x4)] [] mm := by
  induction n with
  | zero =>
    intro x0 x1 x2 x3 x4 o_x0 hf
    rw [f0_unitsBelow_l7] at hf
    cases hf
  | succ n ih =>
    intro x0 x1 x2 x3 x4 o_x0 hf
    rw [f0_unitsBelow_l7] at hf
    refine z_iload B 6 rfl 4 rfl ?_
    refine z_iload_n B 7 rfl 1 1 rfl rfl ?_
    refine z_iconst 4 B 8 rfl (by decide) ?_
    refine z_imul B 9 rfl ?_
    refine z_iconst 4 B 10 rfl (by decide) ?_
    refine z_iadd B 11 rfl ?_
    by_cases hc : x4 < ((x1 * (4 : Int32)) + (4 : Int32))
    · replace hf := (if_pos hc).symm.trans hf
      refine z_icmp_ge_f B 12 rfl 48 (by decide) hc ?_
      refine z_aload_n B 13 rfl 0 0 rfl rfl ?_
      refine z_getr 0 6 x0 B 14 rfl o_x0 rfl (iX0_unitsBelow _ (List.mem_of_getElem? (i := 0) rfl)) rfl ?_
      refine z_iload B 15 rfl 4 rfl ?_
      obtain ⟨r2, ec, hf⟩ := bd_e hf
      refine z_callN [.ref (x0 + 25), .int x4] [] [.int r2] X B 16 rfl miX6_at ⟨List.mem_of_getElem? (i := 19) rfl, (iX0_unitsBelow _ (List.mem_of_getElem? (i := 1) rfl))⟩ (ctX6_at hj (obf_0_6 o_x0) ec) ⟨Nat.le_of_ble_eq_true rfl, Nat.le_of_ble_eq_true rfl⟩ rfl rfl (Nat.le_of_ble_eq_true rfl) rfl ?_
      refine z_iload_n B 17 rfl 2 2 rfl rfl ?_
      by_cases hc : r2 < x2
      · replace hf := (if_pos hc).symm.trans hf
        refine z_icmp_ge_f B 18 rfl 42 (by decide) hc ?_
        refine z_iload_n B 19 rfl 3 3 rfl rfl ?_
        refine z_aload_n B 20 rfl 0 0 rfl rfl ?_
        refine z_getr 0 5 x0 B 21 rfl o_x0 rfl (iX0_unitsBelow _ (List.mem_of_getElem? (i := 2) rfl)) rfl ?_
        refine z_iload B 22 rfl 4 rfl ?_
        obtain ⟨r4, ec, hf⟩ := bd_e hf
        refine z_callN [.ref (x0 + 24), .int x4] [.int x3] [.int r4, .int x3] X B 23 rfl miX6_at ⟨List.mem_of_getElem? (i := 19) rfl, (iX0_unitsBelow _ (List.mem_of_getElem? (i := 1) rfl))⟩ (ctX6_at hj (obf_0_5 o_x0) ec) ⟨Nat.le_of_ble_eq_true rfl, Nat.le_of_ble_eq_true rfl⟩ rfl rfl (Nat.le_of_ble_eq_true rfl) rfl ?_
        refine z_iadd B 24 rfl ?_
        obtain ⟨v5, ex, hf⟩ := nm_x hf
        refine z_top ex ?_
        refine z_istore_n [(3, .int v5), (0, .ref x0), (1, .int x1), (2, .int x2), (4, .int x4)] B 25 rfl 3 rfl (by decide) rfl ?_
        refine z_sub [(0, .ref x0), (1, .int x1), (2, .int x2), (3, .int v5), (4, .int x4)] [1, 2, 3, 0, 4] rfl ?_
        exact f0_unitsBelow_j42_ok hj X B hQ hr ih _ _ _ _ _ o_x0  hf
      · replace hf := (if_neg hc).symm.trans hf
        refine z_icmp_ge_t B 18 rfl 42 (by decide) hc ?_
        exact f0_unitsBelow_j42_ok hj X B hQ hr ih _ _ _ _ _ o_x0  hf
    · replace hf := (if_neg hc).symm.trans hf
      refine z_icmp_ge_t B 12 rfl 48 (by decide) hc ?_
      refine z_iload_n B 28 rfl 3 3 rfl rfl ?_
      cases hf
      exact z_iret B 29 rfl rfl hQ hr
def f0_unitsBelow (mm : Mem) (a0 : Nat) (a1 : Int32) (a2 : Int32) : Option Int32 := nm (a1 * (4 : Int32)) (fun v1 => f0_unitsBelow_l7 mm FU a0 a1 a2 (0 : Int32) v1)
theorem ctX0_unitsBelow {l : Launch} {C : Cfg} (hj : Dj C) {mm : Mem} {a0 : Nat} {a1 : Int32} {a2 : Int32} {x : Int32} (o_a0 : Ob a0 0) (hf : f0_unitsBelow mm a0 a1 a2 = some x) : Ct l C yX0_unitsBelow cX0_unitsBelow 5 (some .int) 1 21 [.ref a0, .int a1, .int a2] mm (some (.int x)) mm := by
  refine Ct.of (tb := tbX0_unitsBelow) hj miX0_unitsBelow.2.1 miX0_unitsBelow.1 dtX0_unitsBelow (Nat.le_of_ble_eq_true rfl) ?_
  intro E B hQ hr X
  unfold f0_unitsBelow at hf
  show G E 5 0 [(0, .ref a0), (1, .int a1), (2, .int a2)] [] mm
  refine z_iconst 0 B 0 rfl (by decide) ?_
  refine z_istore_n [(3, .int (0 : Int32)), (0, .ref a0), (1, .int a1), (2, .int a2)] B 1 rfl 3 rfl (by decide) rfl ?_
  refine z_iload_n B 2 rfl 1 2 rfl rfl ?_
  refine z_iconst 4 B 3 rfl (by decide) ?_
  refine z_imul B 4 rfl ?_
  obtain ⟨v1, ex, hf⟩ := nm_x hf
  refine z_top ex ?_
  refine z_istore [(4, .int v1), (3, .int (0 : Int32)), (0, .ref a0), (1, .int a1), (2, .int a2)] B 5 rfl (by decide) rfl ?_
  refine z_sub [(0, .ref a0), (1, .int a1), (2, .int a2), (3, .int (0 : Int32)), (4, .int v1)] [2, 3, 4, 1, 0] rfl ?_
  exact f0_unitsBelow_l7_ok hj X B hQ hr FU _ _ _ _ _ o_a0  hf
/-! ZoneCapacity$Zones.cut(II)I -/
def tbX5_cut : Tb := [(0, .aload_n 0, 1, 1), (1, .getfield 19, 3, 4), (4, .iload_n 1, 1, 5), (5, .invokestatic 46, 3, 8), (8, .ineg, 1, 9), (9, .aload_n 0, 1, 10), (10, .getfield 22, 3, 13), (13, .iload_n 1, 1, 14), (14, .invokestatic 46, 3, 17), (17, .iload_n 2, 1, 18), (18, .invokestatic 54, 3, 21), (21, .invokestatic 64, 3, 24), (24, .ireturn, 1, 25)]
theorem dtX5_cut : ∀ q ∈ tbX5_cut, decode cX5_cut q.1 = .ok (q.2.1, q.2.2.1) ∧ q.1 + q.2.2.1 = q.2.2.2 := by decide +kernel
theorem miX5_cut : MI yX5_cut cX5_cut 3 (some .int) 2 := ⟨tw_mem (List.mem_of_getElem? (i := 702) (by decide +kernel)) rfl, by decide, by decide +kernel, tw_mem (List.mem_of_getElem? (i := 74) (by decide +kernel)) rfl⟩
abbrev rmX5_cut : Room := { frames := 1, cells := 0, slots := 0, locals := 21 }
def wX5_cut : List Cond := [.fieldLink "ZoneCapacity$Zones" 19 "ZoneCapacity$Zones" "in" "[I", .static yX6_at, .fieldLink "ZoneCapacity$Zones" 22 "ZoneCapacity$Zones" "out" "[I", .methodLink "ZoneCapacity$Zones" 54 ⟨"java/lang/Math", "min", "(II)I"⟩, .static ⟨"java/lang/Math", "min", "(II)I"⟩, .initialized "java/lang/Math", .code Lib.Math.min.name Lib.Math.min.code 2 (some .int), .methodLink "ZoneCapacity$Zones" 64 ⟨"java/lang/Math", "max", "(II)I"⟩, .static ⟨"java/lang/Math", "max", "(II)I"⟩, .code Lib.Math.max.name Lib.Math.max.code 2 (some .int)]
theorem iX5_cut : ∀ w ∈ wX5_cut, w ∈ TW := tw_of (ids := [124, 387, 128, 703, 648, 87, 649, 704, 645, 646]) (by decide +kernel)
def f5_cut (mm : Mem) (a0 : Nat) (a1 : Int32) (a2 : Int32) : Option Int32 := bd (f6_at mm (a0 + 2) a1) (fun r1 => bd (f6_at mm (a0 + 3) a1) (fun r2 => nm (mni r2 a2) (fun v3 => nm (mxi (-r1) v3) (fun v4 => some (v4)))))
theorem ctX5_cut {l : Launch} {C : Cfg} (hj : Dj C) {mm : Mem} {a0 : Nat} {a1 : Int32} {a2 : Int32} {x : Int32} (o_a0 : Ob a0 5) (hf : f5_cut mm a0 a1 a2 = some x) : Ct l C yX5_cut cX5_cut 3 (some .int) 1 21 [.ref a0, .int a1, .int a2] mm (some (.int x)) mm := by
  refine Ct.of (tb := tbX5_cut) hj miX5_cut.2.1 miX5_cut.1 dtX5_cut (Nat.le_of_ble_eq_true rfl) ?_
  intro E B hQ hr X
  unfold f5_cut at hf
  show G E 3 0 [(0, .ref a0), (1, .int a1), (2, .int a2)] [] mm
  refine z_aload_n B 0 rfl 0 0 rfl rfl ?_
  refine z_getr 5 2 a0 B 1 rfl o_a0 rfl (iX5_cut _ (List.mem_of_getElem? (i := 0) rfl)) rfl ?_
  refine z_iload_n B 2 rfl 1 1 rfl rfl ?_
  obtain ⟨r1, ec, hf⟩ := bd_e hf
  refine z_callN [.ref (a0 + 2), .int a1] [] [.int r1] X B 3 rfl miX6_at ⟨List.mem_of_getElem? (i := 13) rfl, (iX5_cut _ (List.mem_of_getElem? (i := 1) rfl))⟩ (ctX6_at hj (obf_5_2 o_a0) ec) ⟨Nat.le_of_ble_eq_true rfl, Nat.le_of_ble_eq_true rfl⟩ rfl rfl (Nat.le_of_ble_eq_true rfl) rfl ?_
  refine z_ineg B 4 rfl ?_
  refine z_aload_n B 5 rfl 0 0 rfl rfl ?_
  refine z_getr 5 3 a0 B 6 rfl o_a0 rfl (iX5_cut _ (List.mem_of_getElem? (i := 2) rfl)) rfl ?_
  refine z_iload_n B 7 rfl 1 1 rfl rfl ?_
  obtain ⟨r2, ec, hf⟩ := bd_e hf
  refine z_callN [.ref (a0 + 3), .int a1] [.int (-r1)] [.int r2, .int (-r1)] X B 8 rfl miX6_at ⟨List.mem_of_getElem? (i := 13) rfl, (iX5_cut _ (List.mem_of_getElem? (i := 1) rfl))⟩ (ctX6_at hj (obf_5_3 o_a0) ec) ⟨Nat.le_of_ble_eq_true rfl, Nat.le_of_ble_eq_true rfl⟩ rfl rfl (Nat.le_of_ble_eq_true rfl) rfl ?_
  refine z_iload_n B 9 rfl 2 2 rfl rfl ?_
  refine z_mmin X B 10 rfl ⟨(iX5_cut _ (List.mem_of_getElem? (i := 3) rfl)), (iX5_cut _ (List.mem_of_getElem? (i := 4) rfl)), (iX5_cut _ (List.mem_of_getElem? (i := 5) rfl)), (iX5_cut _ (List.mem_of_getElem? (i := 6) rfl))⟩ ⟨Nat.le_of_ble_eq_true rfl, Nat.le_of_ble_eq_true rfl⟩ (Nat.le_of_ble_eq_true rfl) ?_
  obtain ⟨v3, ex, hf⟩ := nm_x hf
  refine z_top ex ?_
  refine z_mmax X B 11 rfl ⟨(iX5_cut _ (List.mem_of_getElem? (i := 7) rfl)), (iX5_cut _ (List.mem_of_getElem? (i := 8) rfl)), (iX5_cut _ (List.mem_of_getElem? (i := 5) rfl)), (iX5_cut _ (List.mem_of_getElem? (i := 9) rfl))⟩ ⟨Nat.le_of_ble_eq_true rfl, Nat.le_of_ble_eq_true rfl⟩ (Nat.le_of_ble_eq_true rfl) ?_
  obtain ⟨v4, ex, hf⟩ := nm_x hf
  refine z_top ex ?_
  cases hf
  exact z_iret B 12 rfl rfl hQ hr
/-! ZoneCapacity$Auction.fillLevels(II[I)V -/
def tbX0_fillLevels : Tb := [(0, .aload_n 0, 1, 1), (1, .getfield 12, 3, 4), (4, .getfield 60, 3, 7), (7, .astore 4, 2, 9), (9, .aload_n 0, 1, 10), (10, .getfield 12, 3, 13), (13, .getfield 85, 3, 16), (16, .astore 5, 2, 18), (18, .iload_n 1, 1, 19), (19, .istore 6, 2, 21), (21, .iload 6, 2, 23), (23, .aload 4, 2, 25), (25, .getfield 64, 3, 28), (28, .if_icmp .ge 24, 3, 31), (31, .aload_n 3, 1, 32), (32, .iload 6, 2, 34), (34, .aload 4, 2, 36), (36, .iload 6, 2, 38), (38, .iload_n 2, 1, 39), (39, .invokevirtual 110, 3, 42), (42, .ineg, 1, 43), (43, .invokestatic 56, 3, 46), (46, .iinc 6 1, 3, 49), (49, .goto (-28), 3, 52), (52, .iconst 0, 1, 53), (53, .istore 6, 2, 55), (55, .iload 6, 2, 57), (57, .aload 5, 2, 59), (59, .getfield 89, 3, 62), (62, .if_icmp .ge 47, 3, 65), (65, .aload 5, 2, 67), (67, .getfield 113, 3, 70), (70, .iload 6, 2, 72), (72, .invokestatic 69, 3, 75), (75, .istore 7, 2, 77), (77, .iload 7, 2, 79), (79, .iload_n 1, 1, 80), (80, .if_icmp .lt 23, 3, 83), (83, .aload_n 3, 1, 84), (84, .iload 7, 2, 86), (86, .aload_n 3, 1, 87), (87, .iload 7, 2, 89), (89, .invokestatic 69, 3, 92), (92, .aload_n 0, 1, 93), (93, .iload 6, 2, 95), (95, .iload_n 2, 1, 96), (96, .invokevirtual 115, 3, 99), (99, .iadd, 1, 100), (100, .invokestatic 56, 3, 103), (103, .iinc 6 1, 3, 106), (106, .goto (-51), 3, 109), (109, .aload 4, 2, 111), (111, .getfield 64, 3, 114), (114, .iconst 1, 1, 115), (115, .isub, 1, 116), (116, .istore 6, 2, 118), (118, .iload 6, 2, 120), (120, .iload_n 1, 1, 121), (121, .if_icmp .le 53, 3, 124), (124, .aload 4, 2, 126), (126, .getfield 118, 3, 129), (129, .iload 6, 2, 131), (131, .invokestatic 69, 3, 134), (134, .istore 7, 2, 136), (136, .iload 7, 2, 138), (138, .iload_n 1, 1, 139), (139, .if_icmp .lt 29, 3, 142), (142, .aload_n 3, 1, 143), (143, .iload 7, 2, 145), (145, .aload_n 3, 1, 146), (146, .iload 7, 2, 148), (148, .invokestatic 69, 3, 151), (151, .aload 4, 2, 153), (153, .iload 6, 2, 155), (155, .aload_n 3, 1, 156), (156, .iload 6, 2, 158), (158, .invokestatic 69, 3, 161), (161, .invokevirtual 121, 3, 164), (164, .iadd, 1, 165), (165, .invokestatic 56, 3, 168), (168, .iinc 6 (-1), 3, 171), (171, .goto (-53), 3, 174), (174, .return_, 1, 175)]
theorem dtX0_fillLevels : ∀ q ∈ tbX0_fillLevels, decode cX0_fillLevels q.1 = .ok (q.2.1, q.2.2.1) ∧ q.1 + q.2.2.1 = q.2.2.2 := by decide +kernel
theorem miX0_fillLevels : MI yX0_fillLevels cX0_fillLevels 8 none 3 := ⟨tw_mem (List.mem_of_getElem? (i := 692) (by decide +kernel)) rfl, by decide, by decide +kernel, tw_mem (List.mem_of_getElem? (i := 72) (by decide +kernel)) rfl⟩
abbrev rmX0_fillLevels : Room := { frames := 2, cells := 0, slots := 0, locals := 51 }
def wX0_fillLevels : List Cond := [.fieldLink "ZoneCapacity$Auction" 12 "ZoneCapacity$Auction" "market" "LZoneCapacity$Market;", .fieldLink "ZoneCapacity$Auction" 60 "ZoneCapacity$Market" "zones" "LZoneCapacity$Zones;", .fieldLink "ZoneCapacity$Auction" 85 "ZoneCapacity$Market" "offers" "LZoneCapacity$Offers;", .fieldLink "ZoneCapacity$Auction" 64 "ZoneCapacity$Zones" "many" "I", .fieldLink "ZoneCapacity$Auction" 89 "ZoneCapacity$Offers" "many" "I", .fieldLink "ZoneCapacity$Auction" 118 "ZoneCapacity$Zones" "outer" "[I", .static yX6_at, .methodLink "ZoneCapacity$Auction" 121 yX5_cut, .instanceMethod yX5_cut, .selects "ZoneCapacity$Zones" yX5_cut yX5_cut, .static yX6_put, .fieldLink "ZoneCapacity$Auction" 113 "ZoneCapacity$Offers" "zones" "[I", .methodLink "ZoneCapacity$Auction" 115 yX0_unitsBelow, .instanceMethod yX0_unitsBelow, .selects "ZoneCapacity$Auction" yX0_unitsBelow yX0_unitsBelow, .methodLink "ZoneCapacity$Auction" 110 yX5_wantedFrom, .instanceMethod yX5_wantedFrom, .selects "ZoneCapacity$Zones" yX5_wantedFrom yX5_wantedFrom]
theorem iX0_fillLevels : ∀ w ∈ wX0_fillLevels, w ∈ TW := tw_of (ids := [224, 212, 216, 118, 159, 122, 387, 699, 700, 701, 115, 169, 695, 697, 16, 693, 667, 668]) (by decide +kernel)
def f0_fillLevels_j168 (k118 : Int32 → Nat → Nat → Int32 → Mem → Option Mem) (x1 : Int32) (x3 : Nat) (x4 : Nat) (x6 : Int32) (mm : Mem) : Option Mem := nm (x6 + (-1)) (fun v3 => k118 x1 x3 x4 v3 mm)
theorem f0_fillLevels_j168_ok {E : Ev} {l : Launch} {C : Cfg} {x : Mem} {k118 : Int32 → Nat → Nat → Int32 → Mem → Option Mem} (hj : Dj C) (X : Ec E l C rmX0_fillLevels) (B : Bx E RX0 tbX0_fillLevels 8 none) (hQ : Rt E) (hr : Rs E none x) (hk118 : ∀ (x1 : Int32) (x3 : Nat) (x4 : Nat) (x6 : Int32) (mm : Mem), Ob x3 8 → Ob x4 5 → k118 x1 x3 x4 x6 mm = some x → G E 8 118 [(1, .int x1), (3, .ref x3), (4, .ref x4), (6, .int x6)] [] mm) (x1 : Int32) (x3 : Nat) (x4 : Nat) (x6 : Int32) (mm : Mem) (o_x3 : Ob x3 8) (o_x4 : Ob x4 5) (hf : f0_fillLevels_j168 k118 x1 x3 x4 x6 mm = some x) : G E 8 168 [(1, .int x1), (3, .ref x3), (4, .ref x4), (6, .int x6)] [] mm := by
  unfold f0_fillLevels_j168 at hf
  obtain ⟨v3, ex, hf⟩ := nm_x hf
  refine z_iinc v3 [(6, .int v3), (1, .int x1), (3, .ref x3), (4, .ref x4)] B 80 rfl 3 rfl (ex.symm) (by decide) rfl ?_
  refine z_goto B 81 rfl 118 (by decide) ?_
  refine z_sub [(1, .int x1), (3, .ref x3), (4, .ref x4), (6, .int v3)] [1, 2, 3, 0] rfl ?_
  exact hk118 _ _ _ _ _ o_x3 o_x4  hf
def f0_fillLevels_l118 : Nat → Int32 → Nat → Nat → Int32 → Mem → Option Mem
  | 0, _, _, _, _, _ => none
  | n + 1, x1, x3, x4, x6, mm => if x1 < x6 then bd (f6_at mm (x4 + 1) x6) (fun r2 => if r2 < x1 then f0_fillLevels_j168 (fun x1 x3 x4 x6 mm => f0_fillLevels_l118 n x1 x3 x4 x6 mm) x1 x3 x4 x6 mm else bd (f6_at mm x3 r2) (fun r4 => bd (f6_at mm x3 x6) (fun r5 => bd (f5_cut mm x4 x6 r5) (fun r6 => bd (f6_put mm x3 r2 (r4 + r6)) (fun r7 => f0_fillLevels_j168 (fun x1 x3 x4 x6 mm => f0_fillLevels_l118 n x1 x3 x4 x6 mm) x1 x3 x4 x6 r7))))) else some mm
theorem f0_fillLevels_l118_ok {E : Ev} {l : Launch} {C : Cfg} {x : Mem} (hj : Dj C) (X : Ec E l C rmX0_fillLevels) (B : Bx E RX0 tbX0_fillLevels 8 none) (hQ : Rt E) (hr : Rs E none x) (n : Nat) : ∀ (x1 : Int32) (x3 : Nat) (x4 : Nat) (x6 : Int32) (mm : Mem), Ob x3 8 → Ob x4 5 → f0_fillLevels_l118 n x1 x3 x4 x6 mm = some x → G E 8 118 [(1, .int x1), (3, .ref x3), (4, .ref x4), (6, .int x6)] [] mm := by
  induction n with
  | zero =>
    intro x1 x3 x4 x6 mm o_x3 o_x4 hf
    rw [f0_fillLevels_l118] at hf
    cases hf
  | succ n ih =>
    intro x1 x3 x4 x6 mm o_x3 o_x4 hf
    rw [f0_fillLevels_l118] at hf
    refine z_iload B 56 rfl 3 rfl ?_
    refine z_iload_n B 57 rfl 1 0 rfl rfl ?_
    by_cases hc : x1 < x6
    · replace hf := (if_pos hc).symm.trans hf
      refine z_icmp_le_f B 58 rfl 174 (by decide) hc ?_
      refine z_aload B 59 rfl 2 rfl ?_
      refine z_getr 5 1 x4 B 60 rfl o_x4 rfl (iX0_fillLevels _ (List.mem_of_getElem? (i := 5) rfl)) rfl ?_
      refine z_iload B 61 rfl 3 rfl ?_
      obtain ⟨r2, ec, hf⟩ := bd_e hf
      refine z_callN [.ref (x4 + 1), .int x6] [] [.int r2] X B 62 rfl miX6_at ⟨List.mem_of_getElem? (i := 19) rfl, (iX0_fillLevels _ (List.mem_of_getElem? (i := 6) rfl))⟩ (ctX6_at hj (obf_5_1 o_x4) ec) ⟨Nat.le_of_ble_eq_true rfl, Nat.le_of_ble_eq_true rfl⟩ rfl rfl (Nat.le_of_ble_eq_true rfl) rfl ?_
      refine z_istore [(7, .int r2), (1, .int x1), (3, .ref x3), (4, .ref x4), (6, .int x6)] B 63 rfl (by decide) rfl ?_
      refine z_iload B 64 rfl 0 rfl ?_
      refine z_iload_n B 65 rfl 1 1 rfl rfl ?_
      by_cases hc : r2 < x1
      · replace hf := (if_pos hc).symm.trans hf
        refine z_icmp_lt_t B 66 rfl 168 (by decide) hc ?_
        refine z_sub [(1, .int x1), (3, .ref x3), (4, .ref x4), (6, .int x6)] [1, 2, 3, 4] rfl ?_
        exact f0_fillLevels_j168_ok hj X B hQ hr ih _ _ _ _ _ o_x3 o_x4  hf
      · replace hf := (if_neg hc).symm.trans hf
        refine z_icmp_lt_f B 66 rfl 168 (by decide) hc ?_
        refine z_aload_n B 67 rfl 3 2 rfl rfl ?_
        refine z_iload B 68 rfl 0 rfl ?_
        refine z_aload_n B 69 rfl 3 2 rfl rfl ?_
        refine z_iload B 70 rfl 0 rfl ?_
        obtain ⟨r4, ec, hf⟩ := bd_e hf
        refine z_callN [.ref x3, .int r2] [.int r2, .ref x3] [.int r4, .int r2, .ref x3] X B 71 rfl miX6_at ⟨List.mem_of_getElem? (i := 19) rfl, (iX0_fillLevels _ (List.mem_of_getElem? (i := 6) rfl))⟩ (ctX6_at hj o_x3 ec) ⟨Nat.le_of_ble_eq_true rfl, Nat.le_of_ble_eq_true rfl⟩ rfl rfl (Nat.le_of_ble_eq_true rfl) rfl ?_
        refine z_aload B 72 rfl 3 rfl ?_
        refine z_iload B 73 rfl 4 rfl ?_
        refine z_aload_n B 74 rfl 3 2 rfl rfl ?_
        refine z_iload B 75 rfl 4 rfl ?_
        obtain ⟨r5, ec, hf⟩ := bd_e hf
        refine z_callN [.ref x3, .int x6] [.int x6, .ref x4, .int r4, .int r2, .ref x3] [.int r5, .int x6, .ref x4, .int r4, .int r2, .ref x3] X B 76 rfl miX6_at ⟨List.mem_of_getElem? (i := 19) rfl, (iX0_fillLevels _ (List.mem_of_getElem? (i := 6) rfl))⟩ (ctX6_at hj o_x3 ec) ⟨Nat.le_of_ble_eq_true rfl, Nat.le_of_ble_eq_true rfl⟩ rfl rfl (Nat.le_of_ble_eq_true rfl) rfl ?_
        obtain ⟨r6, ec, hf⟩ := bd_e hf
        refine z_callV x4 5 [.int x6, .int r5] [.int r4, .int r2, .ref x3] [.int r6, .int r4, .int r2, .ref x3] X B 77 rfl o_x4 rfl rfl miX5_cut ⟨(iX0_fillLevels _ (List.mem_of_getElem? (i := 7) rfl)), (iX0_fillLevels _ (List.mem_of_getElem? (i := 8) rfl)), (iX0_fillLevels _ (List.mem_of_getElem? (i := 9) rfl))⟩ (ctX5_cut hj o_x4 ec) ⟨Nat.le_of_ble_eq_true rfl, Nat.le_of_ble_eq_true rfl⟩ rfl rfl (Nat.le_of_ble_eq_true rfl) rfl ?_
        refine z_iadd B 78 rfl ?_
        obtain ⟨r7, ec, hf⟩ := bd_e hf
        refine z_callN [.ref x3, .int r2, .int (r4 + r6)] [] [] X B 79 rfl miX6_put ⟨List.mem_of_getElem? (i := 18) rfl, (iX0_fillLevels _ (List.mem_of_getElem? (i := 10) rfl))⟩ (ctX6_put hj o_x3 ec) ⟨Nat.le_of_ble_eq_true rfl, Nat.le_of_ble_eq_true rfl⟩ rfl rfl (Nat.le_of_ble_eq_true rfl) rfl ?_
        refine z_sub [(1, .int x1), (3, .ref x3), (4, .ref x4), (6, .int x6)] [1, 2, 3, 4] rfl ?_
        exact f0_fillLevels_j168_ok hj X B hQ hr ih _ _ _ _ _ o_x3 o_x4  hf
    · replace hf := (if_neg hc).symm.trans hf
      refine z_icmp_le_t B 58 rfl 174 (by decide) hc ?_
      cases hf
      exact z_vret B 82 rfl hQ hr
def f0_fillLevels_j103 (k55 : Nat → Int32 → Int32 → Nat → Nat → Nat → Int32 → Mem → Option Mem) (x0 : Nat) (x1 : Int32) (x2 : Int32) (x3 : Nat) (x4 : Nat) (x5 : Nat) (x6 : Int32) (mm : Mem) : Option Mem := nm (x6 + 1) (fun v9 => k55 x0 x1 x2 x3 x4 x5 v9 mm)
theorem f0_fillLevels_j103_ok {E : Ev} {l : Launch} {C : Cfg} {x : Mem} {k55 : Nat → Int32 → Int32 → Nat → Nat → Nat → Int32 → Mem → Option Mem} (hj : Dj C) (X : Ec E l C rmX0_fillLevels) (B : Bx E RX0 tbX0_fillLevels 8 none) (hQ : Rt E) (hr : Rs E none x) (hk55 : ∀ (x0 : Nat) (x1 : Int32) (x2 : Int32) (x3 : Nat) (x4 : Nat) (x5 : Nat) (x6 : Int32) (mm : Mem), Ob x0 0 → Ob x3 8 → Ob x4 5 → Ob x5 2 → k55 x0 x1 x2 x3 x4 x5 x6 mm = some x → G E 8 55 [(0, .ref x0), (1, .int x1), (2, .int x2), (3, .ref x3), (4, .ref x4), (5, .ref x5), (6, .int x6)] [] mm) (x0 : Nat) (x1 : Int32) (x2 : Int32) (x3 : Nat) (x4 : Nat) (x5 : Nat) (x6 : Int32) (mm : Mem) (o_x0 : Ob x0 0) (o_x3 : Ob x3 8) (o_x4 : Ob x4 5) (o_x5 : Ob x5 2) (hf : f0_fillLevels_j103 k55 x0 x1 x2 x3 x4 x5 x6 mm = some x) : G E 8 103 [(0, .ref x0), (1, .int x1), (2, .int x2), (3, .ref x3), (4, .ref x4), (5, .ref x5), (6, .int x6)] [] mm := by
  unfold f0_fillLevels_j103 at hf
  obtain ⟨v9, ex, hf⟩ := nm_x hf
  refine z_iinc v9 [(6, .int v9), (0, .ref x0), (1, .int x1), (2, .int x2), (3, .ref x3), (4, .ref x4), (5, .ref x5)] B 49 rfl 6 rfl (ex.symm) (by decide) rfl ?_
  refine z_goto B 50 rfl 55 (by decide) ?_
  refine z_sub [(0, .ref x0), (1, .int x1), (2, .int x2), (3, .ref x3), (4, .ref x4), (5, .ref x5), (6, .int v9)] [1, 2, 3, 4, 5, 6, 0] rfl ?_
  exact hk55 _ _ _ _ _ _ _ _ o_x0 o_x3 o_x4 o_x5  hf
def f0_fillLevels_l55 : Nat → Nat → Int32 → Int32 → Nat → Nat → Nat → Int32 → Mem → Option Mem
  | 0, _, _, _, _, _, _, _, _ => none
  | n + 1, x0, x1, x2, x3, x4, x5, x6, mm => if x6 < (mm x5 0) then bd (f6_at mm (x5 + 2) x6) (fun r8 => if r8 < x1 then f0_fillLevels_j103 (fun x0 x1 x2 x3 x4 x5 x6 mm => f0_fillLevels_l55 n x0 x1 x2 x3 x4 x5 x6 mm) x0 x1 x2 x3 x4 x5 x6 mm else bd (f6_at mm x3 r8) (fun r10 => bd (f0_unitsBelow mm x0 x6 x2) (fun r11 => bd (f6_put mm x3 r8 (r10 + r11)) (fun r12 => f0_fillLevels_j103 (fun x0 x1 x2 x3 x4 x5 x6 mm => f0_fillLevels_l55 n x0 x1 x2 x3 x4 x5 x6 mm) x0 x1 x2 x3 x4 x5 x6 r12)))) else nm ((mm x4 0) - (1 : Int32)) (fun v1 => f0_fillLevels_l118 FU x1 x3 x4 v1 mm)
theorem f0_fillLevels_l55_ok {E : Ev} {l : Launch} {C : Cfg} {x : Mem} (hj : Dj C) (X : Ec E l C rmX0_fillLevels) (B : Bx E RX0 tbX0_fillLevels 8 none) (hQ : Rt E) (hr : Rs E none x) (n : Nat) : ∀ (x0 : Nat) (x1 : Int32) (x2 : Int32) (x3 : Nat) (x4 : Nat) (x5 : Nat) (x6 : Int32) (mm : Mem), Ob x0 0 → Ob x3 8 → Ob x4 5 → Ob x5 2 → f0_fillLevels_l55 n x0 x1 x2 x3 x4 x5 x6 mm = some x → G E 8 55 [(0, .ref x0), (1, .int x1), (2, .int x2), (3, .ref x3), (4, .ref x4), (5, .ref x5), (6, .int x6)] [] mm := by
  induction n with
  | zero =>
    intro x0 x1 x2 x3 x4 x5 x6 mm o_x0 o_x3 o_x4 o_x5 hf
    rw [f0_fillLevels_l55] at hf
    cases hf
  | succ n ih =>
    intro x0 x1 x2 x3 x4 x5 x6 mm o_x0 o_x3 o_x4 o_x5 hf
    rw [f0_fillLevels_l55] at hf
    refine z_iload B 26 rfl 6 rfl ?_
    refine z_aload B 27 rfl 5 rfl ?_
    refine z_geti 2 0 x5 B 28 rfl o_x5 rfl (iX0_fillLevels _ (List.mem_of_getElem? (i := 4) rfl)) rfl ?_
    by_cases hc : x6 < (mm x5 0)
    · replace hf := (if_pos hc).symm.trans hf
      refine z_icmp_ge_f B 29 rfl 109 (by decide) hc ?_
      refine z_aload B 30 rfl 5 rfl ?_
      refine z_getr 2 3 x5 B 31 rfl o_x5 rfl (iX0_fillLevels _ (List.mem_of_getElem? (i := 11) rfl)) rfl ?_
      refine z_iload B 32 rfl 6 rfl ?_
      obtain ⟨r8, ec, hf⟩ := bd_e hf
      refine z_callN [.ref (x5 + 2), .int x6] [] [.int r8] X B 33 rfl miX6_at ⟨List.mem_of_getElem? (i := 19) rfl, (iX0_fillLevels _ (List.mem_of_getElem? (i := 6) rfl))⟩ (ctX6_at hj (obf_2_3 o_x5) ec) ⟨Nat.le_of_ble_eq_true rfl, Nat.le_of_ble_eq_true rfl⟩ rfl rfl (Nat.le_of_ble_eq_true rfl) rfl ?_
      refine z_istore [(7, .int r8), (0, .ref x0), (1, .int x1), (2, .int x2), (3, .ref x3), (4, .ref x4), (5, .ref x5), (6, .int x6)] B 34 rfl (by decide) rfl ?_
      refine z_iload B 35 rfl 0 rfl ?_
      refine z_iload_n B 36 rfl 1 2 rfl rfl ?_
      by_cases hc : r8 < x1
      · replace hf := (if_pos hc).symm.trans hf
        refine z_icmp_lt_t B 37 rfl 103 (by decide) hc ?_
        refine z_sub [(0, .ref x0), (1, .int x1), (2, .int x2), (3, .ref x3), (4, .ref x4), (5, .ref x5), (6, .int x6)] [1, 2, 3, 4, 5, 6, 7] rfl ?_
        exact f0_fillLevels_j103_ok hj X B hQ hr ih _ _ _ _ _ _ _ _ o_x0 o_x3 o_x4 o_x5  hf
      · replace hf := (if_neg hc).symm.trans hf
        refine z_icmp_lt_f B 37 rfl 103 (by decide) hc ?_
        refine z_aload_n B 38 rfl 3 4 rfl rfl ?_
        refine z_iload B 39 rfl 0 rfl ?_
        refine z_aload_n B 40 rfl 3 4 rfl rfl ?_
        refine z_iload B 41 rfl 0 rfl ?_
        obtain ⟨r10, ec, hf⟩ := bd_e hf
        refine z_callN [.ref x3, .int r8] [.int r8, .ref x3] [.int r10, .int r8, .ref x3] X B 42 rfl miX6_at ⟨List.mem_of_getElem? (i := 19) rfl, (iX0_fillLevels _ (List.mem_of_getElem? (i := 6) rfl))⟩ (ctX6_at hj o_x3 ec) ⟨Nat.le_of_ble_eq_true rfl, Nat.le_of_ble_eq_true rfl⟩ rfl rfl (Nat.le_of_ble_eq_true rfl) rfl ?_
        refine z_aload_n B 43 rfl 0 1 rfl rfl ?_
        refine z_iload B 44 rfl 7 rfl ?_
        refine z_iload_n B 45 rfl 2 3 rfl rfl ?_
        obtain ⟨r11, ec, hf⟩ := bd_e hf
        refine z_callV x0 0 [.int x6, .int x2] [.int r10, .int r8, .ref x3] [.int r11, .int r10, .int r8, .ref x3] X B 46 rfl o_x0 rfl rfl miX0_unitsBelow ⟨(iX0_fillLevels _ (List.mem_of_getElem? (i := 12) rfl)), (iX0_fillLevels _ (List.mem_of_getElem? (i := 13) rfl)), (iX0_fillLevels _ (List.mem_of_getElem? (i := 14) rfl))⟩ (ctX0_unitsBelow hj o_x0 ec) ⟨Nat.le_of_ble_eq_true rfl, Nat.le_of_ble_eq_true rfl⟩ rfl rfl (Nat.le_of_ble_eq_true rfl) rfl ?_
        refine z_iadd B 47 rfl ?_
        obtain ⟨r12, ec, hf⟩ := bd_e hf
        refine z_callN [.ref x3, .int r8, .int (r10 + r11)] [] [] X B 48 rfl miX6_put ⟨List.mem_of_getElem? (i := 18) rfl, (iX0_fillLevels _ (List.mem_of_getElem? (i := 10) rfl))⟩ (ctX6_put hj o_x3 ec) ⟨Nat.le_of_ble_eq_true rfl, Nat.le_of_ble_eq_true rfl⟩ rfl rfl (Nat.le_of_ble_eq_true rfl) rfl ?_
        refine z_sub [(0, .ref x0), (1, .int x1), (2, .int x2), (3, .ref x3), (4, .ref x4), (5, .ref x5), (6, .int x6)] [1, 2, 3, 4, 5, 6, 7] rfl ?_
        exact f0_fillLevels_j103_ok hj X B hQ hr ih _ _ _ _ _ _ _ _ o_x0 o_x3 o_x4 o_x5  hf
    · replace hf := (if_neg hc).symm.trans hf
      refine z_icmp_ge_t B 29 rfl 109 (by decide) hc ?_
      refine z_aload B 51 rfl 4 rfl ?_
      refine z_geti 5 0 x4 B 52 rfl o_x4 rfl (iX0_fillLevels _ (List.mem_of_getElem? (i := 3) rfl)) rfl ?_
      refine z_iconst 1 B 53 rfl (by decide) ?_
      refine z_isub B 54 rfl ?_
      obtain ⟨v1, ex, hf⟩ := nm_x hf
      refine z_top ex ?_
      refine z_istore [(6, .int v1), (0, .ref x0), (1, .int x1), (2, .int x2), (3, .ref x3), (4, .ref x4), (5, .ref x5)] B 55 rfl (by decide) rfl ?_
      refine z_sub [(1, .int x1), (3, .ref x3), (4, .ref x4), (6, .int v1)] [2, 4, 5, 0] rfl ?_
      exact f0_fillLevels_l118_ok hj X B hQ hr FU _ _ _ _ _ o_x3 o_x4  hf
def f0_fillLevels_l21 : Nat → Nat → Int32 → Int32 → Nat → Nat → Nat → Int32 → Mem → Option Mem
  | 0, _, _, _, _, _, _, _, _ => none
  | n + 1, x0, x1, x2, x3, x4, x5, x6, mm => if x6 < (mm x4 0) then bd (f5_wantedFrom mm x4 x6 x2) (fun r13 => bd (f6_put mm x3 x6 (-r13)) (fun r14 => nm (x6 + 1) (fun v15 => f0_fillLevels_l21 n x0 x1 x2 x3 x4 x5 v15 r14))) else f0_fillLevels_l55 FU x0 x1 x2 x3 x4 x5 (0 : Int32) mm
theorem f0_fillLevels_l21_ok {E : Ev} {l : Launch} {C : Cfg} {x : Mem} (hj : Dj C) (X : Ec E l C rmX0_fillLevels) (B : Bx E RX0 tbX0_fillLevels 8 none) (hQ : Rt E) (hr : Rs E none x) (n : Nat) : ∀ (x0 : Nat) (x1 : Int32) (x2 : Int32) (x3 : Nat) (x4 : Nat) (x5 : Nat) (x6 : Int32) (mm : Mem), Ob x0 0 → Ob x3 8 → Ob x4 5 → Ob x5 2 → f0_fillLevels_l21 n x0 x1 x2 x3 x4 x5 x6 mm = some x → G E 8 21 [(0, .ref x0), (1, .int x1), (2, .int x2), (3, .ref x3), (4, .ref x4), (5, .ref x5), (6, .int x6)] [] mm := by
  induction n with
  | zero =>
    intro x0 x1 x2 x3 x4 x5 x6 mm o_x0 o_x3 o_x4 o_x5 hf
    rw [f0_fillLevels_l21] at hf
    cases hf
  | succ n ih =>
    intro x0 x1 x2 x3 x4 x5 x6 mm o_x0 o_x3 o_x4 o_x5 hf
    rw [f0_fillLevels_l21] at hf
    refine z_iload B 10 rfl 6 rfl ?_
    refine z_aload B 11 rfl 4 rfl ?_
    refine z_geti 5 0 x4 B 12 rfl o_x4 rfl (iX0_fillLevels _ (List.mem_of_getElem? (i := 3) rfl)) rfl ?_
    by_cases hc : x6 < (mm x4 0)
    · replace hf := (if_pos hc).symm.trans hf
      refine z_icmp_ge_f B 13 rfl 52 (by decide) hc ?_
      refine z_aload_n B 14 rfl 3 3 rfl rfl ?_
      refine z_iload B 15 rfl 6 rfl ?_
      refine z_aload B 16 rfl 4 rfl ?_
      refine z_iload B 17 rfl 6 rfl ?_
      refine z_iload_n B 18 rfl 2 2 rfl rfl ?_
      obtain ⟨r13, ec, hf⟩ := bd_e hf
      refine z_callV x4 5 [.int x6, .int x2] [.int x6, .ref x3] [.int r13, .int x6, .ref x3] X B 19 rfl o_x4 rfl rfl miX5_wantedFrom ⟨(iX0_fillLevels _ (List.mem_of_getElem? (i := 15) rfl)), (iX0_fillLevels _ (List.mem_of_getElem? (i := 16) rfl)), (iX0_fillLevels _ (List.mem_of_getElem? (i := 17) rfl))⟩ (ctX5_wantedFrom hj o_x4 ec) ⟨Nat.le_of_ble_eq_true rfl, Nat.le_of_ble_eq_true rfl⟩ rfl rfl (Nat.le_of_ble_eq_true rfl) rfl ?_
      refine z_ineg B 20 rfl ?_
      obtain ⟨r14, ec, hf⟩ := bd_e hf
      refine z_callN [.ref x3, .int x6, .int (-r13)] [] [] X B 21 rfl miX6_put ⟨List.mem_of_getElem? (i := 18) rfl, (iX0_fillLevels _ (List.mem_of_getElem? (i := 10) rfl))⟩ (ctX6_put hj o_x3 ec) ⟨Nat.le_of_ble_eq_true rfl, Nat.le_of_ble_eq_true rfl⟩ rfl rfl (Nat.le_of_ble_eq_true rfl) rfl ?_
      obtain ⟨v15, ex, hf⟩ := nm_x hf
      refine z_iinc v15 [(6, .int v15), (0, .ref x0), (1, .int x1), (2, .int x2), (3, .ref x3), (4, .ref x4), (5, .ref x5)] B 22 rfl 6 rfl (ex.symm) (by decide) rfl ?_
      refine z_goto B 23 rfl 21 (by decide) ?_
      refine z_sub [(0, .ref x0), (1, .int x1), (2, .int x2), (3, .ref x3), (4, .ref x4), (5, .ref x5), (6, .int v15)] [1, 2, 3, 4, 5, 6, 0] rfl ?_
      exact ih _ _ _ _ _ _ _ _ o_x0 o_x3 o_x4 o_x5  hf
    · replace hf := (if_neg hc).symm.trans hf
      refine z_icmp_ge_t B 13 rfl 52 (by decide) hc ?_
      refine z_iconst 0 B 24 rfl (by decide) ?_
      refine z_istore [(6, .int (0 : Int32)), (0, .ref x0), (1, .int x1), (2, .int x2), (3, .ref x3), (4, .ref x4), (5, .ref x5)] B 25 rfl (by decide) rfl ?_
      refine z_sub [(0, .ref x0), (1, .int x1), (2, .int x2), (3, .ref x3), (4, .ref x4), (5, .ref x5), (6, .int (0 : Int32))] [1, 2, 3, 4, 5, 6, 0] rfl ?_
      exact f0_fillLevels_l55_ok hj X B hQ hr FU _ _ _ _ _ _ _ _ o_x0 o_x3 o_x4 o_x5  hf
def f0_fillLevels (mm : Mem) (a0 : Nat) (a1 : Int32) (a2 : Int32) (a3 : Nat) : Option Mem := f0_fillLevels_l21 FU a0 a1 a2 a3 (a0 + 1 + 1) (a0 + 1 + 8) a1 mm
theorem ctX0_fillLevels {l : Launch} {C : Cfg} (hj : Dj C) {mm : Mem} {a0 : Nat} {a1 : Int32} {a2 : Int32} {a3 : Nat} {x : Mem} (o_a0 : Ob a0 0) (o_a3 : Ob a3 8) (hf : f0_fillLevels mm a0 a1 a2 a3 = some x) : Ct l C yX0_fillLevels cX0_fillLevels 8 none 2 51 [.ref a0, .int a1, .int a2, .ref a3] mm none x := by
  refine Ct.of (tb := tbX0_fillLevels) hj miX0_fillLevels.2.1 miX0_fillLevels.1 dtX0_fillLevels (Nat.le_of_ble_eq_true rfl) ?_
  intro E B hQ hr X
  unfold f0_fillLevels at hf
  show G E 8 0 [(0, .ref a0), (1, .int a1), (2, .int a2), (3, .ref a3)] [] mm
  refine z_aload_n B 0 rfl 0 0 rfl rfl ?_
  refine z_getr 0 0 a0 B 1 rfl o_a0 rfl (iX0_fillLevels _ (List.mem_of_getElem? (i := 0) rfl)) rfl ?_
  refine z_getr 1 0 (a0 + 1) B 2 rfl (obf_0_0 o_a0) rfl (iX0_fillLevels _ (List.mem_of_getElem? (i := 1) rfl)) rfl ?_
  refine z_astore [(4, .ref (a0 + 1 + 1)), (0, .ref a0), (1, .int a1), (2, .int a2), (3, .ref a3)] B 3 rfl (by decide) rfl ?_
  refine z_aload_n B 4 rfl 0 1 rfl rfl ?_
  refine z_getr 0 0 a0 B 5 rfl o_a0 rfl (iX0_fillLevels _ (List.mem_of_getElem? (i := 0) rfl)) rfl ?_
  refine z_getr 1 1 (a0 + 1) B 6 rfl (obf_0_0 o_a0) rfl (iX0_fillLevels _ (List.mem_of_getElem? (i := 2) rfl)) rfl ?_
  refine z_astore [(5, .ref (a0 + 1 + 8)), (4, .ref (a0 + 1 + 1)), (0, .ref a0), (1, .int a1), (2, .int a2), (3, .ref a3)] B 7 rfl (by decide) rfl ?_
  refine z_iload_n B 8 rfl 1 3 rfl rfl ?_
  refine z_istore [(6, .int a1), (5, .ref (a0 + 1 + 8)), (4, .ref (a0 + 1 + 1)), (0, .ref a0), (1, .int a1), (2, .int a2), (3, .ref a3)] B 9 rfl (by decide) rfl ?_
  refine z_sub [(0, .ref a0), (1, .int a1), (2, .int a2), (3, .ref a3), (4, .ref (a0 + 1 + 1)), (5, .ref (a0 + 1 + 8)), (6, .int a1)] [3, 4, 5, 6, 2, 1, 0] rfl ?_
  exact f0_fillLevels_l21_ok hj X B hQ hr FU _ _ _ _ _ _ _ _ o_a0 o_a3 (obf_1_0 (obf_0_0 o_a0)) (obf_1_1 (obf_0_0 o_a0))  hf
/-! ZoneCapacity$Auction.leastPrice(II)I -/
def tbX0_leastPrice : Tb := [(0, .iconst 0, 1, 1), (1, .istore_n 3, 1, 2), (2, .sipush 8192, 3, 5), (5, .istore 4, 2, 7), (7, .iload 4, 2, 9), (9, .ifCond .le 53, 3, 12), (12, .iload_n 3, 1, 13), (13, .iload 4, 2, 15), (15, .iadd, 1, 16), (16, .aload_n 0, 1, 17), (17, .getfield 98, 3, 20), (20, .if_icmp .gt 33, 3, 23), (23, .aload_n 0, 1, 24), (24, .iload_n 1, 1, 25), (25, .iload_n 3, 1, 26), (26, .iload 4, 2, 28), (28, .iadd, 1, 29), (29, .aload_n 0, 1, 30), (30, .getfield 37, 3, 33), (33, .invokevirtual 81, 3, 36), (36, .aload_n 0, 1, 37), (37, .getfield 37, 3, 40), (40, .iload_n 1, 1, 41), (41, .invokestatic 69, 3, 44), (44, .iload_n 2, 1, 45), (45, .if_icmp .ge 8, 3, 48), (48, .iload_n 3, 1, 49), (49, .iload 4, 2, 51), (51, .iadd, 1, 52), (52, .istore_n 3, 1, 53), (53, .iload 4, 2, 55), (55, .iconst 1, 1, 56), (56, .ishr, 1, 57), (57, .istore 4, 2, 59), (59, .goto (-52), 3, 62), (62, .iload_n 3, 1, 63), (63, .ireturn, 1, 64)]
theorem dtX0_leastPrice : ∀ q ∈ tbX0_leastPrice, decode cX0_leastPrice q.1 = .ok (q.2.1, q.2.2.1) ∧ q.1 + q.2.2.1 = q.2.2.2 := by decide +kernel
theorem miX0_leastPrice : MI yX0_leastPrice cX0_leastPrice 5 (some .int) 2 := ⟨tw_mem (List.mem_of_getElem? (i := 725) (by decide +kernel)) rfl, by decide, by decide +kernel, tw_mem (List.mem_of_getElem? (i := 72) (by decide +kernel)) rfl⟩
abbrev rmX0_leastPrice : Room := { frames := 3, cells := 0, slots := 0, locals := 78 }
def wX0_leastPrice : List Cond := [.fieldLink "ZoneCapacity$Auction" 98 "ZoneCapacity$Auction" "top" "I", .fieldLink "ZoneCapacity$Auction" 37 "ZoneCapacity$Auction" "levels" "[I", .methodLink "ZoneCapacity$Auction" 81 yX0_fillLevels, .instanceMethod yX0_fillLevels, .selects "ZoneCapacity$Auction" yX0_fillLevels yX0_fillLevels, .static yX6_at]
theorem iX0_leastPrice : ∀ w ∈ wX0_leastPrice, w ∈ TW := tw_of (ids := [240, 236, 689, 691, 15, 387]) (by decide +kernel)
def f0_leastPrice_j53 (k7 : Nat → Int32 → Int32 → Int32 → Int32 → Mem → Option (Int32 × Mem)) (x0 : Nat) (x1 : Int32) (x2 : Int32) (x3 : Int32) (x4 : Int32) (mm : Mem) : Option (Int32 × Mem) := nm (x4 >>> ((1 : Int32) &&& 31)) (fun v1 => k7 x0 x1 x2 x3 v1 mm)
theorem f0_leastPrice_j53_ok {E : Ev} {l : Launch} {C : Cfg} {x : (Int32 × Mem)} {k7 : Nat → Int32 → Int32 → Int32 → Int32 → Mem → Option (Int32 × Mem)} (hj : Dj C) (X : Ec E l C rmX0_leastPrice) (B : Bx E RX0 tbX0_leastPrice 5 (some .int)) (hQ : Rt E) (hr : Rs E (some (.int x.1)) x.2) (hk7 : ∀ (x0 : Nat) (x1 : Int32) (x2 : Int32) (x3 : Int32) (x4 : Int32) (mm : Mem), Ob x0 0 → k7 x0 x1 x2 x3 x4 mm = some x → G E 5 7 [(0, .ref x0), (1, .int x1), (2, .int x2), (3, .int x3), (4, .int x4)] [] mm) (x0 : Nat) (x1 : Int32) (x2 : Int32) (x3 : Int32) (x4 : Int32) (mm : Mem) (o_x0 : Ob x0 0) (hf : f0_leastPrice_j53 k7 x0 x1 x2 x3 x4 mm = some x) : G E 5 53 [(0, .ref x0), (1, .int x1), (2, .int x2), (3, .int x3), (4, .int x4)] [] mm := by
  unfold f0_leastPrice_j53 at hf
  refine z_iload B 30 rfl 4 rfl ?_
  refine z_iconst 1 B 31 rfl (by decide) ?_
  refine z_ishr B 32 rfl ?_
  obtain ⟨v1, ex, hf⟩ := nm_x hf
  refine z_top ex ?_
  refine z_istore [(4, .int v1), (0, .ref x0), (1, .int x1), (2, .int x2), (3, .int x3)] B 33 rfl (by decide) rfl ?_
  refine z_goto B 34 rfl 7 (by decide) ?_
  refine z_sub [(0, .ref x0), (1, .int x1), (2, .int x2), (3, .int x3), (4, .int v1)] [1, 2, 3, 4, 0] rfl ?_
  exact hk7 _ _ _ _ _ _ o_x0  hf
def f0_leastPrice_l7 : Nat → Nat → Int32 → Int32 → Int32 → Int32 → Mem → Option (Int32 × Mem)
  | 0, _, _, _, _, _, _ => none
  | n + 1, x0, x1, x2, x3, x4, mm => if 0 < x4 then if (mm x0 11) < (x3 + x4) then f0_leastPrice_j53 (fun x0 x1 x2 x3 x4 mm => f0_leastPrice_l7 n x0 x1 x2 x3 x4 mm) x0 x1 x2 x3 x4 mm else bd (f0_fillLevels mm x0 x1 (x3 + x4) (x0 + 26)) (fun r2 => bd (f6_at r2 (x0 + 26) x1) (fun r3 => if r3 < x2 then nm (x3 + x4) (fun v4 => f0_leastPrice_j53 (fun x0 x1 x2 x3 x4 mm => f0_leastPrice_l7 n x0 x1 x2 x3 x4 mm) x0 x1 x2 v4 x4 r2) else f0_leastPrice_j53 (fun x0 x1 x2 x3 x4 mm => f0_leastPrice_l7 n x0 x1 x2 x3 x4 mm) x0 x1 x2 x3 x4 r2)) else some (x3, mm)
theorem f0_leastPrice_l7_ok {E : Ev} {l : Launch} {C : Cfg} {x : (Int32 × Mem)} (hj : Dj C) (X : Ec E l C rmX0_leastPrice) (B : Bx E RX0 tbX0_leastPrice 5 (some .int)) (hQ : Rt E) (hr : Rs E (some (.int x.1)) x.2) (n : Nat) : ∀ (x0 : Nat) (x1 : Int32) (x2 : Int32) (x3 : Int32) (x4 : Int32) (mm : Mem), Ob x0 0 → f0_leastPrice_l7 n x0 x1 x2 x3 x4 mm = some x → G E 5 7 [(0, .ref x0), (1, .int x1), (2, .int x2), (3, .int x3), (4, .int x4)] [] mm := by
  induction n with
  | zero =>
    intro x0 x1 x2 x3 x4 mm o_x0 hf
    rw [f0_leastPrice_l7] at hf
    cases hf
  | succ n ih =>
    intro x0 x1 x2 x3 x4 mm o_x0 hf
    rw [f0_leastPrice_l7] at hf
    refine z_iload B 4 rfl 4 rfl ?_
    by_cases hc : 0 < x4
    · replace hf := (if_pos hc).symm.trans hf
      refine z_if_le_f B 5 rfl 62 (by decide) hc ?_
      refine z_iload_n B 6 rfl 3 3 rfl rfl ?_
      refine z_iload B 7 rfl 4 rfl ?_
      refine z_iadd B 8 rfl ?_
      refine z_aload_n B 9 rfl 0 0 rfl rfl ?_
      refine z_geti 0 11 x0 B 10 rfl o_x0 rfl (iX0_leastPrice _ (List.mem_of_getElem? (i := 0) rfl)) rfl ?_
      by_cases hc : (mm x0 11) < (x3 + x4)
      · replace hf := (if_pos hc).symm.trans hf
        refine z_icmp_gt_t B 11 rfl 53 (by decide) hc ?_
        exact f0_leastPrice_j53_ok hj X B hQ hr ih _ _ _ _ _ _ o_x0  hf
      · replace hf := (if_neg hc).symm.trans hf
        refine z_icmp_gt_f B 11 rfl 53 (by decide) hc ?_
        refine z_aload_n B 12 rfl 0 0 rfl rfl ?_
        refine z_iload_n B 13 rfl 1 1 rfl rfl ?_
        refine z_iload_n B 14 rfl 3 3 rfl rfl ?_
        refine z_iload B 15 rfl 4 rfl ?_
        refine z_iadd B 16 rfl ?_
        refine z_aload_n B 17 rfl 0 0 rfl rfl ?_
        refine z_getr 0 7 x0 B 18 rfl o_x0 rfl (iX0_leastPrice _ (List.mem_of_getElem? (i := 1) rfl)) rfl ?_
        obtain ⟨r2, ec, hf⟩ := bd_e hf
        refine z_callV x0 0 [.int x1, .int (x3 + x4), .ref (x0 + 26)] [] [] X B 19 rfl o_x0 rfl rfl miX0_fillLevels ⟨(iX0_leastPrice _ (List.mem_of_getElem? (i := 2) rfl)), (iX0_leastPrice _ (List.mem_of_getElem? (i := 3) rfl)), (iX0_leastPrice _ (List.mem_of_getElem? (i := 4) rfl))⟩ (ctX0_fillLevels hj o_x0 (obf_0_7 o_x0) ec) ⟨Nat.le_of_ble_eq_true rfl, Nat.le_of_ble_eq_true rfl⟩ rfl rfl (Nat.le_of_ble_eq_true rfl) rfl ?_
        refine z_aload_n B 20 rfl 0 0 rfl rfl ?_
        refine z_getr 0 7 x0 B 21 rfl o_x0 rfl (iX0_leastPrice _ (List.mem_of_getElem? (i := 1) rfl)) rfl ?_
        refine z_iload_n B 22 rfl 1 1 rfl rfl ?_
        obtain ⟨r3, ec, hf⟩ := bd_e hf
        refine z_callN [.ref (x0 + 26), .int x1] [] [.int r3] X B 23 rfl miX6_at ⟨List.mem_of_getElem? (i := 19) rfl, (iX0_leastPrice _ (List.mem_of_getElem? (i := 5) rfl))⟩ (ctX6_at hj (obf_0_7 o_x0) ec) ⟨Nat.le_of_ble_eq_true rfl, Nat.le_of_ble_eq_true rfl⟩ rfl rfl (Nat.le_of_ble_eq_true rfl) rfl ?_
        refine z_iload_n B 24 rfl 2 2 rfl rfl ?_
        by_cases hc : r3 < x2
        · replace hf := (if_pos hc).symm.trans hf
          refine z_icmp_ge_f B 25 rfl 53 (by decide) hc ?_
          refine z_iload_n B 26 rfl 3 3 rfl rfl ?_
          refine z_iload B 27 rfl 4 rfl ?_
          refine z_iadd B 28 rfl ?_
          obtain ⟨v4, ex, hf⟩ := nm_x hf
          refine z_top ex ?_
          refine z_istore_n [(3, .int v4), (0, .ref x0), (1, .int x1), (2, .int x2), (4, .int x4)] B 29 rfl 3 rfl (by decide) rfl ?_
          refine z_sub [(0, .ref x0), (1, .int x1), (2, .int x2), (3, .int v4), (4, .int x4)] [1, 2, 3, 0, 4] rfl ?_
          exact f0_leastPrice_j53_ok hj X B hQ hr ih _ _ _ _ _ _ o_x0  hf
        · replace hf := (if_neg hc).symm.trans hf
          refine z_icmp_ge_t B 25 rfl 53 (by decide) hc ?_
          exact f0_leastPrice_j53_ok hj X B hQ hr ih _ _ _ _ _ _ o_x0  hf
    · replace hf := (if_neg hc).symm.trans hf
      refine z_if_le_t B 5 rfl 62 (by decide) hc ?_
      refine z_iload_n B 35 rfl 3 3 rfl rfl ?_
      cases hf
      exact z_iret B 36 rfl rfl hQ hr
def f0_leastPrice (mm : Mem) (a0 : Nat) (a1 : Int32) (a2 : Int32) : Option (Int32 × Mem) := f0_leastPrice_l7 FU a0 a1 a2 (0 : Int32) (8192 : Int32) mm
theorem ctX0_leastPrice {l : Launch} {C : Cfg} (hj : Dj C) {mm : Mem} {a0 : Nat} {a1 : Int32} {a2 : Int32} {x : (Int32 × Mem)} (o_a0 : Ob a0 0) (hf : f0_leastPrice mm a0 a1 a2 = some x) : Ct l C yX0_leastPrice cX0_leastPrice 5 (some .int) 3 78 [.ref a0, .int a1, .int a2] mm (some (.int x.1)) x.2 := by
  refine Ct.of (tb := tbX0_leastPrice) hj miX0_leastPrice.2.1 miX0_leastPrice.1 dtX0_leastPrice (Nat.le_of_ble_eq_true rfl) ?_
  intro E B hQ hr X
  unfold f0_leastPrice at hf
  show G E 5 0 [(0, .ref a0), (1, .int a1), (2, .int a2)] [] mm
  refine z_iconst 0 B 0 rfl (by decide) ?_
  refine z_istore_n [(3, .int (0 : Int32)), (0, .ref a0), (1, .int a1), (2, .int a2)] B 1 rfl 3 rfl (by decide) rfl ?_
  refine z_sipush 8192 B 2 rfl (by decide) ?_
  refine z_istore [(4, .int (8192 : Int32)), (3, .int (0 : Int32)), (0, .ref a0), (1, .int a1), (2, .int a2)] B 3 rfl (by decide) rfl ?_
  refine z_sub [(0, .ref a0), (1, .int a1), (2, .int a2), (3, .int (0 : Int32)), (4, .int (8192 : Int32))] [2, 3, 4, 1, 0] rfl ?_
  exact f0_leastPrice_l7_ok hj X B hQ hr FU _ _ _ _ _ _ o_a0  hf
/-! ZoneCapacity$Auction.partToLines(III)I -/
def tbX0_partToLines : Tb := [(0, .aload_n 0, 1, 1), (1, .getfield 12, 3, 4), (4, .getfield 85, 3, 7), (7, .astore 4, 2, 9), (9, .iload_n 3, 1, 10), (10, .istore 5, 2, 12), (12, .iconst 0, 1, 13), (13, .istore 6, 2, 15), (15, .iload 6, 2, 17), (17, .aload 4, 2, 19), (19, .getfield 89, 3, 22), (22, .iconst 4, 1, 23), (23, .imul, 1, 24), (24, .if_icmp .ge 100, 3, 27), (27, .aload 4, 2, 29), (29, .getfield 113, 3, 32), (32, .iload 6, 2, 34), (34, .iconst 4, 1, 35), (35, .idiv, 1, 36), (36, .invokestatic 69, 3, 39), (39, .iload_n 1, 1, 40), (40, .if_icmp .ne 78, 3, 43), (43, .aload_n 0, 1, 44), (44, .getfield 34, 3, 47), (47, .iload 6, 2, 49), (49, .invokestatic 69, 3, 52), (52, .iload_n 2, 1, 53), (53, .if_icmp .ge 15, 3, 56), (56, .aload_n 0, 1, 57), (57, .getfield 31, 3, 60), (60, .iload 6, 2, 62), (62, .invokestatic 69, 3, 65), (65, .goto 4, 3, 68), (68, .iconst 0, 1, 69), (69, .istore 7, 2, 71), (71, .aload_n 0, 1, 72), (72, .getfield 34, 3, 75), (75, .iload 6, 2, 77), (77, .invokestatic 69, 3, 80), (80, .iload_n 2, 1, 81), (81, .if_icmp .ne 26, 3, 84), (84, .iload 5, 2, 86), (86, .aload_n 0, 1, 87), (87, .getfield 31, 3, 90), (90, .iload 6, 2, 92), (92, .invokestatic 69, 3, 95), (95, .invokestatic 131, 3, 98), (98, .istore 7, 2, 100), (100, .iload 5, 2, 102), (102, .iload 7, 2, 104), (104, .isub, 1, 105), (105, .istore 5, 2, 107), (107, .aload_n 0, 1, 108), (108, .getfield 28, 3, 111), (111, .iload 6, 2, 113), (113, .iload 7, 2, 115), (115, .invokestatic 56, 3, 118), (118, .iinc 6 1, 3, 121), (121, .goto (-106), 3, 124), (124, .iload 5, 2, 126), (126, .ireturn, 1, 127)]
theorem dtX0_partToLines : ∀ q ∈ tbX0_partToLines, decode cX0_partToLines q.1 = .ok (q.2.1, q.2.2.1) ∧ q.1 + q.2.2.1 = q.2.2.2 := by decide +kernel
theorem miX0_partToLines : MI yX0_partToLines cX0_partToLines 8 (some .int) 3 := ⟨tw_mem (List.mem_of_getElem? (i := 733) (by decide +kernel)) rfl, by decide, by decide +kernel, tw_mem (List.mem_of_getElem? (i := 72) (by decide +kernel)) rfl⟩
abbrev rmX0_partToLines : Room := { frames := 1, cells := 0, slots := 0, locals := 22 }
def wX0_partToLines : List Cond := [.fieldLink "ZoneCapacity$Auction" 12 "ZoneCapacity$Auction" "market" "LZoneCapacity$Market;", .fieldLink "ZoneCapacity$Auction" 85 "ZoneCapacity$Market" "offers" "LZoneCapacity$Offers;", .fieldLink "ZoneCapacity$Auction" 89 "ZoneCapacity$Offers" "many" "I", .fieldLink "ZoneCapacity$Auction" 113 "ZoneCapacity$Offers" "zones" "[I", .static yX6_at, .fieldLink "ZoneCapacity$Auction" 34 "ZoneCapacity$Auction" "its" "[I", .fieldLink "ZoneCapacity$Auction" 28 "ZoneCapacity$Auction" "takenUnits" "[I", .static yX6_put, .fieldLink "ZoneCapacity$Auction" 31 "ZoneCapacity$Auction" "units" "[I", .methodLink "ZoneCapacity$Auction" 131 ⟨"java/lang/Math", "min", "(II)I"⟩, .static ⟨"java/lang/Math", "min", "(II)I"⟩, .initialized "java/lang/Math", .code Lib.Math.min.name Lib.Math.min.code 2 (some .int)]
theorem iX0_partToLines : ∀ w ∈ wX0_partToLines, w ∈ TW := tw_of (ids := [224, 216, 159, 169, 387, 235, 232, 115, 234, 734, 648, 87, 649]) (by decide +kernel)
def f0_partToLines_j118 (k15 : Nat → Int32 → Int32 → Nat → Int32 → Int32 → Mem → Option (Int32 × Mem)) (x0 : Nat) (x1 : Int32) (x2 : Int32) (x4 : Nat) (x5 : Int32) (x6 : Int32) (mm : Mem) : Option (Int32 × Mem) := nm (x6 + 1) (fun v2 => k15 x0 x1 x2 x4 x5 v2 mm)
theorem f0_partToLines_j118_ok {E : Ev} {l : Launch} {C : Cfg} {x : (Int32 × Mem)} {k15 : Nat → Int32 → Int32 → Nat → Int32 → Int32 → Mem → Option (Int32 × Mem)} (hj : Dj C) (X : Ec E l C rmX0_partToLines) (B : Bx E RX0 tbX0_partToLines 8 (some .int)) (hQ : Rt E) (hr : Rs E (some (.int x.1)) x.2) (hk15 : ∀ (x0 : Nat) (x1 : Int32) (x2 : Int32) (x4 : Nat) (x5 : Int32) (x6 : Int32) (mm : Mem), Ob x0 0 → Ob x4 2 → k15 x0 x1 x2 x4 x5 x6 mm = some x → G E 8 15 [(0, .ref x0), (1, .int x1), (2, .int x2), (4, .ref x4), (5, .int x5), (6, .int x6)] [] mm) (x0 : Nat) (x1 : Int32) (x2 : Int32) (x4 : Nat) (x5 : Int32) (x6 : Int32) (mm : Mem) (o_x0 : Ob x0 0) (o_x4 : Ob x4 2) (hf : f0_partToLines_j118 k15 x0 x1 x2 x4 x5 x6 mm = some x) : G E 8 118 [(0, .ref x0), (1, .int x1), (2, .int x2), (4, .ref x4), (5, .int x5), (6, .int x6)] [] mm := by
  unfold f0_partToLines_j118 at hf
  obtain ⟨v2, ex, hf⟩ := nm_x hf
  refine z_iinc v2 [(6, .int v2), (0, .ref x0), (1, .int x1), (2, .int x2), (4, .ref x4), (5, .int x5)] B 57 rfl 5 rfl (ex.symm) (by decide) rfl ?_
  refine z_goto B 58 rfl 15 (by decide) ?_
  refine z_sub [(0, .ref x0), (1, .int x1), (2, .int x2), (4, .ref x4), (5, .int x5), (6, .int v2)] [1, 2, 3, 4, 5, 0] rfl ?_
  exact hk15 _ _ _ _ _ _ _ o_x0 o_x4  hf
def f0_partToLines_j107 (k15 : Nat → Int32 → Int32 → Nat → Int32 → Int32 → Mem → Option (Int32 × Mem)) (x0 : Nat) (x1 : Int32) (x2 : Int32) (x4 : Nat) (x5 : Int32) (x6 : Int32) (x7 : Int32) (mm : Mem) : Option (Int32 × Mem) := bd (f6_put mm (x0 + 23) x6 x7) (fun r5 => f0_partToLines_j118 k15 x0 x1 x2 x4 x5 x6 r5)
theorem f0_partToLines_j107_ok {E : Ev} {l : Launch} {C : Cfg} {x : (Int32 × Mem)} {k15 : Nat → Int32 → Int32 → Nat → Int32 → Int32 → Mem → Option (Int32 × Mem)} (hj : Dj C) (X : Ec E l C rmX0_partToLines) (B : Bx E RX0 tbX0_partToLines 8 (some .int)) (hQ : Rt E) (hr : Rs E (some (.int x.1)) x.2) (hk15 : ∀ (x0 : Nat) (x1 : Int32) (x2 : Int32) (x4 : Nat) (x5 : Int32) (x6 : Int32) (mm : Mem), Ob x0 0 → Ob x4 2 → k15 x0 x1 x2 x4 x5 x6 mm = some x → G E 8 15 [(0, .ref x0), (1, .int x1), (2, .int x2), (4, .ref x4), (5, .int x5), (6, .int x6)] [] mm) (x0 : Nat) (x1 : Int32) (x2 : Int32) (x4 : Nat) (x5 : Int32) (x6 : Int32) (x7 : Int32) (mm : Mem) (o_x0 : Ob x0 0) (o_x4 : Ob x4 2) (hf : f0_partToLines_j107 k15 x0 x1 x2 x4 x5 x6 x7 mm = some x) : G E 8 107 [(0, .ref x0), (1, .int x1), (2, .int x2), (4, .ref x4), (5, .int x5), (6, .int x6), (7, .int x7)] [] mm := by
  unfold f0_partToLines_j107 at hf
  refine z_aload_n B 52 rfl 0 0 rfl rfl ?_
  refine z_getr 0 4 x0 B 53 rfl o_x0 rfl (iX0_partToLines _ (List.mem_of_getElem? (i := 6) rfl)) rfl ?_
  refine z_iload B 54 rfl 5 rfl ?_
  refine z_iload B 55 rfl 6 rfl ?_
  obtain ⟨r5, ec, hf⟩ := bd_e hf
  refine z_callN [.ref (x0 + 23), .int x6, .int x7] [] [] X B 56 rfl miX6_put ⟨List.mem_of_getElem? (i := 18) rfl, (iX0_partToLines _ (List.mem_of_getElem? (i := 7) rfl))⟩ (ctX6_put hj (obf_0_4 o_x0) ec) ⟨Nat.le_of_ble_eq_true rfl, Nat.le_of_ble_eq_true rfl⟩ rfl rfl (Nat.le_of_ble_eq_true rfl) rfl ?_
  refine z_sub [(0, .ref x0), (1, .int x1), (2, .int x2), (4, .ref x4), (5, .int x5), (6, .int x6)] [0, 1, 2, 3, 4, 5] rfl ?_
  exact f0_partToLines_j118_ok hj X B hQ hr hk15 _ _ _ _ _ _ _ o_x0 o_x4  hf
def f0_partToLines_j69 (k15 : Nat → Int32 → Int32 → Nat → Int32 → Int32 → Mem → Option (Int32 × Mem)) (x0 : Nat) (x1 : Int32) (x2 : Int32) (x4 : Nat) (x5 : Int32) (x6 : Int32) (s0 : Int32) (mm : Mem) : Option (Int32 × Mem) := bd (f6_at mm (x0 + 25) x6) (fun r4 => if r4 = x2 then bd (f6_at mm (x0 + 24) x6) (fun r6 => nm (mni x5 r6) (fun v7 => nm (x5 - v7) (fun v8 => f0_partToLines_j107 k15 x0 x1 x2 x4 v8 x6 v7 mm))) else f0_partToLines_j107 k15 x0 x1 x2 x4 x5 x6 s0 mm)
theorem f0_partToLines_j69_ok {E : Ev} {l : Launch} {C : Cfg} {x : (Int32 × Mem)} {k15 : Nat → Int32 → Int32 → Nat → Int32 → Int32 → Mem → Option (Int32 × Mem)} (hj : Dj C) (X : Ec E l C rmX0_partToLines) (B : Bx E RX0 tbX0_partToLines 8 (some .int)) (hQ : Rt E) (hr : Rs E (some (.int x.1)) x.2) (hk15 : ∀ (x0 : Nat) (x1 : Int32) (x2 : Int32) (x4 : Nat) (x5 : Int32) (x6 : Int32) (mm : Mem), Ob x0 0 → Ob x4 2 → k15 x0 x1 x2 x4 x5 x6 mm = some x → G E 8 15 [(0, .ref x0), (1, .int x1), (2, .int x2), (4, .ref x4), (5, .int x5), (6, .int x6)] [] mm) (x0 : Nat) (x1 : Int32) (x2 : Int32) (x4 : Nat) (x5 : Int32) (x6 : Int32) (s0 : Int32) (mm : Mem) (o_x0 : Ob x0 0) (o_x4 : Ob x4 2) (hf : f0_partToLines_j69 k15 x0 x1 x2 x4 x5 x6 s0 mm = some x) : G E 8 69 [(0, .ref x0), (1, .int x1), (2, .int x2), (4, .ref x4), (5, .int x5), (6, .int x6)] [.int s0] mm := by
  unfold f0_partToLines_j69 at hf
  refine z_istore [(7, .int s0), (0, .ref x0), (1, .int x1), (2, .int x2), (4, .ref x4), (5, .int x5), (6, .int x6)] B 34 rfl (by decide) rfl ?_
  refine z_aload_n B 35 rfl 0 1 rfl rfl ?_
  refine z_getr 0 6 x0 B 36 rfl o_x0 rfl (iX0_partToLines _ (List.mem_of_getElem? (i := 5) rfl)) rfl ?_
  refine z_iload B 37 rfl 6 rfl ?_
  obtain ⟨r4, ec, hf⟩ := bd_e hf
  refine z_callN [.ref (x0 + 25), .int x6] [] [.int r4] X B 38 rfl miX6_at ⟨List.mem_of_getElem? (i := 19) rfl, (iX0_partToLines _ (List.mem_of_getElem? (i := 4) rfl))⟩ (ctX6_at hj (obf_0_6 o_x0) ec) ⟨Nat.le_of_ble_eq_true rfl, Nat.le_of_ble_eq_true rfl⟩ rfl rfl (Nat.le_of_ble_eq_true rfl) rfl ?_
  refine z_iload_n B 39 rfl 2 3 rfl rfl ?_
  by_cases hc : r4 = x2
  · replace hf := (if_pos hc).symm.trans hf
    refine z_icmp_ne_f B 40 rfl 107 (by decide) hc ?_
    refine z_iload B 41 rfl 5 rfl ?_
    refine z_aload_n B 42 rfl 0 1 rfl rfl ?_
    refine z_getr 0 5 x0 B 43 rfl o_x0 rfl (iX0_partToLines _ (List.mem_of_getElem? (i := 8) rfl)) rfl ?_
    refine z_iload B 44 rfl 6 rfl ?_
    obtain ⟨r6, ec, hf⟩ := bd_e hf
    refine z_callN [.ref (x0 + 24), .int x6] [.int x5] [.int r6, .int x5] X B 45 rfl miX6_at ⟨List.mem_of_getElem? (i := 19) rfl, (iX0_partToLines _ (List.mem_of_getElem? (i := 4) rfl))⟩ (ctX6_at hj (obf_0_5 o_x0) ec) ⟨Nat.le_of_ble_eq_true rfl, Nat.le_of_ble_eq_true rfl⟩ rfl rfl (Nat.le_of_ble_eq_true rfl) rfl ?_
    refine z_mmin X B 46 rfl ⟨(iX0_partToLines _ (List.mem_of_getElem? (i := 9) rfl)), (iX0_partToLines _ (List.mem_of_getElem? (i := 10) rfl)), (iX0_partToLines _ (List.mem_of_getElem? (i := 11) rfl)), (iX0_partToLines _ (List.mem_of_getElem? (i := 12) rfl))⟩ ⟨Nat.le_of_ble_eq_true rfl, Nat.le_of_ble_eq_true rfl⟩ (Nat.le_of_ble_eq_true rfl) ?_
    obtain ⟨v7, ex, hf⟩ := nm_x hf
    refine z_top ex ?_
    refine z_istore [(7, .int v7), (0, .ref x0), (1, .int x1), (2, .int x2), (4, .ref x4), (5, .int x5), (6, .int x6)] B 47 rfl (by decide) rfl ?_
    refine z_iload B 48 rfl 5 rfl ?_
    refine z_iload B 49 rfl 0 rfl ?_
    refine z_isub B 50 rfl ?_
    obtain ⟨v8, ex, hf⟩ := nm_x hf
    refine z_top ex ?_
    refine z_istore [(5, .int v8), (7, .int v7), (0, .ref x0), (1, .int x1), (2, .int x2), (4, .ref x4), (6, .int x6)] B 51 rfl (by decide) rfl ?_
    refine z_sub [(0, .ref x0), (1, .int x1), (2, .int x2), (4, .ref x4), (5, .int v8), (6, .int x6), (7, .int v7)] [2, 3, 4, 5, 0, 6, 1] rfl ?_
    exact f0_partToLines_j107_ok hj X B hQ hr hk15 _ _ _ _ _ _ _ _ o_x0 o_x4  hf
  · replace hf := (if_neg hc).symm.trans hf
    refine z_icmp_ne_t B 40 rfl 107 (by decide) hc ?_
    refine z_sub [(0, .ref x0), (1, .int x1), (2, .int x2), (4, .ref x4), (5, .int x5), (6, .int x6), (7, .int s0)] [1, 2, 3, 4, 5, 6, 0] rfl ?_
    exact f0_partToLines_j107_ok hj X B hQ hr hk15 _ _ _ _ _ _ _ _ o_x0 o_x4  hf
def f0_partToLines_l15 : Nat → Nat → Int32 → Int32 → Nat → Int32 → Int32 → Mem → Option (Int32 × Mem)
  | 0, _, _, _, _, _, _, _ => none
  | n + 1, x0, x1, x2, x4, x5, x6, mm => if x6 < ((mm x4 0) * (4 : Int32)) then dvz (4 : Int32) (bd (f6_at mm (x4 + 2) (x6 / (4 : Int32))) (fun r1 => if r1 = x1 then bd (f6_at mm (x0 + 25) x6) (fun r3 => if r3 < x2 then bd (f6_at mm (x0 + 24) x6) (fun r9 => f0_partToLines_j69 (fun x0 x1 x2 x4 x5 x6 mm => f0_partToLines_l15 n x0 x1 x2 x4 x5 x6 mm) x0 x1 x2 x4 x5 x6 r9 mm) else f0_partToLines_j69 (fun x0 x1 x2 x4 x5 x6 mm => f0_partToLines_l15 n x0 x1 x2 x4 x5 x6 mm) x0 x1 x2 x4 x5 x6 (0 : Int32) mm) else f0_partToLines_j118 (fun x0 x1 x2 x4 x5 x6 mm => f0_partToLines_l15 n x0 x1 x2 x4 x5 x6 mm) x0 x1 x2 x4 x5 x6 mm)) else some (x5, mm)
theorem f0_partToLines_l15_ok {E : Ev} {l : Launch} {C : Cfg} {x : (Int32 × Mem)} (hj : Dj C) (X : Ec E l C rmX0_partToLines) (B : Bx E RX0 tbX0_partToLines 8 (some .int)) (hQ : Rt E) (hr : Rs E (some (.int x.1)) x.2) (n : Nat) : ∀ (x0 : Nat) (x1 : Int32) (x2 : Int32) (x4 : Nat) (x5 : Int32) (x6 : Int32) (mm : Mem), Ob x0 0 → Ob x4 2 → f0_partToLines_l15 n x0 x1 x2 x4 x5 x6 mm = some x → G E 8 15 [(0, .ref x0), (1, .int x1), (2, .int x2), (4, .ref x4), (5, .int x5), (6, .int x6)] [] mm := by
  induction n with
  | zero =>
    intro x0 x1 x2 x4 x5 x6 mm o_x0 o_x4 hf
    rw [f0_partToLines_l15] at hf
    cases hf
  | succ n ih =>
    intro x0 x1 x2 x4 x5 x6 mm o_x0 o_x4 hf
    rw [f0_partToLines_l15] at hf
    refine z_iload B 8 rfl 5 rfl ?_
    refine z_aload B 9 rfl 3 rfl ?_
    refine z_geti 2 0 x4 B 10 rfl o_x4 rfl (iX0_partToLines _ (List.mem_of_getElem? (i := 2) rfl)) rfl ?_
    refine z_iconst 4 B 11 rfl (by decide) ?_
    refine z_imul B 12 rfl ?_
    by_cases hc : x6 < ((mm x4 0) * (4 : Int32))
    · replace hf := (if_pos hc).symm.trans hf
      refine z_icmp_ge_f B 13 rfl 124 (by decide) hc ?_
      refine z_aload B 14 rfl 3 rfl ?_
      refine z_getr 2 3 x4 B 15 rfl o_x4 rfl (iX0_partToLines _ (List.mem_of_getElem? (i := 3) rfl)) rfl ?_
      refine z_iload B 16 rfl 5 rfl ?_
      refine z_iconst 4 B 17 rfl (by decide) ?_
      obtain ⟨hz, hf⟩ := dvz_e hf
      refine z_idiv B 18 rfl hz ?_
      obtain ⟨r1, ec, hf⟩ := bd_e hf
      refine z_callN [.ref (x4 + 2), .int (x6 / (4 : Int32))] [] [.int r1] X B 19 rfl miX6_at ⟨List.mem_of_getElem? (i := 19) rfl, (iX0_partToLines _ (List.mem_of_getElem? (i := 4) rfl))⟩ (ctX6_at hj (obf_2_3 o_x4) ec) ⟨Nat.le_of_ble_eq_true rfl, Nat.le_of_ble_eq_true rfl⟩ rfl rfl (Nat.le_of_ble_eq_true rfl) rfl ?_
      refine z_iload_n B 20 rfl 1 1 rfl rfl ?_
      by_cases hc : r1 = x1
      · replace hf := (if_pos hc).symm.trans hf
        refine z_icmp_ne_f B 21 rfl 118 (by decide) hc ?_
        refine z_aload_n B 22 rfl 0 0 rfl rfl ?_
        refine z_getr 0 6 x0 B 23 rfl o_x0 rfl (iX0_partToLines _ (List.mem_of_getElem? (i := 5) rfl)) rfl ?_
        refine z_iload B 24 rfl 5 rfl ?_
        obtain ⟨r3, ec, hf⟩ := bd_e hf
        refine z_callN [.ref (x0 + 25), .int x6] [] [.int r3] X B 25 rfl miX6_at ⟨List.mem_of_getElem? (i := 19) rfl, (iX0_partToLines _ (List.mem_of_getElem? (i := 4) rfl))⟩ (ctX6_at hj (obf_0_6 o_x0) ec) ⟨Nat.le_of_ble_eq_true rfl, Nat.le_of_ble_eq_true rfl⟩ rfl rfl (Nat.le_of_ble_eq_true rfl) rfl ?_
        refine z_iload_n B 26 rfl 2 2 rfl rfl ?_
        by_cases hc : r3 < x2
        · replace hf := (if_pos hc).symm.trans hf
          refine z_icmp_ge_f B 27 rfl 68 (by decide) hc ?_
          refine z_aload_n B 28 rfl 0 0 rfl rfl ?_
          refine z_getr 0 5 x0 B 29 rfl o_x0 rfl (iX0_partToLines _ (List.mem_of_getElem? (i := 8) rfl)) rfl ?_
          refine z_iload B 30 rfl 5 rfl ?_
          obtain ⟨r9, ec, hf⟩ := bd_e hf
          refine z_callN [.ref (x0 + 24), .int x6] [] [.int r9] X B 31 rfl miX6_at ⟨List.mem_of_getElem? (i := 19) rfl, (iX0_partToLines _ (List.mem_of_getElem? (i := 4) rfl))⟩ (ctX6_at hj (obf_0_5 o_x0) ec) ⟨Nat.le_of_ble_eq_true rfl, Nat.le_of_ble_eq_true rfl⟩ rfl rfl (Nat.le_of_ble_eq_true rfl) rfl ?_
          refine z_goto B 32 rfl 69 (by decide) ?_
          exact f0_partToLines_j69_ok hj X B hQ hr ih _ _ _ _ _ _ _ _ o_x0 o_x4  hf
        · replace hf := (if_neg hc).symm.trans hf
          refine z_icmp_ge_t B 27 rfl 68 (by decide) hc ?_
          refine z_iconst 0 B 33 rfl (by decide) ?_
          exact f0_partToLines_j69_ok hj X B hQ hr ih _ _ _ _ _ _ _ _ o_x0 o_x4  hf
      · replace hf := (if_neg hc).symm.trans hf
        refine z_icmp_ne_t B 21 rfl 118 (by decide) hc ?_
        exact f0_partToLines_j118_ok hj X B hQ hr ih _ _ _ _ _ _ _ o_x0 o_x4  hf
    · replace hf := (if_neg hc).symm.trans hf
      refine z_icmp_ge_t B 13 rfl 124 (by decide) hc ?_
      refine z_iload B 59 rfl 4 rfl ?_
      cases hf
      exact z_iret B 60 rfl rfl hQ hr
def f0_partToLines (mm : Mem) (a0 : Nat) (a1 : Int32) (a2 : Int32) (a3 : Int32) : Option (Int32 × Mem) := f0_partToLines_l15 FU a0 a1 a2 (a0 + 1 + 8) a3 (0 : Int32) mm
theorem ctX0_partToLines {l : Launch} {C : Cfg} (hj : Dj C) {mm : Mem} {a0 : Nat} {a1 : Int32} {a2 : Int32} {a3 : Int32} {x : (Int32 × Mem)} (o_a0 : Ob a0 0) (hf : f0_partToLines mm a0 a1 a2 a3 = some x) : Ct l C yX0_partToLines cX0_partToLines 8 (some .int) 1 22 [.ref a0, .int a1, .int a2, .int a3] mm (some (.int x.1)) x.2 := by
  refine Ct.of (tb := tbX0_partToLines) hj miX0_partToLines.2.1 miX0_partToLines.1 dtX0_partToLines (Nat.le_of_ble_eq_true rfl) ?_
  intro E B hQ hr X
  unfold f0_partToLines at hf
  show G E 8 0 [(0, .ref a0), (1, .int a1), (2, .int a2), (3, .int a3)] [] mm
  refine z_aload_n B 0 rfl 0 0 rfl rfl ?_
  refine z_getr 0 0 a0 B 1 rfl o_a0 rfl (iX0_partToLines _ (List.mem_of_getElem? (i := 0) rfl)) rfl ?_
  refine z_getr 1 1 (a0 + 1) B 2 rfl (obf_0_0 o_a0) rfl (iX0_partToLines _ (List.mem_of_getElem? (i := 1) rfl)) rfl ?_
  refine z_astore [(4, .ref (a0 + 1 + 8)), (0, .ref a0), (1, .int a1), (2, .int a2), (3, .int a3)] B 3 rfl (by decide) rfl ?_
  refine z_iload_n B 4 rfl 3 4 rfl rfl ?_
  refine z_istore [(5, .int a3), (4, .ref (a0 + 1 + 8)), (0, .ref a0), (1, .int a1), (2, .int a2), (3, .int a3)] B 5 rfl (by decide) rfl ?_
  refine z_iconst 0 B 6 rfl (by decide) ?_
  refine z_istore [(6, .int (0 : Int32)), (5, .int a3), (4, .ref (a0 + 1 + 8)), (0, .ref a0), (1, .int a1), (2, .int a2), (3, .int a3)] B 7 rfl (by decide) rfl ?_
  refine z_sub [(0, .ref a0), (1, .int a1), (2, .int a2), (4, .ref (a0 + 1 + 8)), (5, .int a3), (6, .int (0 : Int32))] [3, 4, 5, 2, 1, 0] rfl ?_
  exact f0_partToLines_l15_ok hj X B hQ hr FU _ _ _ _ _ _ _ o_a0 (obf_1_1 (obf_0_0 o_a0))  hf
/-! ZoneCapacity$Auction.partToInner(III)I -/
def tbX0_partToInner : Tb := [(0, .aload_n 0, 1, 1), (1, .getfield 12, 3, 4), (4, .getfield 60, 3, 7), (7, .astore 4, 2, 9), (9, .iload_n 3, 1, 10), (10, .istore 5, 2, 12), (12, .iload_n 1, 1, 13), (13, .iconst 1, 1, 14), (14, .iadd, 1, 15), (15, .istore 6, 2, 17), (17, .iload 6, 2, 19), (19, .aload 4, 2, 21), (21, .getfield 64, 3, 24), (24, .if_icmp .ge 128, 3, 27), (27, .aload 4, 2, 29), (29, .getfield 118, 3, 32), (32, .iload 6, 2, 34), (34, .invokestatic 69, 3, 37), (37, .iload_n 1, 1, 38), (38, .if_icmp .ne 108, 3, 41), (41, .aload_n 0, 1, 42), (42, .getfield 40, 3, 45), (45, .iload 6, 2, 47), (47, .invokestatic 69, 3, 50), (50, .istore 7, 2, 52), (52, .aload_n 0, 1, 53), (53, .getfield 43, 3, 56), (56, .iload 6, 2, 58), (58, .invokestatic 69, 3, 61), (61, .istore 8, 2, 63), (63, .aload 4, 2, 65), (65, .iload 6, 2, 67), (67, .iload 7, 2, 69), (69, .invokevirtual 121, 3, 72), (72, .istore 9, 2, 74), (74, .iload 5, 2, 76), (76, .aload 4, 2, 78), (78, .iload 6, 2, 80), (80, .iload 8, 2, 82), (82, .invokevirtual 121, 3, 85), (85, .iload 9, 2, 87), (87, .isub, 1, 88), (88, .invokestatic 131, 3, 91), (91, .istore 10, 2, 93), (93, .iload 5, 2, 95), (95, .iload 10, 2, 97), (97, .isub, 1, 98), (98, .istore 5, 2, 100), (100, .iload 9, 2, 102), (102, .iload 10, 2, 104), (104, .iadd, 1, 105), (105, .istore 11, 2, 107), (107, .aload_n 0, 1, 108), (108, .getfield 22, 3, 111), (111, .iload 6, 2, 113), (113, .iload 11, 2, 115), (115, .invokestatic 56, 3, 118), (118, .aload_n 0, 1, 119), (119, .getfield 18, 3, 122), (122, .iload 6, 2, 124), (124, .iload 7, 2, 126), (126, .iload 11, 2, 128), (128, .if_icmp .gt 14, 3, 131), (131, .iload 11, 2, 133), (133, .iload 8, 2, 135), (135, .if_icmp .gt 7, 3, 138), (138, .iload_n 2, 1, 139), (139, .goto 4, 3, 142), (142, .iconst (-1), 1, 143), (143, .invokestatic 56, 3, 146), (146, .iinc 6 1, 3, 149), (149, .goto (-132), 3, 152), (152, .iload 5, 2, 154), (154, .ireturn, 1, 155)]
theorem dtX0_partToInner : ∀ q ∈ tbX0_partToInner, decode cX0_partToInner q.1 = .ok (q.2.1, q.2.2.1) ∧ q.1 + q.2.2.1 = q.2.2.2 := by decide +kernel
theorem miX0_partToInner : MI yX0_partToInner cX0_partToInner 12 (some .int) 3 := ⟨tw_mem (List.mem_of_getElem? (i := 738) (by decide +kernel)) rfl, by decide, by decide +kernel, tw_mem (List.mem_of_getElem? (i := 72) (by decide +kernel)) rfl⟩
abbrev rmX0_partToInner : Room := { frames := 2, cells := 0, slots := 0, locals := 43 }
def wX0_partToInner : List Cond := [.fieldLink "ZoneCapacity$Auction" 12 "ZoneCapacity$Auction" "market" "LZoneCapacity$Market;", .fieldLink "ZoneCapacity$Auction" 60 "ZoneCapacity$Market" "zones" "LZoneCapacity$Zones;", .fieldLink "ZoneCapacity$Auction" 64 "ZoneCapacity$Zones" "many" "I", .fieldLink "ZoneCapacity$Auction" 118 "ZoneCapacity$Zones" "outer" "[I", .static yX6_at, .fieldLink "ZoneCapacity$Auction" 40 "ZoneCapacity$Auction" "lows" "[I", .fieldLink "ZoneCapacity$Auction" 43 "ZoneCapacity$Auction" "highs" "[I", .methodLink "ZoneCapacity$Auction" 121 yX5_cut, .instanceMethod yX5_cut, .selects "ZoneCapacity$Zones" yX5_cut yX5_cut, .methodLink "ZoneCapacity$Auction" 131 ⟨"java/lang/Math", "min", "(II)I"⟩, .static ⟨"java/lang/Math", "min", "(II)I"⟩, .initialized "java/lang/Math", .code Lib.Math.min.name Lib.Math.min.code 2 (some .int), .fieldLink "ZoneCapacity$Auction" 22 "ZoneCapacity$Auction" "nets" "[I", .static yX6_put, .fieldLink "ZoneCapacity$Auction" 18 "ZoneCapacity$Auction" "prices" "[I"]
theorem iX0_partToInner : ∀ w ∈ wX0_partToInner, w ∈ TW := tw_of (ids := [224, 212, 118, 122, 387, 237, 238, 699, 700, 701, 734, 648, 87, 649, 228, 115, 226]) (by decide +kernel)
def f0_partToInner_j146 (k17 : Nat → Int32 → Int32 → Nat → Int32 → Int32 → Mem → Option (Int32 × Mem)) (x0 : Nat) (x1 : Int32) (x2 : Int32) (x4 : Nat) (x5 : Int32) (x6 : Int32) (mm : Mem) : Option (Int32 × Mem) := nm (x6 + 1) (fun v3 => k17 x0 x1 x2 x4 x5 v3 mm)
theorem f0_partToInner_j146_ok {E : Ev} {l : Launch} {C : Cfg} {x : (Int32 × Mem)} {k17 : Nat → Int32 → Int32 → Nat → Int32 → Int32 → Mem → Option (Int32 × Mem)} (hj : Dj C) (X : Ec E l C rmX0_partToInner) (B : Bx E RX0 tbX0_partToInner 12 (some .int)) (hQ : Rt E) (hr : Rs E (some (.int x.1)) x.2) (hk17 : ∀ (x0 : Nat) (x1 : Int32) (x2 : Int32) (x4 : Nat) (x5 : Int32) (x6 : Int32) (mm : Mem), Ob x0 0 → Ob x4 5 → k17 x0 x1 x2 x4 x5 x6 mm = some x → G E 12 17 [(0, .ref x0), (1, .int x1), (2, .int x2), (4, .ref x4), (5, .int x5), (6, .int x6)] [] mm) (x0 : Nat) (x1 : Int32) (x2 : Int32) (x4 : Nat) (x5 : Int32) (x6 : Int32) (mm : Mem) (o_x0 : Ob x0 0) (o_x4 : Ob x4 5) (hf : f0_partToInner_j146 k17 x0 x1 x2 x4 x5 x6 mm = some x) : G E 12 146 [(0, .ref x0), (1, .int x1), (2, .int x2), (4, .ref x4), (5, .int x5), (6, .int x6)] [] mm := by
  unfold f0_partToInner_j146 at hf
  obtain ⟨v3, ex, hf⟩ := nm_x hf
  refine z_iinc v3 [(6, .int v3), (0, .ref x0), (1, .int x1), (2, .int x2), (4, .ref x4), (5, .int x5)] B 70 rfl 5 rfl (ex.symm) (by decide) rfl ?_
  refine z_goto B 71 rfl 17 (by decide) ?_
  refine z_sub [(0, .ref x0), (1, .int x1), (2, .int x2), (4, .ref x4), (5, .int x5), (6, .int v3)] [1, 2, 3, 4, 5, 0] rfl ?_
  exact hk17 _ _ _ _ _ _ _ o_x0 o_x4  hf
def f0_partToInner_j143 (k17 : Nat → Int32 → Int32 → Nat → Int32 → Int32 → Mem → Option (Int32 × Mem)) (x0 : Nat) (x1 : Int32) (x2 : Int32) (x4 : Nat) (x5 : Int32) (x6 : Int32) (s0 : Int32) (s1 : Int32) (s2 : Nat) (mm : Mem) : Option (Int32 × Mem) := bd (f6_put mm s2 s1 s0) (fun r12 => f0_partToInner_j146 k17 x0 x1 x2 x4 x5 x6 r12)
theorem f0_partToInner_j143_ok {E : Ev} {l : Launch} {C : Cfg} {x : (Int32 × Mem)} {k17 : Nat → Int32 → Int32 → Nat → Int32 → Int32 → Mem → Option (Int32 × Mem)} (hj : Dj C) (X : Ec E l C rmX0_partToInner) (B : Bx E RX0 tbX0_partToInner 12 (some .int)) (hQ : Rt E) (hr : Rs E (some (.int x.1)) x.2) (hk17 : ∀ (x0 : Nat) (x1 : Int32) (x2 : Int32) (x4 : Nat) (x5 : Int32) (x6 : Int32) (mm : Mem), Ob x0 0 → Ob x4 5 → k17 x0 x1 x2 x4 x5 x6 mm = some x → G E 12 17 [(0, .ref x0), (1, .int x1), (2, .int x2), (4, .ref x4), (5, .int x5), (6, .int x6)] [] mm) (x0 : Nat) (x1 : Int32) (x2 : Int32) (x4 : Nat) (x5 : Int32) (x6 : Int32) (s0 : Int32) (s1 : Int32) (s2 : Nat) (mm : Mem) (o_x0 : Ob x0 0) (o_x4 : Ob x4 5) (o_s2 : Ob s2 8) (hf : f0_partToInner_j143 k17 x0 x1 x2 x4 x5 x6 s0 s1 s2 mm = some x) : G E 12 143 [(0, .ref x0), (1, .int x1), (2, .int x2), (4, .ref x4), (5, .int x5), (6, .int x6)] [.int s0, .int s1, .ref s2] mm := by
  unfold f0_partToInner_j143 at hf
  obtain ⟨r12, ec, hf⟩ := bd_e hf
  refine z_callN [.ref s2, .int s1, .int s0] [] [] X B 69 rfl miX6_put ⟨List.mem_of_getElem? (i := 18) rfl, (iX0_partToInner _ (List.mem_of_getElem? (i := 15) rfl))⟩ (ctX6_put hj o_s2 ec) ⟨Nat.le_of_ble_eq_true rfl, Nat.le_of_ble_eq_true rfl⟩ rfl rfl (Nat.le_of_ble_eq_true rfl) rfl ?_
  exact f0_partToInner_j146_ok hj X B hQ hr hk17 _ _ _ _ _ _ _ o_x0 o_x4  hf
def f0_partToInner_j142 (k17 : Nat → Int32 → Int32 → Nat → Int32 → Int32 → Mem → Option (Int32 × Mem)) (x0 : Nat) (x1 : Int32) (x2 : Int32) (x4 : Nat) (x5 : Int32) (x6 : Int32) (s0 : Int32) (s1 : Nat) (mm : Mem) : Option (Int32 × Mem) := f0_partToInner_j143 k17 x0 x1 x2 x4 x5 x6 (-1 : Int32) s0 s1 mm
theorem f0_partToInner_j142_ok {E : Ev} {l : Launch} {C : Cfg} {x : (Int32 × Mem)} {k17 : Nat → Int32 → Int32 → Nat → Int32 → Int32 → Mem → Option (Int32 × Mem)} (hj : Dj C) (X : Ec E l C rmX0_partToInner) (B : Bx E RX0 tbX0_partToInner 12 (some .int)) (hQ : Rt E) (hr : Rs E (some (.int x.1)) x.2) (hk17 : ∀ (x0 : Nat) (x1 : Int32) (x2 : Int32) (x4 : Nat) (x5 : Int32) (x6 : Int32) (mm : Mem), Ob x0 0 → Ob x4 5 → k17 x0 x1 x2 x4 x5 x6 mm = some x → G E 12 17 [(0, .ref x0), (1, .int x1), (2, .int x2), (4, .ref x4), (5, .int x5), (6, .int x6)] [] mm) (x0 : Nat) (x1 : Int32) (x2 : Int32) (x4 : Nat) (x5 : Int32) (x6 : Int32) (s0 : Int32) (s1 : Nat) (mm : Mem) (o_x0 : Ob x0 0) (o_x4 : Ob x4 5) (o_s1 : Ob s1 8) (hf : f0_partToInner_j142 k17 x0 x1 x2 x4 x5 x6 s0 s1 mm = some x) : G E 12 142 [(0, .ref x0), (1, .int x1), (2, .int x2), (4, .ref x4), (5, .int x5), (6, .int x6)] [.int s0, .ref s1] mm := by
  unfold f0_partToInner_j142 at hf
  refine z_iconst (-1) B 68 rfl (by decide) ?_
  exact f0_partToInner_j143_ok hj X B hQ hr hk17 _ _ _ _ _ _ _ _ _ _ o_x0 o_x4 o_s1 hf
def f0_partToInner_l17 : Nat → Nat → Int32 → Int32 → Nat → Int32 → Int32 → Mem → Option (Int32 × Mem)
  | 0, _, _, _, _, _, _, _ => none
  | n + 1, x0, x1, x2, x4, x5, x6, mm => if x6 < (mm x4 0) then bd (f6_at mm (x4 + 1) x6) (fun r2 => if r2 = x1 then bd (f6_at mm (x0 + 27) x6) (fun r4 => bd (f6_at mm (x0 + 28) x6) (fun r5 => bd (f5_cut mm x4 x6 r4) (fun r6 => bd (f5_cut mm x4 x6 r5) (fun r7 => nm (mni x5 (r7 - r6)) (fun v8 => nm (x5 - v8) (fun v9 => nm (r6 + v8) (fun v10 => bd (f6_put mm (x0 + 21) x6 v10) (fun r11 => if v10 < r4 then f0_partToInner_j142 (fun x0 x1 x2 x4 x5 x6 mm => f0_partToInner_l17 n x0 x1 x2 x4 x5 x6 mm) x0 x1 x2 x4 v9 x6 x6 (x0 + 20) r11 else if r5 < v10 then f0_partToInner_j142 (fun x0 x1 x2 x4 x5 x6 mm => f0_partToInner_l17 n x0 x1 x2 x4 x5 x6 mm) x0 x1 x2 x4 v9 x6 x6 (x0 + 20) r11 else f0_partToInner_j143 (fun x0 x1 x2 x4 x5 x6 mm => f0_partToInner_l17 n x0 x1 x2 x4 x5 x6 mm) x0 x1 x2 x4 v9 x6 x2 x6 (x0 + 20) r11)))))))) else f0_partToInner_j146 (fun x0 x1 x2 x4 x5 x6 mm => f0_partToInner_l17 n x0 x1 x2 x4 x5 x6 mm) x0 x1 x2 x4 x5 x6 mm) else some (x5, mm)
theorem f0_partToInner_l17_ok {E : Ev} {l : Launch} {C : Cfg} {x : (Int32 × Mem)} (hj : Dj C) (X : Ec E l C rmX0_partToInner) (B : Bx E RX0 tbX0_partToInner 12 (some .int)) (hQ : Rt E) (hr : Rs E (some (.int x.1)) x.2) (n : Nat) : ∀ (x0 : Nat) (x1 : Int32) (x2 : Int32) (x4 : Nat) (x5 : Int32) (x6 : Int32) (mm : Mem), Ob x0 0 → Ob x4 5 → f0_partToInner_l17 n x0 x1 x2 x4 x5 x6 mm = some x → G E 12 17 [(0, .ref x0), (1, .int x1), (2, .int x2), (4, .ref x4), (5, .int x5), (6, .int x6)] [] mm := by
  induction n with
  | zero =>
    intro x0 x1 x2 x4 x5 x6 mm o_x0 o_x4 hf
    rw [f0_partToInner_l17] at hf
    cases hf
  | succ n ih =>
    intro x0 x1 x2 x4 x5 x6 mm o_x0 o_x4 hf
    rw [f0_partToInner_l17] at hf
    refine z_iload B 10 rfl 5 rfl ?_
    refine z_aload B 11 rfl 3 rfl ?_
    refine z_geti 5 0 x4 B 12 rfl o_x4 rfl (iX0_partToInner _ (List.mem_of_getElem? (i := 2) rfl)) rfl ?_
    by_cases hc : x6 < (mm x4 0)
    · replace hf := (if_pos hc).symm.trans hf
      refine z_icmp_ge_f B 13 rfl 152 (by decide) hc ?_
      refine z_aload B 14 rfl 3 rfl ?_
      refine z_getr 5 1 x4 B 15 rfl o_x4 rfl (iX0_partToInner _ (List.mem_of_getElem? (i := 3) rfl)) rfl ?_
      refine z_iload B 16 rfl 5 rfl ?_
      obtain ⟨r2, ec, hf⟩ := bd_e hf
      refine z_callN [.ref (x4 + 1), .int x6] [] [.int r2] X B 17 rfl miX6_at ⟨List.mem_of_getElem? (i := 19) rfl, (iX0_partToInner _ (List.mem_of_getElem? (i := 4) rfl))⟩ (ctX6_at hj (obf_5_1 o_x4) ec) ⟨Nat.le_of_ble_eq_true rfl, Nat.le_of_ble_eq_true rfl⟩ rfl rfl (Nat.le_of_ble_eq_true rfl) rfl ?_
      refine z_iload_n B 18 rfl 1 1 rfl rfl ?_
      by_cases hc : r2 = x1
      · replace hf := (if_pos hc).symm.trans hf
        refine z_icmp_ne_f B 19 rfl 146 (by decide) hc ?_
        refine z_aload_n B 20 rfl 0 0 rfl rfl ?_
        refine z_getr 0 8 x0 B 21 rfl o_x0 rfl (iX0_partToInner _ (List.mem_of_getElem? (i := 5) rfl)) rfl ?_
        refine z_iload B 22 rfl 5 rfl ?_
        obtain ⟨r4, ec, hf⟩ := bd_e hf
        refine z_callN [.ref (x0 + 27), .int x6] [] [.int r4] X B 23 rfl miX6_at ⟨List.mem_of_getElem? (i := 19) rfl, (iX0_partToInner _ (List.mem_of_getElem? (i := 4) rfl))⟩ (ctX6_at hj (obf_0_8 o_x0) ec) ⟨Nat.le_of_ble_eq_true rfl, Nat.le_of_ble_eq_true rfl⟩ rfl rfl (Nat.le_of_ble_eq_true rfl) rfl ?_
        refine z_istore [(7, .int r4), (0, .ref x0), (1, .int x1), (2, .int x2), (4, .ref x4), (5, .int x5), (6, .int x6)] B 24 rfl (by decide) rfl ?_
        refine z_aload_n B 25 rfl 0 1 rfl rfl ?_
        refine z_getr 0 9 x0 B 26 rfl o_x0 rfl (iX0_partToInner _ (List.mem_of_getElem? (i := 6) rfl)) rfl ?_
        refine z_iload B 27 rfl 6 rfl ?_
        obtain ⟨r5, ec, hf⟩ := bd_e hf
        refine z_callN [.ref (x0 + 28), .int x6] [] [.int r5] X B 28 rfl miX6_at ⟨List.mem_of_getElem? (i := 19) rfl, (iX0_partToInner _ (List.mem_of_getElem? (i := 4) rfl))⟩ (ctX6_at hj (obf_0_9 o_x0) ec) ⟨Nat.le_of_ble_eq_true rfl, Nat.le_of_ble_eq_true rfl⟩ rfl rfl (Nat.le_of_ble_eq_true rfl) rfl ?_
        refine z_istore [(8, .int r5), (7, .int r4), (0, .ref x0), (1, .int x1), (2, .int x2), (4, .ref x4), (5, .int x5), (6, .int x6)] B 29 rfl (by decide) rfl ?_
        refine z_aload B 30 rfl 5 rfl ?_
        refine z_iload B 31 rfl 7 rfl ?_
        refine z_iload B 32 rfl 1 rfl ?_
        obtain ⟨r6, ec, hf⟩ := bd_e hf
        refine z_callV x4 5 [.int x6, .int r4] [] [.int r6] X B 33 rfl o_x4 rfl rfl miX5_cut ⟨(iX0_partToInner _ (List.mem_of_getElem? (i := 7) rfl)), (iX0_partToInner _ (List.mem_of_getElem? (i := 8) rfl)), (iX0_partToInner _ (List.mem_of_getElem? (i := 9) rfl))⟩ (ctX5_cut hj o_x4 ec) ⟨Nat.le_of_ble_eq_true rfl, Nat.le_of_ble_eq_true rfl⟩ rfl rfl (Nat.le_of_ble_eq_true rfl) rfl ?_
        refine z_istore [(9, .int r6), (8, .int r5), (7, .int r4), (0, .ref x0), (1, .int x1), (2, .int x2), (4, .ref x4), (5, .int x5), (6, .int x6)] B 34 rfl (by decide) rfl ?_
        refine z_iload B 35 rfl 7 rfl ?_
        refine z_aload B 36 rfl 6 rfl ?_
        refine z_iload B 37 rfl 8 rfl ?_
        refine z_iload B 38 rfl 1 rfl ?_
        obtain ⟨r7, ec, hf⟩ := bd_e hf
        refine z_callV x4 5 [.int x6, .int r5] [.int x5] [.int r7, .int x5] X B 39 rfl o_x4 rfl rfl miX5_cut ⟨(iX0_partToInner _ (List.mem_of_getElem? (i := 7) rfl)), (iX0_partToInner _ (List.mem_of_getElem? (i := 8) rfl)), (iX0_partToInner _ (List.mem_of_getElem? (i := 9) rfl))⟩ (ctX5_cut hj o_x4 ec) ⟨Nat.le_of_ble_eq_true rfl, Nat.le_of_ble_eq_true rfl⟩ rfl rfl (Nat.le_of_ble_eq_true rfl) rfl ?_
        refine z_iload B 40 rfl 0 rfl ?_
        refine z_isub B 41 rfl ?_
        refine z_mmin X B 42 rfl ⟨(iX0_partToInner _ (List.mem_of_getElem? (i := 10) rfl)), (iX0_partToInner _ (List.mem_of_getElem? (i := 11) rfl)), (iX0_partToInner _ (List.mem_of_getElem? (i := 12) rfl)), (iX0_partToInner _ (List.mem_of_getElem? (i := 13) rfl))⟩ ⟨Nat.le_of_ble_eq_true rfl, Nat.le_of_ble_eq_true rfl⟩ (Nat.le_of_ble_eq_true rfl) ?_
        obtain ⟨v8, ex, hf⟩ := nm_x hf
        refine z_top ex ?_
        refine z_istore [(10, .int v8), (9, .int r6), (8, .int r5), (7, .int r4), (0, .ref x0), (1, .int x1), (2, .int x2), (4, .ref x4), (5, .int x5), (6, .int x6)] B 43 rfl (by decide) rfl ?_
        refine z_iload B 44 rfl 8 rfl ?_
        refine z_iload B 45 rfl 0 rfl ?_
        refine z_isub B 46 rfl ?_
        obtain ⟨v9, ex, hf⟩ := nm_x hf
        refine z_top ex ?_
        refine z_istore [(5, .int v9), (10, .int v8), (9, .int r6), (8, .int r5), (7, .int r4), (0, .ref x0), (1, .int x1), (2, .int x2), (4, .ref x4), (6, .int x6)] B 47 rfl (by decide) rfl ?_
        refine z_iload B 48 rfl 2 rfl ?_
        refine z_iload B 49 rfl 1 rfl ?_
        refine z_iadd B 50 rfl ?_
        obtain ⟨v10, ex, hf⟩ := nm_x hf
        refine z_top ex ?_
        refine z_istore [(11, .int v10), (5, .int v9), (10, .int v8), (9, .int r6), (8, .int r5), (7, .int r4), (0, .ref x0), (1, .int x1), (2, .int x2), (4, .ref x4), (6, .int x6)] B 51 rfl (by decide) rfl ?_
        refine z_aload_n B 52 rfl 0 6 rfl rfl ?_
        refine z_getr 0 2 x0 B 53 rfl o_x0 rfl (iX0_partToInner _ (List.mem_of_getElem? (i := 14) rfl)) rfl ?_
        refine z_iload B 54 rfl 10 rfl ?_
        refine z_iload B 55 rfl 0 rfl ?_
        obtain ⟨r11, ec, hf⟩ := bd_e hf
        refine z_callN [.ref (x0 + 21), .int x6, .int v10] [] [] X B 56 rfl miX6_put ⟨List.mem_of_getElem? (i := 18) rfl, (iX0_partToInner _ (List.mem_of_getElem? (i := 15) rfl))⟩ (ctX6_put hj (obf_0_2 o_x0) ec) ⟨Nat.le_of_ble_eq_true rfl, Nat.le_of_ble_eq_true rfl⟩ rfl rfl (Nat.le_of_ble_eq_true rfl) rfl ?_
        refine z_aload_n B 57 rfl 0 6 rfl rfl ?_
        refine z_getr 0 1 x0 B 58 rfl o_x0 rfl (iX0_partToInner _ (List.mem_of_getElem? (i := 16) rfl)) rfl ?_
        refine z_iload B 59 rfl 10 rfl ?_
        refine z_iload B 60 rfl 5 rfl ?_
        refine z_iload B 61 rfl 0 rfl ?_
        by_cases hc : v10 < r4
        · replace hf := (if_pos hc).symm.trans hf
          refine z_icmp_gt_t B 62 rfl 142 (by decide) hc ?_
          refine z_sub [(0, .ref x0), (1, .int x1), (2, .int x2), (4, .ref x4), (5, .int v9), (6, .int x6)] [6, 7, 8, 9, 1, 10] rfl ?_
          exact f0_partToInner_j142_ok hj X B hQ hr ih _ _ _ _ _ _ _ _ _ o_x0 o_x4 (obf_0_1 o_x0) hf
        · replace hf := (if_neg hc).symm.trans hf
          refine z_icmp_gt_f B 62 rfl 142 (by decide) hc ?_
          refine z_iload B 63 rfl 0 rfl ?_
          refine z_iload B 64 rfl 4 rfl ?_
          by_cases hc : r5 < v10
          · replace hf := (if_pos hc).symm.trans hf
            refine z_icmp_gt_t B 65 rfl 142 (by decide) hc ?_
            refine z_sub [(0, .ref x0), (1, .int x1), (2, .int x2), (4, .ref x4), (5, .int v9), (6, .int x6)] [6, 7, 8, 9, 1, 10] rfl ?_
            exact f0_partToInner_j142_ok hj X B hQ hr ih _ _ _ _ _ _ _ _ _ o_x0 o_x4 (obf_0_1 o_x0) hf
          · replace hf := (if_neg hc).symm.trans hf
            refine z_icmp_gt_f B 65 rfl 142 (by decide) hc ?_
            refine z_iload_n B 66 rfl 2 8 rfl rfl ?_
            refine z_goto B 67 rfl 143 (by decide) ?_
            refine z_sub [(0, .ref x0), (1, .int x1), (2, .int x2), (4, .ref x4), (5, .int v9), (6, .int x6)] [6, 7, 8, 9, 1, 10] rfl ?_
            exact f0_partToInner_j143_ok hj X B hQ hr ih _ _ _ _ _ _ _ _ _ _ o_x0 o_x4 (obf_0_1 o_x0) hf
      · replace hf := (if_neg hc).symm.trans hf
        refine z_icmp_ne_t B 19 rfl 146 (by decide) hc ?_
        exact f0_partToInner_j146_ok hj X B hQ hr ih _ _ _ _ _ _ _ o_x0 o_x4  hf
    · replace hf := (if_neg hc).symm.trans hf
      refine z_icmp_ge_t B 13 rfl 152 (by decide) hc ?_
      refine z_iload B 72 rfl 4 rfl ?_
      cases hf
      exact z_iret B 73 rfl rfl hQ hr
def f0_partToInner (mm : Mem) (a0 : Nat) (a1 : Int32) (a2 : Int32) (a3 : Int32) : Option (Int32 × Mem) := nm (a1 + (1 : Int32)) (fun v1 => f0_partToInner_l17 FU a0 a1 a2 (a0 + 1 + 1) a3 v1 mm)
theorem ctX0_partToInner {l : Launch} {C : Cfg} (hj : Dj C) {mm : Mem} {a0 : Nat} {a1 : Int32} {a2 : Int32} {a3 : Int32} {x : (Int32 × Mem)} (o_a0 : Ob a0 0) (hf : f0_partToInner mm a0 a1 a2 a3 = some x) : Ct l C yX0_partToInner cX0_partToInner 12 (some .int) 2 43 [.ref a0, .int a1, .int a2, .int a3] mm (some (.int x.1)) x.2 := by
  refine Ct.of (tb := tbX0_partToInner) hj miX0_partToInner.2.1 miX0_partToInner.1 dtX0_partToInner (Nat.le_of_ble_eq_true rfl) ?_
  intro E B hQ hr X
  unfold f0_partToInner at hf
  show G E 12 0 [(0, .ref a0), (1, .int a1), (2, .int a2), (3, .int a3)] [] mm
  refine z_aload_n B 0 rfl 0 0 rfl rfl ?_
  refine z_getr 0 0 a0 B 1 rfl o_a0 rfl (iX0_partToInner _ (List.mem_of_getElem? (i := 0) rfl)) rfl ?_
  refine z_getr 1 0 (a0 + 1) B 2 rfl (obf_0_0 o_a0) rfl (iX0_partToInner _ (List.mem_of_getElem? (i := 1) rfl)) rfl ?_
  refine z_astore [(4, .ref (a0 + 1 + 1)), (0, .ref a0), (1, .int a1), (2, .int a2), (3, .int a3)] B 3 rfl (by decide) rfl ?_
  refine z_iload_n B 4 rfl 3 4 rfl rfl ?_
  refine z_istore [(5, .int a3), (4, .ref (a0 + 1 + 1)), (0, .ref a0), (1, .int a1), (2, .int a2), (3, .int a3)] B 5 rfl (by decide) rfl ?_
  refine z_iload_n B 6 rfl 1 3 rfl rfl ?_
  refine z_iconst 1 B 7 rfl (by decide) ?_
  refine z_iadd B 8 rfl ?_
  obtain ⟨v1, ex, hf⟩ := nm_x hf
  refine z_top ex ?_
  refine z_istore [(6, .int v1), (5, .int a3), (4, .ref (a0 + 1 + 1)), (0, .ref a0), (1, .int a1), (2, .int a2), (3, .int a3)] B 9 rfl (by decide) rfl ?_
  refine z_sub [(0, .ref a0), (1, .int a1), (2, .int a2), (4, .ref (a0 + 1 + 1)), (5, .int a3), (6, .int v1)] [3, 4, 5, 2, 1, 0] rfl ?_
  exact f0_partToInner_l17_ok hj X B hQ hr FU _ _ _ _ _ _ _ o_a0 (obf_1_0 (obf_0_0 o_a0))  hf
/-! ZoneCapacity$Auction.part(I)V -/
def tbX0_part : Tb := [(0, .aload_n 0, 1, 1), (1, .getfield 18, 3, 4), (4, .iload_n 1, 1, 5), (5, .invokestatic 69, 3, 8), (8, .istore_n 2, 1, 9), (9, .iload_n 2, 1, 10), (10, .aload_n 0, 1, 11), (11, .getfield 52, 3, 14), (14, .if_icmp .eq 30, 3, 17), (17, .aload_n 0, 1, 18), (18, .iload_n 1, 1, 19), (19, .iload_n 2, 1, 20), (20, .aload_n 0, 1, 21), (21, .getfield 40, 3, 24), (24, .invokevirtual 81, 3, 27), (27, .aload_n 0, 1, 28), (28, .iload_n 1, 1, 29), (29, .iload_n 2, 1, 30), (30, .iconst 1, 1, 31), (31, .iadd, 1, 32), (32, .aload_n 0, 1, 33), (33, .getfield 43, 3, 36), (36, .invokevirtual 81, 3, 39), (39, .aload_n 0, 1, 40), (40, .iload_n 2, 1, 41), (41, .putfield 52, 3, 44), (44, .aload_n 0, 1, 45), (45, .getfield 22, 3, 48), (48, .iload_n 1, 1, 49), (49, .invokestatic 69, 3, 52), (52, .aload_n 0, 1, 53), (53, .getfield 40, 3, 56), (56, .iload_n 1, 1, 57), (57, .invokestatic 69, 3, 60), (60, .isub, 1, 61), (61, .istore_n 3, 1, 62), (62, .aload_n 0, 1, 63), (63, .iload_n 1, 1, 64), (64, .iload_n 2, 1, 65), (65, .iload_n 3, 1, 66), (66, .invokevirtual 124, 3, 69), (69, .istore_n 3, 1, 70), (70, .aload_n 0, 1, 71), (71, .iload_n 1, 1, 72), (72, .iload_n 2, 1, 73), (73, .iload_n 3, 1, 74), (74, .invokevirtual 128, 3, 77), (77, .istore_n 3, 1, 78), (78, .aload_n 0, 1, 79), (79, .getfield 25, 3, 82), (82, .iload_n 1, 1, 83), (83, .aload_n 0, 1, 84), (84, .getfield 12, 3, 87), (87, .getfield 60, 3, 90), (90, .iload_n 1, 1, 91), (91, .iload_n 2, 1, 92), (92, .invokevirtual 110, 3, 95), (95, .iload_n 3, 1, 96), (96, .isub, 1, 97), (97, .invokestatic 56, 3, 100), (100, .return_, 1, 101)]
theorem dtX0_part : ∀ q ∈ tbX0_part, decode cX0_part q.1 = .ok (q.2.1, q.2.2.1) ∧ q.1 + q.2.2.1 = q.2.2.2 := by decide +kernel
theorem miX0_part : MI yX0_part cX0_part 4 none 1 := ⟨tw_mem (List.mem_of_getElem? (i := 729) (by decide +kernel)) rfl, by decide, by decide +kernel, tw_mem (List.mem_of_getElem? (i := 72) (by decide +kernel)) rfl⟩
abbrev rmX0_part : Room := { frames := 3, cells := 0, slots := 0, locals := 78 }
def wX0_part : List Cond := [.fieldLink "ZoneCapacity$Auction" 18 "ZoneCapacity$Auction" "prices" "[I", .static yX6_at, .fieldLink "ZoneCapacity$Auction" 52 "ZoneCapacity$Auction" "filledAt" "I", .fieldLink "ZoneCapacity$Auction" 22 "ZoneCapacity$Auction" "nets" "[I", .fieldLink "ZoneCapacity$Auction" 40 "ZoneCapacity$Auction" "lows" "[I", .methodLink "ZoneCapacity$Auction" 124 yX0_partToLines, .instanceMethod yX0_partToLines, .selects "ZoneCapacity$Auction" yX0_partToLines yX0_partToLines, .methodLink "ZoneCapacity$Auction" 128 yX0_partToInner, .instanceMethod yX0_partToInner, .selects "ZoneCapacity$Auction" yX0_partToInner yX0_partToInner, .fieldLink "ZoneCapacity$Auction" 25 "ZoneCapacity$Auction" "servedUnits" "[I", .fieldLink "ZoneCapacity$Auction" 12 "ZoneCapacity$Auction" "market" "LZoneCapacity$Market;", .fieldLink "ZoneCapacity$Auction" 60 "ZoneCapacity$Market" "zones" "LZoneCapacity$Zones;", .methodLink "ZoneCapacity$Auction" 110 yX5_wantedFrom, .instanceMethod yX5_wantedFrom, .selects "ZoneCapacity$Zones" yX5_wantedFrom yX5_wantedFrom, .static yX6_put, .methodLink "ZoneCapacity$Auction" 81 yX0_fillLevels, .instanceMethod yX0_fillLevels, .selects "ZoneCapacity$Auction" yX0_fillLevels yX0_fillLevels, .fieldLink "ZoneCapacity$Auction" 43 "ZoneCapacity$Auction" "highs" "[I"]
theorem iX0_part : ∀ w ∈ wX0_part, w ∈ TW := tw_of (ids := [226, 387, 239, 228, 237, 730, 732, 20, 735, 737, 21, 230, 224, 212, 693, 667, 668, 115, 689, 691, 15, 238]) (by decide +kernel)
def f0_part_j44 (x0 : Nat) (x1 : Int32) (x2 : Int32) (mm : Mem) : Option Mem := bd (f6_at mm (x0 + 21) x1) (fun r2 => bd (f6_at mm (x0 + 27) x1) (fun r3 => nm (r2 - r3) (fun v4 => bd (f0_partToLines mm x0 x1 x2 v4) (fun r5 => bd (f0_partToInner r5.2 x0 x1 x2 r5.1) (fun r6 => bd (f5_wantedFrom r6.2 (x0 + 1 + 1) x1 x2) (fun r7 => bd (f6_put r6.2 (x0 + 22) x1 (r7 - r6.1)) (fun r8 => some r8)))))))
theorem f0_part_j44_ok {E : Ev} {l : Launch} {C : Cfg} {x : Mem} (hj : Dj C) (X : Ec E l C rmX0_part) (B : Bx E RX0 tbX0_part 4 none) (hQ : Rt E) (hr : Rs E none x) (x0 : Nat) (x1 : Int32) (x2 : Int32) (mm : Mem) (o_x0 : Ob x0 0) (hf : f0_part_j44 x0 x1 x2 mm = some x) : G E 4 44 [(0, .ref x0), (1, .int x1), (2, .int x2)] [] mm := by
  unfold f0_part_j44 at hf
  refine z_aload_n B 26 rfl 0 0 rfl rfl ?_
  refine z_getr 0 2 x0 B 27 rfl o_x0 rfl (iX0_part _ (List.mem_of_getElem? (i := 3) rfl)) rfl ?_
  refine z_iload_n B 28 rfl 1 1 rfl rfl ?_
  obtain ⟨r2, ec, hf⟩ := bd_e hf
  refine z_callN [.ref (x0 + 21), .int x1] [] [.int r2] X B 29 rfl miX6_at ⟨List.mem_of_getElem? (i := 19) rfl, (iX0_part _ (List.mem_of_getElem? (i := 1) rfl))⟩ (ctX6_at hj (obf_0_2 o_x0) ec) ⟨Nat.le_of_ble_eq_true rfl, Nat.le_of_ble_eq_true rfl⟩ rfl rfl (Nat.le_of_ble_eq_true rfl) rfl ?_
  refine z_aload_n B 30 rfl 0 0 rfl rfl ?_
  refine z_getr 0 8 x0 B 31 rfl o_x0 rfl (iX0_part _ (List.mem_of_getElem? (i := 4) rfl)) rfl ?_
  refine z_iload_n B 32 rfl 1 1 rfl rfl ?_
  obtain ⟨r3, ec, hf⟩ := bd_e hf
  refine z_callN [.ref (x0 + 27), .int x1] [.int r2] [.int r3, .int r2] X B 33 rfl miX6_at ⟨List.mem_of_getElem? (i := 19) rfl, (iX0_part _ (List.mem_of_getElem? (i := 1) rfl))⟩ (ctX6_at hj (obf_0_8 o_x0) ec) ⟨Nat.le_of_ble_eq_true rfl, Nat.le_of_ble_eq_true rfl⟩ rfl rfl (Nat.le_of_ble_eq_true rfl) rfl ?_
  refine z_isub B 34 rfl ?_
  obtain ⟨v4, ex, hf⟩ := nm_x hf
  refine z_top ex ?_
  refine z_istore_n [(3, .int v4), (0, .ref x0), (1, .int x1), (2, .int x2)] B 35 rfl 3 rfl (by decide) rfl ?_
  refine z_aload_n B 36 rfl 0 1 rfl rfl ?_
  refine z_iload_n B 37 rfl 1 2 rfl rfl ?_
  refine z_iload_n B 38 rfl 2 3 rfl rfl ?_
  refine z_iload_n B 39 rfl 3 0 rfl rfl ?_
  obtain ⟨r5, ec, hf⟩ := bd_e hf
  refine z_callV x0 0 [.int x1, .int x2, .int v4] [] [.int r5.1] X B 40 rfl o_x0 rfl rfl miX0_partToLines ⟨(iX0_part _ (List.mem_of_getElem? (i := 5) rfl)), (iX0_part _ (List.mem_of_getElem? (i := 6) rfl)), (iX0_part _ (List.mem_of_getElem? (i := 7) rfl))⟩ (ctX0_partToLines hj o_x0 ec) ⟨Nat.le_of_ble_eq_true rfl, Nat.le_of_ble_eq_true rfl⟩ rfl rfl (Nat.le_of_ble_eq_true rfl) rfl ?_
  refine z_istore_n [(3, .int r5.1), (0, .ref x0), (1, .int x1), (2, .int x2)] B 41 rfl 3 rfl (by decide) rfl ?_
  refine z_aload_n B 42 rfl 0 1 rfl rfl ?_
  refine z_iload_n B 43 rfl 1 2 rfl rfl ?_
  refine z_iload_n B 44 rfl 2 3 rfl rfl ?_
  refine z_iload_n B 45 rfl 3 0 rfl rfl ?_
  obtain ⟨r6, ec, hf⟩ := bd_e hf
  refine z_callV x0 0 [.int x1, .int x2, .int r5.1] [] [.int r6.1] X B 46 rfl o_x0 rfl rfl miX0_partToInner ⟨(iX0_part _ (List.mem_of_getElem? (i := 8) rfl)), (iX0_part _ (List.mem_of_getElem? (i := 9) rfl)), (iX0_part _ (List.mem_of_getElem? (i := 10) rfl))⟩ (ctX0_partToInner hj o_x0 ec) ⟨Nat.le_of_ble_eq_true rfl, Nat.le_of_ble_eq_true rfl⟩ rfl rfl (Nat.le_of_ble_eq_true rfl) rfl ?_
  refine z_istore_n [(3, .int r6.1), (0, .ref x0), (1, .int x1), (2, .int x2)] B 47 rfl 3 rfl (by decide) rfl ?_
  refine z_aload_n B 48 rfl 0 1 rfl rfl ?_
  refine z_getr 0 3 x0 B 49 rfl o_x0 rfl (iX0_part _ (List.mem_of_getElem? (i := 11) rfl)) rfl ?_
  refine z_iload_n B 50 rfl 1 2 rfl rfl ?_
  refine z_aload_n B 51 rfl 0 1 rfl rfl ?_
  refine z_getr 0 0 x0 B 52 rfl o_x0 rfl (iX0_part _ (List.mem_of_getElem? (i := 12) rfl)) rfl ?_
  refine z_getr 1 0 (x0 + 1) B 53 rfl (obf_0_0 o_x0) rfl (iX0_part _ (List.mem_of_getElem? (i := 13) rfl)) rfl ?_
  refine z_iload_n B 54 rfl 1 2 rfl rfl ?_
  refine z_iload_n B 55 rfl 2 3 rfl rfl ?_
  obtain ⟨r7, ec, hf⟩ := bd_e hf
  refine z_callV (x0 + 1 + 1) 5 [.int x1, .int x2] [.int x1, .ref (x0 + 22)] [.int r7, .int x1, .ref (x0 + 22)] X B 56 rfl (obf_1_0 (obf_0_0 o_x0)) rfl rfl miX5_wantedFrom ⟨(iX0_part _ (List.mem_of_getElem? (i := 14) rfl)), (iX0_part _ (List.mem_of_getElem? (i := 15) rfl)), (iX0_part _ (List.mem_of_getElem? (i := 16) rfl))⟩ (ctX5_wantedFrom hj (obf_1_0 (obf_0_0 o_x0)) ec) ⟨Nat.le_of_ble_eq_true rfl, Nat.le_of_ble_eq_true rfl⟩ rfl rfl (Nat.le_of_ble_eq_true rfl) rfl ?_
  refine z_iload_n B 57 rfl 3 0 rfl rfl ?_
  refine z_isub B 58 rfl ?_
  obtain ⟨r8, ec, hf⟩ := bd_e hf
  refine z_callN [.ref (x0 + 22), .int x1, .int (r7 - r6.1)] [] [] X B 59 rfl miX6_put ⟨List.mem_of_getElem? (i := 18) rfl, (iX0_part _ (List.mem_of_getElem? (i := 17) rfl))⟩ (ctX6_put hj (obf_0_3 o_x0) ec) ⟨Nat.le_of_ble_eq_true rfl, Nat.le_of_ble_eq_true rfl⟩ rfl rfl (Nat.le_of_ble_eq_true rfl) rfl ?_
  cases hf
  exact z_vret B 60 rfl hQ hr
def f0_part (mm : Mem) (a0 : Nat) (a1 : Int32) : Option Mem := bd (f6_at mm (a0 + 20) a1) (fun r1 => if r1 = (mm a0 10) then f0_part_j44 a0 a1 r1 mm else bd (f0_fillLevels mm a0 a1 r1 (a0 + 27)) (fun r9 => bd (f0_fillLevels r9 a0 a1 (r1 + (1 : Int32)) (a0 + 28)) (fun r10 => nm (up2 r10 a0 10 r1) (fun m11 => f0_part_j44 a0 a1 r1 m11))))
theorem ctX0_part {l : Launch} {C : Cfg} (hj : Dj C) {mm : Mem} {a0 : Nat} {a1 : Int32} {x : Mem} (o_a0 : Ob a0 0) (hf : f0_part mm a0 a1 = some x) : Ct l C yX0_part cX0_part 4 none 3 78 [.ref a0, .int a1] mm none x := by
  refine Ct.of (tb := tbX0_part) hj miX0_part.2.1 miX0_part.1 dtX0_part (Nat.le_of_ble_eq_true rfl) ?_
  intro E B hQ hr X
  unfold f0_part at hf
  show G E 4 0 [(0, .ref a0), (1, .int a1)] [] mm
  refine z_aload_n B 0 rfl 0 0 rfl rfl ?_
  refine z_getr 0 1 a0 B 1 rfl o_a0 rfl (iX0_part _ (List.mem_of_getElem? (i := 0) rfl)) rfl ?_
  refine z_iload_n B 2 rfl 1 1 rfl rfl ?_
  obtain ⟨r1, ec, hf⟩ := bd_e hf
  refine z_callN [.ref (a0 + 20), .int a1] [] [.int r1] X B 3 rfl miX6_at ⟨List.mem_of_getElem? (i := 19) rfl, (iX0_part _ (List.mem_of_getElem? (i := 1) rfl))⟩ (ctX6_at hj (obf_0_1 o_a0) ec) ⟨Nat.le_of_ble_eq_true rfl, Nat.le_of_ble_eq_true rfl⟩ rfl rfl (Nat.le_of_ble_eq_true rfl) rfl ?_
  refine z_istore_n [(2, .int r1), (0, .ref a0), (1, .int a1)] B 4 rfl 2 rfl (by decide) rfl ?_
  refine z_iload_n B 5 rfl 2 0 rfl rfl ?_
  refine z_aload_n B 6 rfl 0 1 rfl rfl ?_
  refine z_geti 0 10 a0 B 7 rfl o_a0 rfl (iX0_part _ (List.mem_of_getElem? (i := 2) rfl)) rfl ?_
  by_cases hc : r1 = (mm a0 10)
  · replace hf := (if_pos hc).symm.trans hf
    refine z_icmp_eq_t B 8 rfl 44 (by decide) hc ?_
    refine z_sub [(0, .ref a0), (1, .int a1), (2, .int r1)] [1, 2, 0] rfl ?_
    exact f0_part_j44_ok hj X B hQ hr _ _ _ _ o_a0  hf
  · replace hf := (if_neg hc).symm.trans hf
    refine z_icmp_eq_f B 8 rfl 44 (by decide) hc ?_
    refine z_aload_n B 9 rfl 0 1 rfl rfl ?_
    refine z_iload_n B 10 rfl 1 2 rfl rfl ?_
    refine z_iload_n B 11 rfl 2 0 rfl rfl ?_
    refine z_aload_n B 12 rfl 0 1 rfl rfl ?_
    refine z_getr 0 8 a0 B 13 rfl o_a0 rfl (iX0_part _ (List.mem_of_getElem? (i := 4) rfl)) rfl ?_
    obtain ⟨r9, ec, hf⟩ := bd_e hf
    refine z_callV a0 0 [.int a1, .int r1, .ref (a0 + 27)] [] [] X B 14 rfl o_a0 rfl rfl miX0_fillLevels ⟨(iX0_part _ (List.mem_of_getElem? (i := 18) rfl)), (iX0_part _ (List.mem_of_getElem? (i := 19) rfl)), (iX0_part _ (List.mem_of_getElem? (i := 20) rfl))⟩ (ctX0_fillLevels hj o_a0 (obf_0_8 o_a0) ec) ⟨Nat.le_of_ble_eq_true rfl, Nat.le_of_ble_eq_true rfl⟩ rfl rfl (Nat.le_of_ble_eq_true rfl) rfl ?_
    refine z_aload_n B 15 rfl 0 1 rfl rfl ?_
    refine z_iload_n B 16 rfl 1 2 rfl rfl ?_
    refine z_iload_n B 17 rfl 2 0 rfl rfl ?_
    refine z_iconst 1 B 18 rfl (by decide) ?_
    refine z_iadd B 19 rfl ?_
    refine z_aload_n B 20 rfl 0 1 rfl rfl ?_
    refine z_getr 0 9 a0 B 21 rfl o_a0 rfl (iX0_part _ (List.mem_of_getElem? (i := 21) rfl)) rfl ?_
    obtain ⟨r10, ec, hf⟩ := bd_e hf
    refine z_callV a0 0 [.int a1, .int (r1 + (1 : Int32)), .ref (a0 + 28)] [] [] X B 22 rfl o_a0 rfl rfl miX0_fillLevels ⟨(iX0_part _ (List.mem_of_getElem? (i := 18) rfl)), (iX0_part _ (List.mem_of_getElem? (i := 19) rfl)), (iX0_part _ (List.mem_of_getElem? (i := 20) rfl))⟩ (ctX0_fillLevels hj o_a0 (obf_0_9 o_a0) ec) ⟨Nat.le_of_ble_eq_true rfl, Nat.le_of_ble_eq_true rfl⟩ rfl rfl (Nat.le_of_ble_eq_true rfl) rfl ?_
    refine z_aload_n B 23 rfl 0 1 rfl rfl ?_
    refine z_iload_n B 24 rfl 2 0 rfl rfl ?_
    refine z_puti 0 10 a0 B 25 rfl o_a0 rfl (iX0_part _ (List.mem_of_getElem? (i := 2) rfl)) rfl (ty := .int) (by decide) rfl rfl rfl ?_
    obtain ⟨m11, ex, hf⟩ := nm_x hf
    refine z_mem ex ?_
    refine z_sub [(0, .ref a0), (1, .int a1), (2, .int r1)] [1, 2, 0] rfl ?_
    exact f0_part_j44_ok hj X B hQ hr _ _ _ _ o_a0  hf
end
section
theorem cp_put {l : Launch} {D : va_G} {cI cZ cJ : ClassId} {a N : Nat} {f : Nat → Int32} {i v : Int32} (hi : ¬ i < 0) (hN : i < nI N) (hx : vp_in i N) : Met l yX6_put (Cond.code yX6_put cX6_put 3 none :: TW) ({ frames := 0, cells := 0, slots := 0, locals := 0 }) (va_Pc [.ref a, .int i, .int v] (fun U => va_P D zcls [(a, .inl (cI, N, .inl f))] U.heap ∧ va_K D zcls (tyn cI cZ cJ) U)) (fun _ st oc t => oc = .returned none ∧ va_P D zcls [(a, .inl (cI, N, .inl (upd f i.toNatClampNeg v)))] t.heap ∧ t.heap.size = st.heap.size ∧ va_F (fun q => q = a) st t) 0 0 (fun q => q = a) := by
  refine Met.ofW (cc := cX6_put) (maxL := 3) (ret := none) (by decide) rfl ?_
  intro p e s m args below meth c s₁ B hml hv
  obtain ⟨rfl, hP, hK⟩ := hv
  have hx0 := B.exec
  have hb := B.bytes
  have hr := B.returns
  have hlocks := B.notSynchronized
  have hl := lv_entry ([.ref a, .int i, .int v]) (n := 3) (Nat.le_of_ble_eq_true rfl)
  rw [lg_entry_eq]
  generalize (lg_sl ([.ref a, .int i, .int v]) ++ List.replicate (3 - (lg_sl ([.ref a, .int i, .int v])).length) Slot.unset).toArray = ls at hl ⊢
  have hl : lv_has ls 3 [(0, .ref a), (1, .int i), (2, .int v)] := hl
  have hS : va_S (fun q => q = a) s.heap s.heap [] := va_S.rf
  refine lv_aload_n hx0 hb (dtX6_put _ (List.mem_of_getElem? (i := 0) rfl)).1 rfl (lv_at hl 0 rfl) ?_
  refine lv_ifnull hx0 hb (dtX6_put _ (List.mem_of_getElem? (i := 1) rfl)).1 ?_
  refine lv_iload_n hx0 hb (dtX6_put _ (List.mem_of_getElem? (i := 2) rfl)).1 rfl (lv_at hl 1 rfl) ?_
  refine lv_if_lt hx0 hb (tgt := 18) (dtX6_put _ (List.mem_of_getElem? (i := 3) rfl)).1 (by decide) (fun q => absurd q hi) (fun _ => ?_)
  refine lv_iload_n hx0 hb (dtX6_put _ (List.mem_of_getElem? (i := 4) rfl)).1 rfl (lv_at hl 1 rfl) ?_
  refine lv_aload_n hx0 hb (dtX6_put _ (List.mem_of_getElem? (i := 5) rfl)).1 rfl (lv_at hl 0 rfl) ?_
  refine va_alen hx0 hb hK hP 0 0 rfl (ty := .int) rfl (v := nI N) rfl (dtX6_put _ (List.mem_of_getElem? (i := 6) rfl)).1 ?_
  refine lv_icmp_ge hx0 hb (tgt := 18) (dtX6_put _ (List.mem_of_getElem? (i := 7) rfl)).1 (by decide) (fun q => absurd hN (i32_nlt2 q)) (fun _ => ?_)
  refine lv_aload_n hx0 hb (dtX6_put _ (List.mem_of_getElem? (i := 8) rfl)).1 rfl (lv_at hl 0 rfl) ?_
  refine lv_iload_n hx0 hb (dtX6_put _ (List.mem_of_getElem? (i := 9) rfl)).1 rfl (lv_at hl 1 rfl) ?_
  refine lv_iload_n hx0 hb (dtX6_put _ (List.mem_of_getElem? (i := 10) rfl)).1 rfl (lv_at hl 2 rfl) ?_
  refine W.iast hx0 hb (hP 0 _ rfl) ((hK.2 0 _ rfl).1 N (fun j => .int (f j))) (fun q => by cases q) (by show ¬ (i < 0 ∨ (arrV _ _ _).slots.size ≤ _); rw [arrV_size]; exact hx) rfl rfl (dtX6_put _ (List.mem_of_getElem? (i := 11) rfl)).1 fun H1 e1 z1 oq => ?_
  refine W.vret hx0 hb hr (fun t ht hW => ⟨rfl, ?_, by rw [ht]; exact z1, (hS.put z1 oq rfl (k := i.toNatClampNeg)).F ht⟩) (hS.put z1 oq rfl).2.2 (dtX6_put _ (List.mem_of_getElem? (i := 12) rfl)).1
  intro k q hq
  have h0 : k < 1 := (List.getElem?_eq_some_iff.mp hq).1
  rw [show k = 0 by omega] at hq
  cases hq
  show t.heap[a]? = some (vp_cell _ _)
  rw [ht, e1]
  rw [vp_cell_i, vp_cell_i, arrV_store]
  congr 2
  funext q
  by_cases hq : q = i.toNatClampNeg
  · subst hq
    simp [updV, upd]
  · simp [updV, upd, hq]
theorem n_cput {E : En} {ow : String} {tb : Tb} {nL pc nx len kc ks : Nat} {lv : Lv} {st : List Value} {cs : List va_E} {R : Room} {l0 : Launch} {D0 : va_G} {cI cZ cJ : ClassId} {idx N : Nat} {f : Nat → Int32} {x v : Int32} {host : String} (j : Nat) (cs2 : List va_E) (hR0 : RN E R) (hL : LN E l0 D0 cI cZ cJ) (B : BN E ow tb nL) (i : Nat) (h : tb[i]? = some (pc, .invokestatic idx, 3, nx)) (hw : (ow, idx, yX6_put, host) ∈ zns) (hst : Cond.static yX6_put ∈ TW) (hR : 1 ≤ R.frames ∧ 22 ≤ R.locals) (he : cs[j]? = some (.inl (cI, N, .inl f))) (hi : ¬ x < 0 ∧ x < nI N ∧ vp_in x N) (h2 : cs.set j (.inl (cI, N, .inl (upd f x.toNatClampNeg v))) = cs2) (hk : kc ≤ R.cells ∧ ks ≤ R.slots) (k : GN E nL nx lv st cs2 len kc ks) (hW : (st.map fun v => v.category).sum ≤ 8) : GN E nL pc lv (.int v :: .int x :: .ref j :: st) cs len kc ks := by
  subst h2
  obtain ⟨p, l, e, R', s, m, args, below, meth, c, Q, D, cI', cZ', cJ', n, lr⟩ := E
  obtain rfl : R' = R := hR0
  obtain ⟨rfl, rfl, rfl, rfl, rfl⟩ := hL
  obtain ⟨hd, hn⟩ := BN.dec B h
  subst hn
  intro H locs ls hlen hP hz hS hl
  have he' := wsn_get (n := n) he
  have hrl : ((st.map (shv n)).map (fun v => v.category)).sum ≤ 8 := by
    rw [List.map_map]
    have : ((fun v : Value => v.category) ∘ shv n) = fun v => v.category := by funext v; exact shv_cat n v
    rw [this]; exact hW
  have hP1 : va_P D zcls [(n + j, .inl (cI', N, .inl f))] H := by
    intro k q hq
    have h0 : k < 1 := (List.getElem?_eq_some_iff.mp hq).1
    rw [show k = 0 by omega] at hq
    cases hq
    exact hP j _ he'
  have hrun := va_runSN (As := [.ref (n + j), .int x, .int v]) (rest := st.map (shv n)) (g := F0 m pc ls (.int v :: .int x :: .ref (n + j) :: st.map (shv n))) (cells := kc) (slots := ks) (locs := locs) (H := H) (e := e) (below := below) (meth := meth) ⟨B.1, rfl, B.ml, B.hown, B.tw⟩ (cp_put (l := l) (D := D) (cI := cI') (cZ := cZ') (cJ := cJ') (a := n + j) (f := f) hi.1 hi.2.1 hi.2.2) ⟨va_cnB 3 B.tw (tw_good miX6_put.1) rfl rfl rfl (B.hnx _ hw) (B.tw _ miX6_put.2.2.2) miX6_put.2.2.1 ⟨hR.1, hR.2⟩, B.tw _ hst, trivial⟩ ⟨fun a U g mk q => ⟨q.1, q.2.1, va_K.moved (u := U) (U := U.calling g mk a) (Vm.Alike.refl U.vm) q.2.2⟩, fun U hU hW => ⟨rfl, by rw [hU]; exact hP1, va_K.moved hW.alike B.K⟩⟩ rfl rfl hl.1 rfl (lv_room hrl) hd hk
  intro T hT Y
  obtain ⟨v9, st₀, t, T', L, h0, X', hL, e1, e2, ⟨hv, hP2, hz2, hF⟩, hst⟩ := hrun T hT Y
  cases hv
  have hAA : ∀ q, q = n + j → n ≤ q := fun q h => by omega
  obtain ⟨g1, g2, hS1⟩ := vx_keep h0 e1 hS (fun q _ h => hAA q h) hAA hL hF
  have hlt : n + j < H.size := (hP j _ he').lt
  have hP3 : va_P D zcls (wsn n (cs.set j (.inl (cI', N, .inl (upd f x.toNatClampNeg v))))) T'.heap := by
    intro k9 q hq
    obtain ⟨y, hy, rfl⟩ := wsn_at hq
    by_cases hk : k9 = j
    · subst hk
      have hlen : k9 < cs.length := (List.getElem?_eq_some_iff.mp he).1
      rw [List.getElem?_set_self hlen] at hy
      cases hy
      rw [e1]
      exact hP2 0 _ rfl
    · rw [List.getElem?_set_ne (Ne.symm hk)] at hy
      have hq2 := hP k9 _ (wsn_get (n := n) hy)
      exact hq2.kept (g2 (n + k9) hq2.lt (by show ¬ _ = _; omega))
  have hgo := k T'.heap (locs ++ L) ls (by rw [List.length_set]; exact hlen) hP3 (by rw [e1, hz2, h0, hz, List.length_set]) hS1 hl
  obtain ⟨t2, a1, b1⟩ := hgo T' rfl X'
  exact ⟨t2, hst t2 a1, b1⟩
def bN5 (cI cZ cJ : ClassId) : List va_E := (.inr (5, [.int 1, .ref 1, .ref 2, .ref 3, .ref 4, .ref 5, .ref 6]) :: (([] : List va_E) ++ [.inl (cI, 6, .inl (upd (fun _ => 0) 0 (-1)))] ++ [.inl (cI, 6, .inl (fun _ => 0))] ++ [.inl (cI, 6, .inl (fun _ => 0))] ++ [.inl (cI, 6, .inl (fun _ => 0))] ++ [.inl (cI, 24, .inl (fun _ => 0))] ++ [.inl (cI, 24, .inl (fun _ => 0))]))
theorem bN5_len (cI cZ cJ : ClassId) : (bN5 cI cZ cJ).length = 7 := by
  unfold bN5
  simp only [List.length_cons, List.length_append, List.length_map, List.length_nil]
def tbN5 : Tb := [(0, .aload_n 0, 1, 1), (1, .invokespecial 3, 3, 4), (4, .aload_n 0, 1, 5), (5, .iconst 1, 1, 6), (6, .putfield 9, 3, 9), (9, .aload_n 0, 1, 10), (10, .bipush 6, 2, 12), (12, .newarray .int, 2, 14), (14, .putfield 15, 3, 17), (17, .aload_n 0, 1, 18), (18, .bipush 6, 2, 20), (20, .newarray .int, 2, 22), (22, .putfield 19, 3, 25), (25, .aload_n 0, 1, 26), (26, .bipush 6, 2, 28), (28, .newarray .int, 2, 30), (30, .putfield 22, 3, 33), (33, .aload_n 0, 1, 34), (34, .bipush 6, 2, 36), (36, .newarray .int, 2, 38), (38, .putfield 25, 3, 41), (41, .aload_n 0, 1, 42), (42, .bipush 24, 2, 44), (44, .newarray .int, 2, 46), (46, .putfield 28, 3, 49), (49, .aload_n 0, 1, 50), (50, .bipush 24, 2, 52), (52, .newarray .int, 2, 54), (54, .putfield 31, 3, 57), (57, .aload_n 0, 1, 58), (58, .getfield 15, 3, 61), (61, .iconst 0, 1, 62), (62, .iconst (-1), 1, 63), (63, .invokestatic 34, 3, 66), (66, .return_, 1, 67)]
theorem dtN5 : ∀ q ∈ tbN5, decode cX5_init q.1 = .ok (q.2.1, q.2.2.1) ∧ q.1 + q.2.2.1 = q.2.2.2 := by decide +kernel
theorem miN5 : MI yX5_init cX5_init 1 none 0 := ⟨tw_mem (List.mem_of_getElem? (i := 112) (by decide +kernel)) rfl, by decide, by decide +kernel, tw_mem (List.mem_of_getElem? (i := 74) (by decide +kernel)) rfl⟩
abbrev rmN5 : Room := { frames := 1, cells := 6, slots := 72, locals := 32 }
def wN5 : List Cond := [.methodLink "ZoneCapacity$Zones" 3 Lib.objectInit, .instanceMethod Lib.objectInit, .code Lib.objectInit ⟨#[0xb1]⟩ 1 none, .fieldLink "ZoneCapacity$Zones" 9 "ZoneCapacity$Zones" "many" "I", .arrayClass .int, .fieldLink "ZoneCapacity$Zones" 15 "ZoneCapacity$Zones" "outer" "[I", .fieldLink "ZoneCapacity$Zones" 19 "ZoneCapacity$Zones" "in" "[I", .fieldLink "ZoneCapacity$Zones" 22 "ZoneCapacity$Zones" "out" "[I", .fieldLink "ZoneCapacity$Zones" 25 "ZoneCapacity$Zones" "points" "[I", .fieldLink "ZoneCapacity$Zones" 28 "ZoneCapacity$Zones" "pointUnits" "[I", .fieldLink "ZoneCapacity$Zones" 31 "ZoneCapacity$Zones" "pointPrices" "[I", .static yX6_put]
theorem iN5 : ∀ w ∈ wN5, w ∈ TW := tw_of (ids := [113, 94, 95, 117, 151, 121, 124, 128, 132, 134, 135, 115]) (by decide +kernel)
set_option maxHeartbeats 8000000 in
theorem ctN5 {l : Launch} {D : va_G} {cI cZ cJ : ClassId} : CtN l D cI cZ cJ yX5_init cX5_init 1 1 32 (.inr (5, [.int 0, .null, .null, .null, .null, .null, .null])) (bN5 cI cZ cJ) 6 72 := by
  refine CtN.of (tb := tbN5) (by decide) miN5.1 rfl dtN5 (by decide) ?_
  intro E B hQ hR0 hL hI
  refine n_aload_n B 0 rfl 0 0 rfl rfl ?_
  refine n_obj hR0 B 1 rfl ⟨(iN5 _ (List.mem_of_getElem? (i := 0) rfl)), (iN5 _ (List.mem_of_getElem? (i := 1) rfl)), (iN5 _ (List.mem_of_getElem? (i := 2) rfl))⟩ ⟨Nat.le_of_ble_eq_true rfl, Nat.le_of_ble_eq_true rfl⟩ (Nat.le_of_ble_eq_true rfl) ?_
  refine n_aload_n B 2 rfl 0 0 rfl rfl ?_
  refine n_iconst (1) B 3 rfl (by decide) ?_
  refine n_put 5 0 0 (.inr (5, [.int 1, .null, .null, .null, .null, .null, .null]) :: (([] : List va_E))) B 4 rfl (iN5 _ (List.mem_of_getElem? (i := 3) rfl)) rfl (ty := .int) (by decide) rfl (fun _ => ⟨rfl, rfl⟩) rfl (by decide) rfl ?_
  refine n_aload_n B 5 rfl 0 0 rfl rfl ?_
  refine n_bipush (6) B 6 rfl (by decide) ?_
  refine n_newaI 6 1 (.inr (5, [.int 1, .null, .null, .null, .null, .null, .null]) :: (([] : List va_E) ++ [.inl (cI, 6, .inl (fun _ => 0))])) 2 1 6 hR0 hL B 7 rfl (iN5 _ (List.mem_of_getElem? (i := 4) rfl)) ⟨by decide, by decide, by decide⟩ ⟨rfl, rfl⟩ rfl ⟨rfl, rfl, Nat.le_of_ble_eq_true rfl, Nat.le_of_ble_eq_true rfl⟩ ?_
  refine n_putF 5 1 0 (.inr (5, [.int 1, .ref 1, .null, .null, .null, .null, .null]) :: (([] : List va_E) ++ [.inl (cI, 6, .inl (fun _ => 0))])) B 8 rfl (iN5 _ (List.mem_of_getElem? (i := 5) rfl)) rfl (ty := .array .int) (by decide) rfl hI rfl (fun _ => ⟨rfl, rfl⟩) rfl (by decide) rfl ?_
  refine n_aload_n B 9 rfl 0 0 rfl rfl ?_
  refine n_bipush (6) B 10 rfl (by decide) ?_
  refine n_newaI 6 2 (.inr (5, [.int 1, .ref 1, .null, .null, .null, .null, .null]) :: (([] : List va_E) ++ [.inl (cI, 6, .inl (fun _ => 0))] ++ [.inl (cI, 6, .inl (fun _ => 0))])) 3 2 12 hR0 hL B 11 rfl (iN5 _ (List.mem_of_getElem? (i := 4) rfl)) ⟨by decide, by decide, by decide⟩ ⟨rfl, rfl⟩ rfl ⟨rfl, rfl, Nat.le_of_ble_eq_true rfl, Nat.le_of_ble_eq_true rfl⟩ ?_
  refine n_putF 5 2 0 (.inr (5, [.int 1, .ref 1, .ref 2, .null, .null, .null, .null]) :: (([] : List va_E) ++ [.inl (cI, 6, .inl (fun _ => 0))] ++ [.inl (cI, 6, .inl (fun _ => 0))])) B 12 rfl (iN5 _ (List.mem_of_getElem? (i := 6) rfl)) rfl (ty := .array .int) (by decide) rfl hI rfl (fun _ => ⟨rfl, rfl⟩) rfl (by decide) rfl ?_
  refine n_aload_n B 13 rfl 0 0 rfl rfl ?_
  refine n_bipush (6) B 14 rfl (by decide) ?_
  refine n_newaI 6 3 (.inr (5, [.int 1, .ref 1, .ref 2, .null, .null, .null, .null]) :: (([] : List va_E) ++ [.inl (cI, 6, .inl (fun _ => 0))] ++ [.inl (cI, 6, .inl (fun _ => 0))] ++ [.inl (cI, 6, .inl (fun _ => 0))])) 4 3 18 hR0 hL B 15 rfl (iN5 _ (List.mem_of_getElem? (i := 4) rfl)) ⟨by decide, by decide, by decide⟩ ⟨rfl, rfl⟩ rfl ⟨rfl, rfl, Nat.le_of_ble_eq_true rfl, Nat.le_of_ble_eq_true rfl⟩ ?_
  refine n_putF 5 3 0 (.inr (5, [.int 1, .ref 1, .ref 2, .ref 3, .null, .null, .null]) :: (([] : List va_E) ++ [.inl (cI, 6, .inl (fun _ => 0))] ++ [.inl (cI, 6, .inl (fun _ => 0))] ++ [.inl (cI, 6, .inl (fun _ => 0))])) B 16 rfl (iN5 _ (List.mem_of_getElem? (i := 7) rfl)) rfl (ty := .array .int) (by decide) rfl hI rfl (fun _ => ⟨rfl, rfl⟩) rfl (by decide) rfl ?_
  refine n_aload_n B 17 rfl 0 0 rfl rfl ?_
  refine n_bipush (6) B 18 rfl (by decide) ?_
  refine n_newaI 6 4 (.inr (5, [.int 1, .ref 1, .ref 2, .ref 3, .null, .null, .null]) :: (([] : List va_E) ++ [.inl (cI, 6, .inl (fun _ => 0))] ++ [.inl (cI, 6, .inl (fun _ => 0))] ++ [.inl (cI, 6, .inl (fun _ => 0))] ++ [.inl (cI, 6, .inl (fun _ => 0))])) 5 4 24 hR0 hL B 19 rfl (iN5 _ (List.mem_of_getElem? (i := 4) rfl)) ⟨by decide, by decide, by decide⟩ ⟨rfl, rfl⟩ rfl ⟨rfl, rfl, Nat.le_of_ble_eq_true rfl, Nat.le_of_ble_eq_true rfl⟩ ?_
  refine n_putF 5 4 0 (.inr (5, [.int 1, .ref 1, .ref 2, .ref 3, .ref 4, .null, .null]) :: (([] : List va_E) ++ [.inl (cI, 6, .inl (fun _ => 0))] ++ [.inl (cI, 6, .inl (fun _ => 0))] ++ [.inl (cI, 6, .inl (fun _ => 0))] ++ [.inl (cI, 6, .inl (fun _ => 0))])) B 20 rfl (iN5 _ (List.mem_of_getElem? (i := 8) rfl)) rfl (ty := .array .int) (by decide) rfl hI rfl (fun _ => ⟨rfl, rfl⟩) rfl (by decide) rfl ?_
  refine n_aload_n B 21 rfl 0 0 rfl rfl ?_
  refine n_bipush (24) B 22 rfl (by decide) ?_
  refine n_newaI 24 5 (.inr (5, [.int 1, .ref 1, .ref 2, .ref 3, .ref 4, .null, .null]) :: (([] : List va_E) ++ [.inl (cI, 6, .inl (fun _ => 0))] ++ [.inl (cI, 6, .inl (fun _ => 0))] ++ [.inl (cI, 6, .inl (fun _ => 0))] ++ [.inl (cI, 6, .inl (fun _ => 0))] ++ [.inl (cI, 24, .inl (fun _ => 0))])) 6 5 48 hR0 hL B 23 rfl (iN5 _ (List.mem_of_getElem? (i := 4) rfl)) ⟨by decide, by decide, by decide⟩ ⟨rfl, rfl⟩ rfl ⟨rfl, rfl, Nat.le_of_ble_eq_true rfl, Nat.le_of_ble_eq_true rfl⟩ ?_
  refine n_putF 5 5 0 (.inr (5, [.int 1, .ref 1, .ref 2, .ref 3, .ref 4, .ref 5, .null]) :: (([] : List va_E) ++ [.inl (cI, 6, .inl (fun _ => 0))] ++ [.inl (cI, 6, .inl (fun _ => 0))] ++ [.inl (cI, 6, .inl (fun _ => 0))] ++ [.inl (cI, 6, .inl (fun _ => 0))] ++ [.inl (cI, 24, .inl (fun _ => 0))])) B 24 rfl (iN5 _ (List.mem_of_getElem? (i := 9) rfl)) rfl (ty := .array .int) (by decide) rfl hI rfl (fun _ => ⟨rfl, rfl⟩) rfl (by decide) rfl ?_
  refine n_aload_n B 25 rfl 0 0 rfl rfl ?_
  refine n_bipush (24) B 26 rfl (by decide) ?_
  refine n_newaI 24 6 (.inr (5, [.int 1, .ref 1, .ref 2, .ref 3, .ref 4, .ref 5, .null]) :: (([] : List va_E) ++ [.inl (cI, 6, .inl (fun _ => 0))] ++ [.inl (cI, 6, .inl (fun _ => 0))] ++ [.inl (cI, 6, .inl (fun _ => 0))] ++ [.inl (cI, 6, .inl (fun _ => 0))] ++ [.inl (cI, 24, .inl (fun _ => 0))] ++ [.inl (cI, 24, .inl (fun _ => 0))])) 7 6 72 hR0 hL B 27 rfl (iN5 _ (List.mem_of_getElem? (i := 4) rfl)) ⟨by decide, by decide, by decide⟩ ⟨rfl, rfl⟩ rfl ⟨rfl, rfl, Nat.le_of_ble_eq_true rfl, Nat.le_of_ble_eq_true rfl⟩ ?_
  refine n_putF 5 6 0 (.inr (5, [.int 1, .ref 1, .ref 2, .ref 3, .ref 4, .ref 5, .ref 6]) :: (([] : List va_E) ++ [.inl (cI, 6, .inl (fun _ => 0))] ++ [.inl (cI, 6, .inl (fun _ => 0))] ++ [.inl (cI, 6, .inl (fun _ => 0))] ++ [.inl (cI, 6, .inl (fun _ => 0))] ++ [.inl (cI, 24, .inl (fun _ => 0))] ++ [.inl (cI, 24, .inl (fun _ => 0))])) B 28 rfl (iN5 _ (List.mem_of_getElem? (i := 10) rfl)) rfl (ty := .array .int) (by decide) rfl hI rfl (fun _ => ⟨rfl, rfl⟩) rfl (by decide) rfl ?_
  refine n_aload_n B 29 rfl 0 0 rfl rfl ?_
  refine n_get 5 1 0 B 30 rfl (iN5 _ (List.mem_of_getElem? (i := 5) rfl)) rfl rfl rfl ?_
  refine n_iconst (0) B 31 rfl (by decide) ?_
  refine n_iconst (-1) B 32 rfl (by decide) ?_
  refine n_cput 1 (.inr (5, [.int 1, .ref 1, .ref 2, .ref 3, .ref 4, .ref 5, .ref 6]) :: (([] : List va_E) ++ [.inl (cI, 6, .inl (upd (fun _ => 0) 0 (-1)))] ++ [.inl (cI, 6, .inl (fun _ => 0))] ++ [.inl (cI, 6, .inl (fun _ => 0))] ++ [.inl (cI, 6, .inl (fun _ => 0))] ++ [.inl (cI, 24, .inl (fun _ => 0))] ++ [.inl (cI, 24, .inl (fun _ => 0))])) hR0 hL B 33 rfl (List.mem_of_getElem? (i := 2) rfl) (iN5 _ (List.mem_of_getElem? (i := 11) rfl)) ⟨Nat.le_of_ble_eq_true rfl, Nat.le_of_ble_eq_true rfl⟩ rfl ⟨by decide, by decide, by unfold vp_in; decide⟩ rfl ⟨Nat.le_of_ble_eq_true rfl, Nat.le_of_ble_eq_true rfl⟩ ?_ (Nat.le_of_ble_eq_true rfl)
  exact n_vret B 34 rfl hQ ⟨rfl, rfl, rfl⟩
def bN2 (cI cZ cJ : ClassId) : List va_E := (.inr (2, [.int 0, .int 9999, .ref 1, .ref 2, .ref 3, .ref 4, .ref 5, .ref 6, .ref 7, .ref 8, .ref 9, .ref 10]) :: (([] : List va_E) ++ [.inl (cI, 4, .inl (fun _ => 0))] ++ [.inl (cI, 12, .inl (fun _ => 0))] ++ [.inl (cI, 12, .inl (fun _ => 0))] ++ [.inl (cI, 12, .inl (fun _ => 0))] ++ [.inl (cI, 12, .inl (fun _ => 0))] ++ [.inl (cI, 12, .inl (fun _ => 0))] ++ [.inl (cI, 12, .inl (fun _ => 0))] ++ [.inl (cI, 12, .inl (fun _ => 0))] ++ [.inl (cI, 36, .inl (fun _ => 0))] ++ [.inl (cI, 36, .inl (fun _ => 0))]))
theorem bN2_len (cI cZ cJ : ClassId) : (bN2 cI cZ cJ).length = 11 := by
  unfold bN2
  simp only [List.length_cons, List.length_append, List.length_map, List.length_nil, bN5_len]
def tbN2 : Tb := [(0, .aload_n 0, 1, 1), (1, .invokespecial 3, 3, 4), (4, .aload_n 0, 1, 5), (5, .sipush 9999, 3, 8), (8, .putfield 9, 3, 11), (11, .aload_n 0, 1, 12), (12, .iconst 4, 1, 13), (13, .newarray .int, 2, 15), (15, .putfield 15, 3, 18), (18, .aload_n 0, 1, 19), (19, .bipush 12, 2, 21), (21, .newarray .int, 2, 23), (23, .putfield 19, 3, 26), (26, .aload_n 0, 1, 27), (27, .bipush 12, 2, 29), (29, .newarray .int, 2, 31), (31, .putfield 22, 3, 34), (34, .aload_n 0, 1, 35), (35, .bipush 12, 2, 37), (37, .newarray .int, 2, 39), (39, .putfield 25, 3, 42), (42, .aload_n 0, 1, 43), (43, .bipush 12, 2, 45), (45, .newarray .int, 2, 47), (47, .putfield 28, 3, 50), (50, .aload_n 0, 1, 51), (51, .bipush 12, 2, 53), (53, .newarray .int, 2, 55), (55, .putfield 31, 3, 58), (58, .aload_n 0, 1, 59), (59, .bipush 12, 2, 61), (61, .newarray .int, 2, 63), (63, .putfield 34, 3, 66), (66, .aload_n 0, 1, 67), (67, .bipush 12, 2, 69), (69, .newarray .int, 2, 71), (71, .putfield 37, 3, 74), (74, .aload_n 0, 1, 75), (75, .bipush 36, 2, 77), (77, .newarray .int, 2, 79), (79, .putfield 40, 3, 82), (82, .aload_n 0, 1, 83), (83, .bipush 36, 2, 85), (85, .newarray .int, 2, 87), (87, .putfield 43, 3, 90), (90, .return_, 1, 91)]
theorem dtN2 : ∀ q ∈ tbN2, decode cX2_init q.1 = .ok (q.2.1, q.2.2.1) ∧ q.1 + q.2.2.1 = q.2.2.2 := by decide +kernel
theorem miN2 : MI yX2_init cX2_init 1 none 0 := ⟨tw_mem (List.mem_of_getElem? (i := 156) (by decide +kernel)) rfl, by decide, by decide +kernel, tw_mem (List.mem_of_getElem? (i := 75) (by decide +kernel)) rfl⟩
abbrev rmN2 : Room := { frames := 1, cells := 10, slots := 160, locals := 32 }
def wN2 : List Cond := [.methodLink "ZoneCapacity$Offers" 3 Lib.objectInit, .instanceMethod Lib.objectInit, .code Lib.objectInit ⟨#[0xb1]⟩ 1 none, .fieldLink "ZoneCapacity$Offers" 9 "ZoneCapacity$Offers" "ceiling" "I", .arrayClass .int, .fieldLink "ZoneCapacity$Offers" 15 "ZoneCapacity$Offers" "floors" "[I", .fieldLink "ZoneCapacity$Offers" 19 "ZoneCapacity$Offers" "zones" "[I", .fieldLink "ZoneCapacity$Offers" 22 "ZoneCapacity$Offers" "sizes" "[I", .fieldLink "ZoneCapacity$Offers" 25 "ZoneCapacity$Offers" "kinds" "[I", .fieldLink "ZoneCapacity$Offers" 28 "ZoneCapacity$Offers" "owners" "[I", .fieldLink "ZoneCapacity$Offers" 31 "ZoneCapacity$Offers" "must" "[I", .fieldLink "ZoneCapacity$Offers" 34 "ZoneCapacity$Offers" "free" "[I", .fieldLink "ZoneCapacity$Offers" 37 "ZoneCapacity$Offers" "steps" "[I", .fieldLink "ZoneCapacity$Offers" 40 "ZoneCapacity$Offers" "stepUnits" "[I", .fieldLink "ZoneCapacity$Offers" 43 "ZoneCapacity$Offers" "stepPrices" "[I"]
theorem iN2 : ∀ w ∈ wN2, w ∈ TW := tw_of (ids := [157, 94, 95, 162, 151, 165, 168, 171, 173, 175, 178, 180, 182, 184, 185]) (by decide +kernel)
set_option maxHeartbeats 8000000 in
theorem ctN2 {l : Launch} {D : va_G} {cI cZ cJ : ClassId} : CtN l D cI cZ cJ yX2_init cX2_init 1 1 32 (.inr (2, [.int 0, .int 0, .null, .null, .null, .null, .null, .null, .null, .null, .null, .null])) (bN2 cI cZ cJ) 10 160 := by
  refine CtN.of (tb := tbN2) (by decide) miN2.1 rfl dtN2 (by decide) ?_
  intro E B hQ hR0 hL hI
  refine n_aload_n B 0 rfl 0 0 rfl rfl ?_
  refine n_obj hR0 B 1 rfl ⟨(iN2 _ (List.mem_of_getElem? (i := 0) rfl)), (iN2 _ (List.mem_of_getElem? (i := 1) rfl)), (iN2 _ (List.mem_of_getElem? (i := 2) rfl))⟩ ⟨Nat.le_of_ble_eq_true rfl, Nat.le_of_ble_eq_true rfl⟩ (Nat.le_of_ble_eq_true rfl) ?_
  refine n_aload_n B 2 rfl 0 0 rfl rfl ?_
  refine n_sipush (9999) B 3 rfl (by decide) ?_
  refine n_put 2 1 0 (.inr (2, [.int 0, .int 9999, .null, .null, .null, .null, .null, .null, .null, .null, .null, .null]) :: (([] : List va_E))) B 4 rfl (iN2 _ (List.mem_of_getElem? (i := 3) rfl)) rfl (ty := .int) (by decide) rfl (fun _ => ⟨rfl, rfl⟩) rfl (by decide) rfl ?_
  refine n_aload_n B 5 rfl 0 0 rfl rfl ?_
  refine n_iconst (4) B 6 rfl (by decide) ?_
  refine n_newaI 4 1 (.inr (2, [.int 0, .int 9999, .null, .null, .null, .null, .null, .null, .null, .null, .null, .null]) :: (([] : List va_E) ++ [.inl (cI, 4, .inl (fun _ => 0))])) 2 1 4 hR0 hL B 7 rfl (iN2 _ (List.mem_of_getElem? (i := 4) rfl)) ⟨by decide, by decide, by decide⟩ ⟨rfl, rfl⟩ rfl ⟨rfl, rfl, Nat.le_of_ble_eq_true rfl, Nat.le_of_ble_eq_true rfl⟩ ?_
  refine n_putF 2 2 0 (.inr (2, [.int 0, .int 9999, .ref 1, .null, .null, .null, .null, .null, .null, .null, .null, .null]) :: (([] : List va_E) ++ [.inl (cI, 4, .inl (fun _ => 0))])) B 8 rfl (iN2 _ (List.mem_of_getElem? (i := 5) rfl)) rfl (ty := .array .int) (by decide) rfl hI rfl (fun _ => ⟨rfl, rfl⟩) rfl (by decide) rfl ?_
  refine n_aload_n B 9 rfl 0 0 rfl rfl ?_
  refine n_bipush (12) B 10 rfl (by decide) ?_
  refine n_newaI 12 2 (.inr (2, [.int 0, .int 9999, .ref 1, .null, .null, .null, .null, .null, .null, .null, .null, .null]) :: (([] : List va_E) ++ [.inl (cI, 4, .inl (fun _ => 0))] ++ [.inl (cI, 12, .inl (fun _ => 0))])) 3 2 16 hR0 hL B 11 rfl (iN2 _ (List.mem_of_getElem? (i := 4) rfl)) ⟨by decide, by decide, by decide⟩ ⟨rfl, rfl⟩ rfl ⟨rfl, rfl, Nat.le_of_ble_eq_true rfl, Nat.le_of_ble_eq_true rfl⟩ ?_
  refine n_putF 2 3 0 (.inr (2, [.int 0, .int 9999, .ref 1, .ref 2, .null, .null, .null, .null, .null, .null, .null, .null]) :: (([] : List va_E) ++ [.inl (cI, 4, .inl (fun _ => 0))] ++ [.inl (cI, 12, .inl (fun _ => 0))])) B 12 rfl (iN2 _ (List.mem_of_getElem? (i := 6) rfl)) rfl (ty := .array .int) (by decide) rfl hI rfl (fun _ => ⟨rfl, rfl⟩) rfl (by decide) rfl ?_
  refine n_aload_n B 13 rfl 0 0 rfl rfl ?_
  refine n_bipush (12) B 14 rfl (by decide) ?_
  refine n_newaI 12 3 (.inr (2, [.int 0, .int 9999, .ref 1, .ref 2, .null, .null, .null, .null, .null, .null, .null, .null]) :: (([] : List va_E) ++ [.inl (cI, 4, .inl (fun _ => 0))] ++ [.inl (cI, 12, .inl (fun _ => 0))] ++ [.inl (cI, 12, .inl (fun _ => 0))])) 4 3 28 hR0 hL B 15 rfl (iN2 _ (List.mem_of_getElem? (i := 4) rfl)) ⟨by decide, by decide, by decide⟩ ⟨rfl, rfl⟩ rfl ⟨rfl, rfl, Nat.le_of_ble_eq_true rfl, Nat.le_of_ble_eq_true rfl⟩ ?_
  refine n_putF 2 4 0 (.inr (2, [.int 0, .int 9999, .ref 1, .ref 2, .ref 3, .null, .null, .null, .null, .null, .null, .null]) :: (([] : List va_E) ++ [.inl (cI, 4, .inl (fun _ => 0))] ++ [.inl (cI, 12, .inl (fun _ => 0))] ++ [.inl (cI, 12, .inl (fun _ => 0))])) B 16 rfl (iN2 _ (List.mem_of_getElem? (i := 7) rfl)) rfl (ty := .array .int) (by decide) rfl hI rfl (fun _ => ⟨rfl, rfl⟩) rfl (by decide) rfl ?_
  refine n_aload_n B 17 rfl 0 0 rfl rfl ?_
  refine n_bipush (12) B 18 rfl (by decide) ?_
  refine n_newaI 12 4 (.inr (2, [.int 0, .int 9999, .ref 1, .ref 2, .ref 3, .null, .null, .null, .null, .null, .null, .null]) :: (([] : List va_E) ++ [.inl (cI, 4, .inl (fun _ => 0))] ++ [.inl (cI, 12, .inl (fun _ => 0))] ++ [.inl (cI, 12, .inl (fun _ => 0))] ++ [.inl (cI, 12, .inl (fun _ => 0))])) 5 4 40 hR0 hL B 19 rfl (iN2 _ (List.mem_of_getElem? (i := 4) rfl)) ⟨by decide, by decide, by decide⟩ ⟨rfl, rfl⟩ rfl ⟨rfl, rfl, Nat.le_of_ble_eq_true rfl, Nat.le_of_ble_eq_true rfl⟩ ?_
  refine n_putF 2 5 0 (.inr (2, [.int 0, .int 9999, .ref 1, .ref 2, .ref 3, .ref 4, .null, .null, .null, .null, .null, .null]) :: (([] : List va_E) ++ [.inl (cI, 4, .inl (fun _ => 0))] ++ [.inl (cI, 12, .inl (fun _ => 0))] ++ [.inl (cI, 12, .inl (fun _ => 0))] ++ [.inl (cI, 12, .inl (fun _ => 0))])) B 20 rfl (iN2 _ (List.mem_of_getElem? (i := 8) rfl)) rfl (ty := .array .int) (by decide) rfl hI rfl (fun _ => ⟨rfl, rfl⟩) rfl (by decide) rfl ?_
  refine n_aload_n B 21 rfl 0 0 rfl rfl ?_
  refine n_bipush (12) B 22 rfl (by decide) ?_
  refine n_newaI 12 5 (.inr (2, [.int 0, .int 9999, .ref 1, .ref 2, .ref 3, .ref 4, .null, .null, .null, .null, .null, .null]) :: (([] : List va_E) ++ [.inl (cI, 4, .inl (fun _ => 0))] ++ [.inl (cI, 12, .inl (fun _ => 0))] ++ [.inl (cI, 12, .inl (fun _ => 0))] ++ [.inl (cI, 12, .inl (fun _ => 0))] ++ [.inl (cI, 12, .inl (fun _ => 0))])) 6 5 52 hR0 hL B 23 rfl (iN2 _ (List.mem_of_getElem? (i := 4) rfl)) ⟨by decide, by decide, by decide⟩ ⟨rfl, rfl⟩ rfl ⟨rfl, rfl, Nat.le_of_ble_eq_true rfl, Nat.le_of_ble_eq_true rfl⟩ ?_
  refine n_putF 2 6 0 (.inr (2, [.int 0, .int 9999, .ref 1, .ref 2, .ref 3, .ref 4, .ref 5, .null, .null, .null, .null, .null]) :: (([] : List va_E) ++ [.inl (cI, 4, .inl (fun _ => 0))] ++ [.inl (cI, 12, .inl (fun _ => 0))] ++ [.inl (cI, 12, .inl (fun _ => 0))] ++ [.inl (cI, 12, .inl (fun _ => 0))] ++ [.inl (cI, 12, .inl (fun _ => 0))])) B 24 rfl (iN2 _ (List.mem_of_getElem? (i := 9) rfl)) rfl (ty := .array .int) (by decide) rfl hI rfl (fun _ => ⟨rfl, rfl⟩) rfl (by decide) rfl ?_
  refine n_aload_n B 25 rfl 0 0 rfl rfl ?_
  refine n_bipush (12) B 26 rfl (by decide) ?_
  refine n_newaI 12 6 (.inr (2, [.int 0, .int 9999, .ref 1, .ref 2, .ref 3, .ref 4, .ref 5, .null, .null, .null, .null, .null]) :: (([] : List va_E) ++ [.inl (cI, 4, .inl (fun _ => 0))] ++ [.inl (cI, 12, .inl (fun _ => 0))] ++ [.inl (cI, 12, .inl (fun _ => 0))] ++ [.inl (cI, 12, .inl (fun _ => 0))] ++ [.inl (cI, 12, .inl (fun _ => 0))] ++ [.inl (cI, 12, .inl (fun _ => 0))])) 7 6 64 hR0 hL B 27 rfl (iN2 _ (List.mem_of_getElem? (i := 4) rfl)) ⟨by decide, by decide, by decide⟩ ⟨rfl, rfl⟩ rfl ⟨rfl, rfl, Nat.le_of_ble_eq_true rfl, Nat.le_of_ble_eq_true rfl⟩ ?_
  refine n_putF 2 7 0 (.inr (2, [.int 0, .int 9999, .ref 1, .ref 2, .ref 3, .ref 4, .ref 5, .ref 6, .null, .null, .null, .null]) :: (([] : List va_E) ++ [.inl (cI, 4, .inl (fun _ => 0))] ++ [.inl (cI, 12, .inl (fun _ => 0))] ++ [.inl (cI, 12, .inl (fun _ => 0))] ++ [.inl (cI, 12, .inl (fun _ => 0))] ++ [.inl (cI, 12, .inl (fun _ => 0))] ++ [.inl (cI, 12, .inl (fun _ => 0))])) B 28 rfl (iN2 _ (List.mem_of_getElem? (i := 10) rfl)) rfl (ty := .array .int) (by decide) rfl hI rfl (fun _ => ⟨rfl, rfl⟩) rfl (by decide) rfl ?_
  refine n_aload_n B 29 rfl 0 0 rfl rfl ?_
  refine n_bipush (12) B 30 rfl (by decide) ?_
  refine n_newaI 12 7 (.inr (2, [.int 0, .int 9999, .ref 1, .ref 2, .ref 3, .ref 4, .ref 5, .ref 6, .null, .null, .null, .null]) :: (([] : List va_E) ++ [.inl (cI, 4, .inl (fun _ => 0))] ++ [.inl (cI, 12, .inl (fun _ => 0))] ++ [.inl (cI, 12, .inl (fun _ => 0))] ++ [.inl (cI, 12, .inl (fun _ => 0))] ++ [.inl (cI, 12, .inl (fun _ => 0))] ++ [.inl (cI, 12, .inl (fun _ => 0))] ++ [.inl (cI, 12, .inl (fun _ => 0))])) 8 7 76 hR0 hL B 31 rfl (iN2 _ (List.mem_of_getElem? (i := 4) rfl)) ⟨by decide, by decide, by decide⟩ ⟨rfl, rfl⟩ rfl ⟨rfl, rfl, Nat.le_of_ble_eq_true rfl, Nat.le_of_ble_eq_true rfl⟩ ?_
  refine n_putF 2 8 0 (.inr (2, [.int 0, .int 9999, .ref 1, .ref 2, .ref 3, .ref 4, .ref 5, .ref 6, .ref 7, .null, .null, .null]) :: (([] : List va_E) ++ [.inl (cI, 4, .inl (fun _ => 0))] ++ [.inl (cI, 12, .inl (fun _ => 0))] ++ [.inl (cI, 12, .inl (fun _ => 0))] ++ [.inl (cI, 12, .inl (fun _ => 0))] ++ [.inl (cI, 12, .inl (fun _ => 0))] ++ [.inl (cI, 12, .inl (fun _ => 0))] ++ [.inl (cI, 12, .inl (fun _ => 0))])) B 32 rfl (iN2 _ (List.mem_of_getElem? (i := 11) rfl)) rfl (ty := .array .int) (by decide) rfl hI rfl (fun _ => ⟨rfl, rfl⟩) rfl (by decide) rfl ?_
  refine n_aload_n B 33 rfl 0 0 rfl rfl ?_
  refine n_bipush (12) B 34 rfl (by decide) ?_
  refine n_newaI 12 8 (.inr (2, [.int 0, .int 9999, .ref 1, .ref 2, .ref 3, .ref 4, .ref 5, .ref 6, .ref 7, .null, .null, .null]) :: (([] : List va_E) ++ [.inl (cI, 4, .inl (fun _ => 0))] ++ [.inl (cI, 12, .inl (fun _ => 0))] ++ [.inl (cI, 12, .inl (fun _ => 0))] ++ [.inl (cI, 12, .inl (fun _ => 0))] ++ [.inl (cI, 12, .inl (fun _ => 0))] ++ [.inl (cI, 12, .inl (fun _ => 0))] ++ [.inl (cI, 12, .inl (fun _ => 0))] ++ [.inl (cI, 12, .inl (fun _ => 0))])) 9 8 88 hR0 hL B 35 rfl (iN2 _ (List.mem_of_getElem? (i := 4) rfl)) ⟨by decide, by decide, by decide⟩ ⟨rfl, rfl⟩ rfl ⟨rfl, rfl, Nat.le_of_ble_eq_true rfl, Nat.le_of_ble_eq_true rfl⟩ ?_
  refine n_putF 2 9 0 (.inr (2, [.int 0, .int 9999, .ref 1, .ref 2, .ref 3, .ref 4, .ref 5, .ref 6, .ref 7, .ref 8, .null, .null]) :: (([] : List va_E) ++ [.inl (cI, 4, .inl (fun _ => 0))] ++ [.inl (cI, 12, .inl (fun _ => 0))] ++ [.inl (cI, 12, .inl (fun _ => 0))] ++ [.inl (cI, 12, .inl (fun _ => 0))] ++ [.inl (cI, 12, .inl (fun _ => 0))] ++ [.inl (cI, 12, .inl (fun _ => 0))] ++ [.inl (cI, 12, .inl (fun _ => 0))] ++ [.inl (cI, 12, .inl (fun _ => 0))])) B 36 rfl (iN2 _ (List.mem_of_getElem? (i := 12) rfl)) rfl (ty := .array .int) (by decide) rfl hI rfl (fun _ => ⟨rfl, rfl⟩) rfl (by decide) rfl ?_
  refine n_aload_n B 37 rfl 0 0 rfl rfl ?_
  refine n_bipush (36) B 38 rfl (by decide) ?_
  refine n_newaI 36 9 (.inr (2, [.int 0, .int 9999, .ref 1, .ref 2, .ref 3, .ref 4, .ref 5, .ref 6, .ref 7, .ref 8, .null, .null]) :: (([] : List va_E) ++ [.inl (cI, 4, .inl (fun _ => 0))] ++ [.inl (cI, 12, .inl (fun _ => 0))] ++ [.inl (cI, 12, .inl (fun _ => 0))] ++ [.inl (cI, 12, .inl (fun _ => 0))] ++ [.inl (cI, 12, .inl (fun _ => 0))] ++ [.inl (cI, 12, .inl (fun _ => 0))] ++ [.inl (cI, 12, .inl (fun _ => 0))] ++ [.inl (cI, 12, .inl (fun _ => 0))] ++ [.inl (cI, 36, .inl (fun _ => 0))])) 10 9 124 hR0 hL B 39 rfl (iN2 _ (List.mem_of_getElem? (i := 4) rfl)) ⟨by decide, by decide, by decide⟩ ⟨rfl, rfl⟩ rfl ⟨rfl, rfl, Nat.le_of_ble_eq_true rfl, Nat.le_of_ble_eq_true rfl⟩ ?_
  refine n_putF 2 10 0 (.inr (2, [.int 0, .int 9999, .ref 1, .ref 2, .ref 3, .ref 4, .ref 5, .ref 6, .ref 7, .ref 8, .ref 9, .null]) :: (([] : List va_E) ++ [.inl (cI, 4, .inl (fun _ => 0))] ++ [.inl (cI, 12, .inl (fun _ => 0))] ++ [.inl (cI, 12, .inl (fun _ => 0))] ++ [.inl (cI, 12, .inl (fun _ => 0))] ++ [.inl (cI, 12, .inl (fun _ => 0))] ++ [.inl (cI, 12, .inl (fun _ => 0))] ++ [.inl (cI, 12, .inl (fun _ => 0))] ++ [.inl (cI, 12, .inl (fun _ => 0))] ++ [.inl (cI, 36, .inl (fun _ => 0))])) B 40 rfl (iN2 _ (List.mem_of_getElem? (i := 13) rfl)) rfl (ty := .array .int) (by decide) rfl hI rfl (fun _ => ⟨rfl, rfl⟩) rfl (by decide) rfl ?_
  refine n_aload_n B 41 rfl 0 0 rfl rfl ?_
  refine n_bipush (36) B 42 rfl (by decide) ?_
  refine n_newaI 36 10 (.inr (2, [.int 0, .int 9999, .ref 1, .ref 2, .ref 3, .ref 4, .ref 5, .ref 6, .ref 7, .ref 8, .ref 9, .null]) :: (([] : List va_E) ++ [.inl (cI, 4, .inl (fun _ => 0))] ++ [.inl (cI, 12, .inl (fun _ => 0))] ++ [.inl (cI, 12, .inl (fun _ => 0))] ++ [.inl (cI, 12, .inl (fun _ => 0))] ++ [.inl (cI, 12, .inl (fun _ => 0))] ++ [.inl (cI, 12, .inl (fun _ => 0))] ++ [.inl (cI, 12, .inl (fun _ => 0))] ++ [.inl (cI, 12, .inl (fun _ => 0))] ++ [.inl (cI, 36, .inl (fun _ => 0))] ++ [.inl (cI, 36, .inl (fun _ => 0))])) 11 10 160 hR0 hL B 43 rfl (iN2 _ (List.mem_of_getElem? (i := 4) rfl)) ⟨by decide, by decide, by decide⟩ ⟨rfl, rfl⟩ rfl ⟨rfl, rfl, Nat.le_of_ble_eq_true rfl, Nat.le_of_ble_eq_true rfl⟩ ?_
  refine n_putF 2 11 0 (.inr (2, [.int 0, .int 9999, .ref 1, .ref 2, .ref 3, .ref 4, .ref 5, .ref 6, .ref 7, .ref 8, .ref 9, .ref 10]) :: (([] : List va_E) ++ [.inl (cI, 4, .inl (fun _ => 0))] ++ [.inl (cI, 12, .inl (fun _ => 0))] ++ [.inl (cI, 12, .inl (fun _ => 0))] ++ [.inl (cI, 12, .inl (fun _ => 0))] ++ [.inl (cI, 12, .inl (fun _ => 0))] ++ [.inl (cI, 12, .inl (fun _ => 0))] ++ [.inl (cI, 12, .inl (fun _ => 0))] ++ [.inl (cI, 12, .inl (fun _ => 0))] ++ [.inl (cI, 36, .inl (fun _ => 0))] ++ [.inl (cI, 36, .inl (fun _ => 0))])) B 44 rfl (iN2 _ (List.mem_of_getElem? (i := 14) rfl)) rfl (ty := .array .int) (by decide) rfl hI rfl (fun _ => ⟨rfl, rfl⟩) rfl (by decide) rfl ?_
  exact n_vret B 45 rfl hQ ⟨rfl, rfl, rfl⟩
def bN1 (cI cZ cJ : ClassId) : List va_E := (.inr (1, [.ref 1, .ref 8]) :: (([] : List va_E) ++ (bN5 cI cZ cJ).map (she 1) ++ (bN2 cI cZ cJ).map (she 8)))
theorem bN1_len (cI cZ cJ : ClassId) : (bN1 cI cZ cJ).length = 19 := by
  unfold bN1
  simp only [List.length_cons, List.length_append, List.length_map, List.length_nil, bN5_len, bN2_len]
def tbN1 : Tb := [(0, .aload_n 0, 1, 1), (1, .invokespecial 1, 3, 4), (4, .aload_n 0, 1, 5), (5, .new 7, 3, 8), (8, .dup, 1, 9), (9, .invokespecial 9, 3, 12), (12, .putfield 10, 3, 15), (15, .aload_n 0, 1, 16), (16, .new 16, 3, 19), (19, .dup, 1, 20), (20, .invokespecial 18, 3, 23), (23, .putfield 19, 3, 26), (26, .return_, 1, 27)]
theorem dtN1 : ∀ q ∈ tbN1, decode cX1_init q.1 = .ok (q.2.1, q.2.2.1) ∧ q.1 + q.2.2.1 = q.2.2.2 := by decide +kernel
theorem miN1 : MI yX1_init cX1_init 1 none 0 := ⟨tw_mem (List.mem_of_getElem? (i := 106) (by decide +kernel)) rfl, by decide, by decide +kernel, tw_mem (List.mem_of_getElem? (i := 73) (by decide +kernel)) rfl⟩
abbrev rmN1 : Room := { frames := 2, cells := 18, slots := 251, locals := 52 }
def wN1 : List Cond := [.methodLink "ZoneCapacity$Market" 1 Lib.objectInit, .instanceMethod Lib.objectInit, .code Lib.objectInit ⟨#[0xb1]⟩ 1 none, .classLink "ZoneCapacity$Market" 7 "ZoneCapacity$Zones", .instantiable "ZoneCapacity$Zones" 7, .initialized "ZoneCapacity$Zones", .methodLink "ZoneCapacity$Market" 9 yX5_init, .instanceMethod yX5_init, .fieldLink "ZoneCapacity$Market" 10 "ZoneCapacity$Market" "zones" "LZoneCapacity$Zones;", .classLink "ZoneCapacity$Market" 16 "ZoneCapacity$Offers", .instantiable "ZoneCapacity$Offers" 12, .initialized "ZoneCapacity$Offers", .instanceMethod yX2_init, .fieldLink "ZoneCapacity$Market" 19 "ZoneCapacity$Market" "offers" "LZoneCapacity$Offers;"]
theorem iN1 : ∀ w ∈ wN1, w ∈ TW := tw_of (ids := [107, 94, 95, 108, 109, 74, 110, 111, 211, 152, 153, 75, 155, 215]) (by decide +kernel)
set_option maxHeartbeats 8000000 in
theorem ctN1 {l : Launch} {D : va_G} {cI cZ cJ : ClassId} : CtN l D cI cZ cJ yX1_init cX1_init 1 2 52 (.inr (1, [.null, .null])) (bN1 cI cZ cJ) 18 251 := by
  refine CtN.of (tb := tbN1) (by decide) miN1.1 rfl dtN1 (by decide) ?_
  intro E B hQ hR0 hL hI
  refine n_aload_n B 0 rfl 0 0 rfl rfl ?_
  refine n_obj hR0 B 1 rfl ⟨(iN1 _ (List.mem_of_getElem? (i := 0) rfl)), (iN1 _ (List.mem_of_getElem? (i := 1) rfl)), (iN1 _ (List.mem_of_getElem? (i := 2) rfl))⟩ ⟨Nat.le_of_ble_eq_true rfl, Nat.le_of_ble_eq_true rfl⟩ (Nat.le_of_ble_eq_true rfl) ?_
  refine n_aload_n B 2 rfl 0 0 rfl rfl ?_
  refine n_new 5 1 [.int 0, .null, .null, .null, .null, .null, .null] (.inr (1, [.null, .null]) :: (([] : List va_E) ++ [.inr (5, [.int 0, .null, .null, .null, .null, .null, .null])])) 2 1 7 hR0 B 3 rfl rfl ⟨(iN1 _ (List.mem_of_getElem? (i := 3) rfl)), (iN1 _ (List.mem_of_getElem? (i := 4) rfl)), (iN1 _ (List.mem_of_getElem? (i := 5) rfl))⟩ ⟨rfl, rfl⟩ rfl (by decide +kernel) (fun _ => rfl) ⟨rfl, rfl, Nat.le_of_ble_eq_true rfl, Nat.le_of_ble_eq_true rfl⟩ ?_
  refine n_dup B 4 rfl rfl ?_
  refine n_callO 1 (.inr (1, [.null, .null]) :: (([] : List va_E))) (.inr (1, [.null, .null]) :: (([] : List va_E) ++ (bN5 cI cZ cJ).map (she 1))) 8 7 79 hR0 hL B 5 rfl miN5 (iN1 _ (List.mem_of_getElem? (i := 6) rfl)) (iN1 _ (List.mem_of_getElem? (i := 7) rfl)) rfl (ctN5) ⟨Nat.le_of_ble_eq_true rfl, Nat.le_of_ble_eq_true rfl, rfl, rfl, Nat.le_of_ble_eq_true rfl, Nat.le_of_ble_eq_true rfl⟩ rfl 7 ⟨rfl, bN5_len cI cZ cJ, rfl⟩ (fun _ => rfl) rfl (Nat.le_of_ble_eq_true rfl) ?_
  refine n_putF 1 0 0 (.inr (1, [.ref 1, .null]) :: (([] : List va_E) ++ (bN5 cI cZ cJ).map (she 1))) B 6 rfl (iN1 _ (List.mem_of_getElem? (i := 8) rfl)) rfl (ty := .object "ZoneCapacity$Zones") (by decide) rfl hI rfl (fun _ => ⟨rfl, rfl⟩) rfl (by decide) rfl ?_
  refine n_aload_n B 7 rfl 0 0 rfl rfl ?_
  refine n_new 2 8 [.int 0, .int 0, .null, .null, .null, .null, .null, .null, .null, .null, .null, .null] (.inr (1, [.ref 1, .null]) :: (([] : List va_E) ++ (bN5 cI cZ cJ).map (she 1) ++ [.inr (2, [.int 0, .int 0, .null, .null, .null, .null, .null, .null, .null, .null, .null, .null])])) 9 8 91 hR0 B 8 rfl rfl ⟨(iN1 _ (List.mem_of_getElem? (i := 9) rfl)), (iN1 _ (List.mem_of_getElem? (i := 10) rfl)), (iN1 _ (List.mem_of_getElem? (i := 11) rfl))⟩ ⟨rfl, rfl⟩ rfl (by decide +kernel) (fun _ => rfl) ⟨rfl, rfl, Nat.le_of_ble_eq_true rfl, Nat.le_of_ble_eq_true rfl⟩ ?_
  refine n_dup B 9 rfl rfl ?_
  refine n_callN 8 (.inr (1, [.ref 1, .null]) :: (([] : List va_E) ++ (bN5 cI cZ cJ).map (she 1))) (.inr (1, [.ref 1, .null]) :: (([] : List va_E) ++ (bN5 cI cZ cJ).map (she 1) ++ (bN2 cI cZ cJ).map (she 8))) 19 18 251 hR0 hL B 10 rfl miN2 (List.mem_of_getElem? (i := 3) rfl) (iN1 _ (List.mem_of_getElem? (i := 12) rfl)) rfl (ctN2) ⟨Nat.le_of_ble_eq_true rfl, Nat.le_of_ble_eq_true rfl, rfl, rfl, Nat.le_of_ble_eq_true rfl, Nat.le_of_ble_eq_true rfl⟩ rfl 11 ⟨rfl, bN2_len cI cZ cJ, rfl⟩ (fun _ => rfl) rfl (Nat.le_of_ble_eq_true rfl) ?_
  refine n_putF 1 1 0 (.inr (1, [.ref 1, .ref 8]) :: (([] : List va_E) ++ (bN5 cI cZ cJ).map (she 1) ++ (bN2 cI cZ cJ).map (she 8))) B 11 rfl (iN1 _ (List.mem_of_getElem? (i := 13) rfl)) rfl (ty := .object "ZoneCapacity$Offers") (by decide) rfl hI rfl (fun _ => ⟨rfl, rfl⟩) rfl (by decide) rfl ?_
  exact n_vret B 12 rfl hQ ⟨rfl, rfl, rfl⟩
def bN0 (cI cZ cJ : ClassId) : List va_E := (.inr (0, [.ref 1, .ref 20, .ref 21, .ref 22, .ref 23, .ref 24, .ref 25, .ref 26, .ref 27, .ref 28, .int 0, .int 0]) :: (([] : List va_E) ++ (bN1 cI cZ cJ).map (she 1) ++ [.inl (cI, 6, .inl (fun _ => 0))] ++ [.inl (cI, 6, .inl (fun _ => 0))] ++ [.inl (cI, 6, .inl (fun _ => 0))] ++ [.inl (cI, 48, .inl (fun _ => 0))] ++ [.inl (cI, 48, .inl (fun _ => 0))] ++ [.inl (cI, 48, .inl (fun _ => 0))] ++ [.inl (cI, 6, .inl (fun _ => 0))] ++ [.inl (cI, 6, .inl (fun _ => 0))] ++ [.inl (cI, 6, .inl (fun _ => 0))]))
theorem bN0_len (cI cZ cJ : ClassId) : (bN0 cI cZ cJ).length = 29 := by
  unfold bN0
  simp only [List.length_cons, List.length_append, List.length_map, List.length_nil, bN5_len, bN2_len, bN1_len]
def tbN0 : Tb := [(0, .aload_n 0, 1, 1), (1, .invokespecial 3, 3, 4), (4, .aload_n 0, 1, 5), (5, .new 9, 3, 8), (8, .dup, 1, 9), (9, .invokespecial 11, 3, 12), (12, .putfield 12, 3, 15), (15, .aload_n 0, 1, 16), (16, .bipush 6, 2, 18), (18, .newarray .int, 2, 20), (20, .putfield 18, 3, 23), (23, .aload_n 0, 1, 24), (24, .bipush 6, 2, 26), (26, .newarray .int, 2, 28), (28, .putfield 22, 3, 31), (31, .aload_n 0, 1, 32), (32, .bipush 6, 2, 34), (34, .newarray .int, 2, 36), (36, .putfield 25, 3, 39), (39, .aload_n 0, 1, 40), (40, .bipush 48, 2, 42), (42, .newarray .int, 2, 44), (44, .putfield 28, 3, 47), (47, .aload_n 0, 1, 48), (48, .bipush 48, 2, 50), (50, .newarray .int, 2, 52), (52, .putfield 31, 3, 55), (55, .aload_n 0, 1, 56), (56, .bipush 48, 2, 58), (58, .newarray .int, 2, 60), (60, .putfield 34, 3, 63), (63, .aload_n 0, 1, 64), (64, .bipush 6, 2, 66), (66, .newarray .int, 2, 68), (68, .putfield 37, 3, 71), (71, .aload_n 0, 1, 72), (72, .bipush 6, 2, 74), (74, .newarray .int, 2, 76), (76, .putfield 40, 3, 79), (79, .aload_n 0, 1, 80), (80, .bipush 6, 2, 82), (82, .newarray .int, 2, 84), (84, .putfield 43, 3, 87), (87, .return_, 1, 88)]
theorem dtN0 : ∀ q ∈ tbN0, decode cX0_init q.1 = .ok (q.2.1, q.2.2.1) ∧ q.1 + q.2.2.1 = q.2.2.2 := by decide +kernel
theorem miN0 : MI yX0_init cX0_init 1 none 0 := ⟨tw_mem (List.mem_of_getElem? (i := 100) (by decide +kernel)) rfl, by decide, by decide +kernel, tw_mem (List.mem_of_getElem? (i := 72) (by decide +kernel)) rfl⟩
abbrev rmN0 : Room := { frames := 3, cells := 28, slots := 433, locals := 72 }
def wN0 : List Cond := [.methodLink "ZoneCapacity$Auction" 3 Lib.objectInit, .instanceMethod Lib.objectInit, .code Lib.objectInit ⟨#[0xb1]⟩ 1 none, .classLink "ZoneCapacity$Auction" 9 "ZoneCapacity$Market", .instantiable "ZoneCapacity$Market" 2, .initialized "ZoneCapacity$Market", .instanceMethod yX1_init, .fieldLink "ZoneCapacity$Auction" 12 "ZoneCapacity$Auction" "market" "LZoneCapacity$Market;", .arrayClass .int, .fieldLink "ZoneCapacity$Auction" 18 "ZoneCapacity$Auction" "prices" "[I", .fieldLink "ZoneCapacity$Auction" 22 "ZoneCapacity$Auction" "nets" "[I", .fieldLink "ZoneCapacity$Auction" 25 "ZoneCapacity$Auction" "servedUnits" "[I", .fieldLink "ZoneCapacity$Auction" 28 "ZoneCapacity$Auction" "takenUnits" "[I", .fieldLink "ZoneCapacity$Auction" 31 "ZoneCapacity$Auction" "units" "[I", .fieldLink "ZoneCapacity$Auction" 34 "ZoneCapacity$Auction" "its" "[I", .fieldLink "ZoneCapacity$Auction" 37 "ZoneCapacity$Auction" "levels" "[I", .fieldLink "ZoneCapacity$Auction" 40 "ZoneCapacity$Auction" "lows" "[I", .fieldLink "ZoneCapacity$Auction" 43 "ZoneCapacity$Auction" "highs" "[I"]
theorem iN0 : ∀ w ∈ wN0, w ∈ TW := tw_of (ids := [101, 94, 95, 102, 103, 73, 105, 224, 151, 226, 228, 230, 232, 234, 235, 236, 237, 238]) (by decide +kernel)
set_option maxHeartbeats 8000000 in
theorem ctN0 {l : Launch} {D : va_G} {cI cZ cJ : ClassId} : CtN l D cI cZ cJ yX0_init cX0_init 1 3 72 (.inr (0, [.null, .null, .null, .null, .null, .null, .null, .null, .null, .null, .int 0, .int 0])) (bN0 cI cZ cJ) 28 433 := by
  refine CtN.of (tb := tbN0) (by decide) miN0.1 rfl dtN0 (by decide) ?_
  intro E B hQ hR0 hL hI
  refine n_aload_n B 0 rfl 0 0 rfl rfl ?_
  refine n_obj hR0 B 1 rfl ⟨(iN0 _ (List.mem_of_getElem? (i := 0) rfl)), (iN0 _ (List.mem_of_getElem? (i := 1) rfl)), (iN0 _ (List.mem_of_getElem? (i := 2) rfl))⟩ ⟨Nat.le_of_ble_eq_true rfl, Nat.le_of_ble_eq_true rfl⟩ (Nat.le_of_ble_eq_true rfl) ?_
  refine n_aload_n B 2 rfl 0 0 rfl rfl ?_
  refine n_new 1 1 [.null, .null] (.inr (0, [.null, .null, .null, .null, .null, .null, .null, .null, .null, .null, .int 0, .int 0]) :: (([] : List va_E) ++ [.inr (1, [.null, .null])])) 2 1 2 hR0 B 3 rfl rfl ⟨(iN0 _ (List.mem_of_getElem? (i := 3) rfl)), (iN0 _ (List.mem_of_getElem? (i := 4) rfl)), (iN0 _ (List.mem_of_getElem? (i := 5) rfl))⟩ ⟨rfl, rfl⟩ rfl (by decide +kernel) (fun _ => rfl) ⟨rfl, rfl, Nat.le_of_ble_eq_true rfl, Nat.le_of_ble_eq_true rfl⟩ ?_
  refine n_dup B 4 rfl rfl ?_
  refine n_callN 1 (.inr (0, [.null, .null, .null, .null, .null, .null, .null, .null, .null, .null, .int 0, .int 0]) :: (([] : List va_E))) (.inr (0, [.null, .null, .null, .null, .null, .null, .null, .null, .null, .null, .int 0, .int 0]) :: (([] : List va_E) ++ (bN1 cI cZ cJ).map (she 1))) 20 19 253 hR0 hL B 5 rfl miN1 (List.mem_of_getElem? (i := 1) rfl) (iN0 _ (List.mem_of_getElem? (i := 6) rfl)) rfl (ctN1) ⟨Nat.le_of_ble_eq_true rfl, Nat.le_of_ble_eq_true rfl, rfl, rfl, Nat.le_of_ble_eq_true rfl, Nat.le_of_ble_eq_true rfl⟩ rfl 19 ⟨rfl, bN1_len cI cZ cJ, rfl⟩ (fun _ => rfl) rfl (Nat.le_of_ble_eq_true rfl) ?_
  refine n_putF 0 0 0 (.inr (0, [.ref 1, .null, .null, .null, .null, .null, .null, .null, .null, .null, .int 0, .int 0]) :: (([] : List va_E) ++ (bN1 cI cZ cJ).map (she 1))) B 6 rfl (iN0 _ (List.mem_of_getElem? (i := 7) rfl)) rfl (ty := .object "ZoneCapacity$Market") (by decide) rfl hI rfl (fun _ => ⟨rfl, rfl⟩) rfl (by decide) rfl ?_
  refine n_aload_n B 7 rfl 0 0 rfl rfl ?_
  refine n_bipush (6) B 8 rfl (by decide) ?_
  refine n_newaI 6 20 (.inr (0, [.ref 1, .null, .null, .null, .null, .null, .null, .null, .null, .null, .int 0, .int 0]) :: (([] : List va_E) ++ (bN1 cI cZ cJ).map (she 1) ++ [.inl (cI, 6, .inl (fun _ => 0))])) 21 20 259 hR0 hL B 9 rfl (iN0 _ (List.mem_of_getElem? (i := 8) rfl)) ⟨by decide, by decide, by decide⟩ ⟨rfl, rfl⟩ rfl ⟨rfl, rfl, Nat.le_of_ble_eq_true rfl, Nat.le_of_ble_eq_true rfl⟩ ?_
  refine n_putF 0 1 0 (.inr (0, [.ref 1, .ref 20, .null, .null, .null, .null, .null, .null, .null, .null, .int 0, .int 0]) :: (([] : List va_E) ++ (bN1 cI cZ cJ).map (she 1) ++ [.inl (cI, 6, .inl (fun _ => 0))])) B 10 rfl (iN0 _ (List.mem_of_getElem? (i := 9) rfl)) rfl (ty := .array .int) (by decide) rfl hI rfl (fun _ => ⟨rfl, rfl⟩) rfl (by decide) rfl ?_
  refine n_aload_n B 11 rfl 0 0 rfl rfl ?_
  refine n_bipush (6) B 12 rfl (by decide) ?_
  refine n_newaI 6 21 (.inr (0, [.ref 1, .ref 20, .null, .null, .null, .null, .null, .null, .null, .null, .int 0, .int 0]) :: (([] : List va_E) ++ (bN1 cI cZ cJ).map (she 1) ++ [.inl (cI, 6, .inl (fun _ => 0))] ++ [.inl (cI, 6, .inl (fun _ => 0))])) 22 21 265 hR0 hL B 13 rfl (iN0 _ (List.mem_of_getElem? (i := 8) rfl)) ⟨by decide, by decide, by decide⟩ ⟨rfl, rfl⟩ rfl ⟨rfl, rfl, Nat.le_of_ble_eq_true rfl, Nat.le_of_ble_eq_true rfl⟩ ?_
  refine n_putF 0 2 0 (.inr (0, [.ref 1, .ref 20, .ref 21, .null, .null, .null, .null, .null, .null, .null, .int 0, .int 0]) :: (([] : List va_E) ++ (bN1 cI cZ cJ).map (she 1) ++ [.inl (cI, 6, .inl (fun _ => 0))] ++ [.inl (cI, 6, .inl (fun _ => 0))])) B 14 rfl (iN0 _ (List.mem_of_getElem? (i := 10) rfl)) rfl (ty := .array .int) (by decide) rfl hI rfl (fun _ => ⟨rfl, rfl⟩) rfl (by decide) rfl ?_
  refine n_aload_n B 15 rfl 0 0 rfl rfl ?_
  refine n_bipush (6) B 16 rfl (by decide) ?_
  refine n_newaI 6 22 (.inr (0, [.ref 1, .ref 20, .ref 21, .null, .null, .null, .null, .null, .null, .null, .int 0, .int 0]) :: (([] : List va_E) ++ (bN1 cI cZ cJ).map (she 1) ++ [.inl (cI, 6, .inl (fun _ => 0))] ++ [.inl (cI, 6, .inl (fun _ => 0))] ++ [.inl (cI, 6, .inl (fun _ => 0))])) 23 22 271 hR0 hL B 17 rfl (iN0 _ (List.mem_of_getElem? (i := 8) rfl)) ⟨by decide, by decide, by decide⟩ ⟨rfl, rfl⟩ rfl ⟨rfl, rfl, Nat.le_of_ble_eq_true rfl, Nat.le_of_ble_eq_true rfl⟩ ?_
  refine n_putF 0 3 0 (.inr (0, [.ref 1, .ref 20, .ref 21, .ref 22, .null, .null, .null, .null, .null, .null, .int 0, .int 0]) :: (([] : List va_E) ++ (bN1 cI cZ cJ).map (she 1) ++ [.inl (cI, 6, .inl (fun _ => 0))] ++ [.inl (cI, 6, .inl (fun _ => 0))] ++ [.inl (cI, 6, .inl (fun _ => 0))])) B 18 rfl (iN0 _ (List.mem_of_getElem? (i := 11) rfl)) rfl (ty := .array .int) (by decide) rfl hI rfl (fun _ => ⟨rfl, rfl⟩) rfl (by decide) rfl ?_
  refine n_aload_n B 19 rfl 0 0 rfl rfl ?_
  refine n_bipush (48) B 20 rfl (by decide) ?_
  refine n_newaI 48 23 (.inr (0, [.ref 1, .ref 20, .ref 21, .ref 22, .null, .null, .null, .null, .null, .null, .int 0, .int 0]) :: (([] : List va_E) ++ (bN1 cI cZ cJ).map (she 1) ++ [.inl (cI, 6, .inl (fun _ => 0))] ++ [.inl (cI, 6, .inl (fun _ => 0))] ++ [.inl (cI, 6, .inl (fun _ => 0))] ++ [.inl (cI, 48, .inl (fun _ => 0))])) 24 23 319 hR0 hL B 21 rfl (iN0 _ (List.mem_of_getElem? (i := 8) rfl)) ⟨by decide, by decide, by decide⟩ ⟨rfl, rfl⟩ rfl ⟨rfl, rfl, Nat.le_of_ble_eq_true rfl, Nat.le_of_ble_eq_true rfl⟩ ?_
  refine n_putF 0 4 0 (.inr (0, [.ref 1, .ref 20, .ref 21, .ref 22, .ref 23, .null, .null, .null, .null, .null, .int 0, .int 0]) :: (([] : List va_E) ++ (bN1 cI cZ cJ).map (she 1) ++ [.inl (cI, 6, .inl (fun _ => 0))] ++ [.inl (cI, 6, .inl (fun _ => 0))] ++ [.inl (cI, 6, .inl (fun _ => 0))] ++ [.inl (cI, 48, .inl (fun _ => 0))])) B 22 rfl (iN0 _ (List.mem_of_getElem? (i := 12) rfl)) rfl (ty := .array .int) (by decide) rfl hI rfl (fun _ => ⟨rfl, rfl⟩) rfl (by decide) rfl ?_
  refine n_aload_n B 23 rfl 0 0 rfl rfl ?_
  refine n_bipush (48) B 24 rfl (by decide) ?_
  refine n_newaI 48 24 (.inr (0, [.ref 1, .ref 20, .ref 21, .ref 22, .ref 23, .null, .null, .null, .null, .null, .int 0, .int 0]) :: (([] : List va_E) ++ (bN1 cI cZ cJ).map (she 1) ++ [.inl (cI, 6, .inl (fun _ => 0))] ++ [.inl (cI, 6, .inl (fun _ => 0))] ++ [.inl (cI, 6, .inl (fun _ => 0))] ++ [.inl (cI, 48, .inl (fun _ => 0))] ++ [.inl (cI, 48, .inl (fun _ => 0))])) 25 24 367 hR0 hL B 25 rfl (iN0 _ (List.mem_of_getElem? (i := 8) rfl)) ⟨by decide, by decide, by decide⟩ ⟨rfl, rfl⟩ rfl ⟨rfl, rfl, Nat.le_of_ble_eq_true rfl, Nat.le_of_ble_eq_true rfl⟩ ?_
  refine n_putF 0 5 0 (.inr (0, [.ref 1, .ref 20, .ref 21, .ref 22, .ref 23, .ref 24, .null, .null, .null, .null, .int 0, .int 0]) :: (([] : List va_E) ++ (bN1 cI cZ cJ).map (she 1) ++ [.inl (cI, 6, .inl (fun _ => 0))] ++ [.inl (cI, 6, .inl (fun _ => 0))] ++ [.inl (cI, 6, .inl (fun _ => 0))] ++ [.inl (cI, 48, .inl (fun _ => 0))] ++ [.inl (cI, 48, .inl (fun _ => 0))])) B 26 rfl (iN0 _ (List.mem_of_getElem? (i := 13) rfl)) rfl (ty := .array .int) (by decide) rfl hI rfl (fun _ => ⟨rfl, rfl⟩) rfl (by decide) rfl ?_
  refine n_aload_n B 27 rfl 0 0 rfl rfl ?_
  refine n_bipush (48) B 28 rfl (by decide) ?_
  refine n_newaI 48 25 (.inr (0, [.ref 1, .ref 20, .ref 21, .ref 22, .ref 23, .ref 24, .null, .null, .null, .null, .int 0, .int 0]) :: (([] : List va_E) ++ (bN1 cI cZ cJ).map (she 1) ++ [.inl (cI, 6, .inl (fun _ => 0))] ++ [.inl (cI, 6, .inl (fun _ => 0))] ++ [.inl (cI, 6, .inl (fun _ => 0))] ++ [.inl (cI, 48, .inl (fun _ => 0))] ++ [.inl (cI, 48, .inl (fun _ => 0))] ++ [.inl (cI, 48, .inl (fun _ => 0))])) 26 25 415 hR0 hL B 29 rfl (iN0 _ (List.mem_of_getElem? (i := 8) rfl)) ⟨by decide, by decide, by decide⟩ ⟨rfl, rfl⟩ rfl ⟨rfl, rfl, Nat.le_of_ble_eq_true rfl, Nat.le_of_ble_eq_true rfl⟩ ?_
  refine n_putF 0 6 0 (.inr (0, [.ref 1, .ref 20, .ref 21, .ref 22, .ref 23, .ref 24, .ref 25, .null, .null, .null, .int 0, .int 0]) :: (([] : List va_E) ++ (bN1 cI cZ cJ).map (she 1) ++ [.inl (cI, 6, .inl (fun _ => 0))] ++ [.inl (cI, 6, .inl (fun _ => 0))] ++ [.inl (cI, 6, .inl (fun _ => 0))] ++ [.inl (cI, 48, .inl (fun _ => 0))] ++ [.inl (cI, 48, .inl (fun _ => 0))] ++ [.inl (cI, 48, .inl (fun _ => 0))])) B 30 rfl (iN0 _ (List.mem_of_getElem? (i := 14) rfl)) rfl (ty := .array .int) (by decide) rfl hI rfl (fun _ => ⟨rfl, rfl⟩) rfl (by decide) rfl ?_
  refine n_aload_n B 31 rfl 0 0 rfl rfl ?_
  refine n_bipush (6) B 32 rfl (by decide) ?_
  refine n_newaI 6 26 (.inr (0, [.ref 1, .ref 20, .ref 21, .ref 22, .ref 23, .ref 24, .ref 25, .null, .null, .null, .int 0, .int 0]) :: (([] : List va_E) ++ (bN1 cI cZ cJ).map (she 1) ++ [.inl (cI, 6, .inl (fun _ => 0))] ++ [.inl (cI, 6, .inl (fun _ => 0))] ++ [.inl (cI, 6, .inl (fun _ => 0))] ++ [.inl (cI, 48, .inl (fun _ => 0))] ++ [.inl (cI, 48, .inl (fun _ => 0))] ++ [.inl (cI, 48, .inl (fun _ => 0))] ++ [.inl (cI, 6, .inl (fun _ => 0))])) 27 26 421 hR0 hL B 33 rfl (iN0 _ (List.mem_of_getElem? (i := 8) rfl)) ⟨by decide, by decide, by decide⟩ ⟨rfl, rfl⟩ rfl ⟨rfl, rfl, Nat.le_of_ble_eq_true rfl, Nat.le_of_ble_eq_true rfl⟩ ?_
  refine n_putF 0 7 0 (.inr (0, [.ref 1, .ref 20, .ref 21, .ref 22, .ref 23, .ref 24, .ref 25, .ref 26, .null, .null, .int 0, .int 0]) :: (([] : List va_E) ++ (bN1 cI cZ cJ).map (she 1) ++ [.inl (cI, 6, .inl (fun _ => 0))] ++ [.inl (cI, 6, .inl (fun _ => 0))] ++ [.inl (cI, 6, .inl (fun _ => 0))] ++ [.inl (cI, 48, .inl (fun _ => 0))] ++ [.inl (cI, 48, .inl (fun _ => 0))] ++ [.inl (cI, 48, .inl (fun _ => 0))] ++ [.inl (cI, 6, .inl (fun _ => 0))])) B 34 rfl (iN0 _ (List.mem_of_getElem? (i := 15) rfl)) rfl (ty := .array .int) (by decide) rfl hI rfl (fun _ => ⟨rfl, rfl⟩) rfl (by decide) rfl ?_
  refine n_aload_n B 35 rfl 0 0 rfl rfl ?_
  refine n_bipush (6) B 36 rfl (by decide) ?_
  refine n_newaI 6 27 (.inr (0, [.ref 1, .ref 20, .ref 21, .ref 22, .ref 23, .ref 24, .ref 25, .ref 26, .null, .null, .int 0, .int 0]) :: (([] : List va_E) ++ (bN1 cI cZ cJ).map (she 1) ++ [.inl (cI, 6, .inl (fun _ => 0))] ++ [.inl (cI, 6, .inl (fun _ => 0))] ++ [.inl (cI, 6, .inl (fun _ => 0))] ++ [.inl (cI, 48, .inl (fun _ => 0))] ++ [.inl (cI, 48, .inl (fun _ => 0))] ++ [.inl (cI, 48, .inl (fun _ => 0))] ++ [.inl (cI, 6, .inl (fun _ => 0))] ++ [.inl (cI, 6, .inl (fun _ => 0))])) 28 27 427 hR0 hL B 37 rfl (iN0 _ (List.mem_of_getElem? (i := 8) rfl)) ⟨by decide, by decide, by decide⟩ ⟨rfl, rfl⟩ rfl ⟨rfl, rfl, Nat.le_of_ble_eq_true rfl, Nat.le_of_ble_eq_true rfl⟩ ?_
  refine n_putF 0 8 0 (.inr (0, [.ref 1, .ref 20, .ref 21, .ref 22, .ref 23, .ref 24, .ref 25, .ref 26, .ref 27, .null, .int 0, .int 0]) :: (([] : List va_E) ++ (bN1 cI cZ cJ).map (she 1) ++ [.inl (cI, 6, .inl (fun _ => 0))] ++ [.inl (cI, 6, .inl (fun _ => 0))] ++ [.inl (cI, 6, .inl (fun _ => 0))] ++ [.inl (cI, 48, .inl (fun _ => 0))] ++ [.inl (cI, 48, .inl (fun _ => 0))] ++ [.inl (cI, 48, .inl (fun _ => 0))] ++ [.inl (cI, 6, .inl (fun _ => 0))] ++ [.inl (cI, 6, .inl (fun _ => 0))])) B 38 rfl (iN0 _ (List.mem_of_getElem? (i := 16) rfl)) rfl (ty := .array .int) (by decide) rfl hI rfl (fun _ => ⟨rfl, rfl⟩) rfl (by decide) rfl ?_
  refine n_aload_n B 39 rfl 0 0 rfl rfl ?_
  refine n_bipush (6) B 40 rfl (by decide) ?_
  refine n_newaI 6 28 (.inr (0, [.ref 1, .ref 20, .ref 21, .ref 22, .ref 23, .ref 24, .ref 25, .ref 26, .ref 27, .null, .int 0, .int 0]) :: (([] : List va_E) ++ (bN1 cI cZ cJ).map (she 1) ++ [.inl (cI, 6, .inl (fun _ => 0))] ++ [.inl (cI, 6, .inl (fun _ => 0))] ++ [.inl (cI, 6, .inl (fun _ => 0))] ++ [.inl (cI, 48, .inl (fun _ => 0))] ++ [.inl (cI, 48, .inl (fun _ => 0))] ++ [.inl (cI, 48, .inl (fun _ => 0))] ++ [.inl (cI, 6, .inl (fun _ => 0))] ++ [.inl (cI, 6, .inl (fun _ => 0))] ++ [.inl (cI, 6, .inl (fun _ => 0))])) 29 28 433 hR0 hL B 41 rfl (iN0 _ (List.mem_of_getElem? (i := 8) rfl)) ⟨by decide, by decide, by decide⟩ ⟨rfl, rfl⟩ rfl ⟨rfl, rfl, Nat.le_of_ble_eq_true rfl, Nat.le_of_ble_eq_true rfl⟩ ?_
  refine n_putF 0 9 0 (.inr (0, [.ref 1, .ref 20, .ref 21, .ref 22, .ref 23, .ref 24, .ref 25, .ref 26, .ref 27, .ref 28, .int 0, .int 0]) :: (([] : List va_E) ++ (bN1 cI cZ cJ).map (she 1) ++ [.inl (cI, 6, .inl (fun _ => 0))] ++ [.inl (cI, 6, .inl (fun _ => 0))] ++ [.inl (cI, 6, .inl (fun _ => 0))] ++ [.inl (cI, 48, .inl (fun _ => 0))] ++ [.inl (cI, 48, .inl (fun _ => 0))] ++ [.inl (cI, 48, .inl (fun _ => 0))] ++ [.inl (cI, 6, .inl (fun _ => 0))] ++ [.inl (cI, 6, .inl (fun _ => 0))] ++ [.inl (cI, 6, .inl (fun _ => 0))])) B 42 rfl (iN0 _ (List.mem_of_getElem? (i := 17) rfl)) rfl (ty := .array .int) (by decide) rfl hI rfl (fun _ => ⟨rfl, rfl⟩) rfl (by decide) rfl ?_
  exact n_vret B 43 rfl hQ ⟨rfl, rfl, rfl⟩
def bN3 (cI cZ cJ : ClassId) : List va_E := (.inr (3, [.ref 1, .int 0]) :: (([] : List va_E) ++ [.inl (cI, 500, .inl (fun _ => 0))]))
theorem bN3_len (cI cZ cJ : ClassId) : (bN3 cI cZ cJ).length = 2 := by
  unfold bN3
  simp only [List.length_cons, List.length_append, List.length_map, List.length_nil, bN5_len, bN2_len, bN1_len, bN0_len]
def tbN3 : Tb := [(0, .aload_n 0, 1, 1), (1, .invokespecial 3, 3, 4), (4, .aload_n 0, 1, 5), (5, .sipush 500, 3, 8), (8, .newarray .int, 2, 10), (10, .putfield 9, 3, 13), (13, .return_, 1, 14)]
theorem dtN3 : ∀ q ∈ tbN3, decode cX3_init q.1 = .ok (q.2.1, q.2.2.1) ∧ q.1 + q.2.2.1 = q.2.2.2 := by decide +kernel
theorem miN3 : MI yX3_init cX3_init 1 none 0 := ⟨tw_mem (List.mem_of_getElem? (i := 276) (by decide +kernel)) rfl, by decide, by decide +kernel, tw_mem (List.mem_of_getElem? (i := 77) (by decide +kernel)) rfl⟩
abbrev rmN3 : Room := { frames := 1, cells := 1, slots := 500, locals := 32 }
def wN3 : List Cond := [.methodLink "ZoneCapacity$Tape" 3 Lib.objectInit, .instanceMethod Lib.objectInit, .code Lib.objectInit ⟨#[0xb1]⟩ 1 none, .arrayClass .int, .fieldLink "ZoneCapacity$Tape" 9 "ZoneCapacity$Tape" "bytes" "[I"]
theorem iN3 : ∀ w ∈ wN3, w ∈ TW := tw_of (ids := [277, 94, 95, 151, 278]) (by decide +kernel)
set_option maxHeartbeats 8000000 in
theorem ctN3 {l : Launch} {D : va_G} {cI cZ cJ : ClassId} : CtN l D cI cZ cJ yX3_init cX3_init 1 1 32 (.inr (3, [.null, .int 0])) (bN3 cI cZ cJ) 1 500 := by
  refine CtN.of (tb := tbN3) (by decide) miN3.1 rfl dtN3 (by decide) ?_
  intro E B hQ hR0 hL hI
  refine n_aload_n B 0 rfl 0 0 rfl rfl ?_
  refine n_obj hR0 B 1 rfl ⟨(iN3 _ (List.mem_of_getElem? (i := 0) rfl)), (iN3 _ (List.mem_of_getElem? (i := 1) rfl)), (iN3 _ (List.mem_of_getElem? (i := 2) rfl))⟩ ⟨Nat.le_of_ble_eq_true rfl, Nat.le_of_ble_eq_true rfl⟩ (Nat.le_of_ble_eq_true rfl) ?_
  refine n_aload_n B 2 rfl 0 0 rfl rfl ?_
  refine n_sipush (500) B 3 rfl (by decide) ?_
  refine n_newaI 500 1 (.inr (3, [.null, .int 0]) :: (([] : List va_E) ++ [.inl (cI, 500, .inl (fun _ => 0))])) 2 1 500 hR0 hL B 4 rfl (iN3 _ (List.mem_of_getElem? (i := 3) rfl)) ⟨by decide, by decide, by decide⟩ ⟨rfl, rfl⟩ rfl ⟨rfl, rfl, Nat.le_of_ble_eq_true rfl, Nat.le_of_ble_eq_true rfl⟩ ?_
  refine n_putF 3 0 0 (.inr (3, [.ref 1, .int 0]) :: (([] : List va_E) ++ [.inl (cI, 500, .inl (fun _ => 0))])) B 5 rfl (iN3 _ (List.mem_of_getElem? (i := 4) rfl)) rfl (ty := .array .int) (by decide) rfl hI rfl (fun _ => ⟨rfl, rfl⟩) rfl (by decide) rfl ?_
  exact n_vret B 6 rfl hQ ⟨rfl, rfl, rfl⟩
def bN4 (cI cZ cJ : ClassId) : List va_E := (.inr (4, [.ref 1, .ref 3, .int 0, .int 0, .int 0, .int 0, .int 0, .int 0]) :: (([] : List va_E) ++ (bN3 cI cZ cJ).map (she 1) ++ (bN1 cI cZ cJ).map (she 3)))
theorem bN4_len (cI cZ cJ : ClassId) : (bN4 cI cZ cJ).length = 22 := by
  unfold bN4
  simp only [List.length_cons, List.length_append, List.length_map, List.length_nil, bN5_len, bN2_len, bN1_len, bN0_len, bN3_len]
def tbN4 : Tb := [(0, .aload_n 0, 1, 1), (1, .invokespecial 3, 3, 4), (4, .aload_n 0, 1, 5), (5, .new 9, 3, 8), (8, .dup, 1, 9), (9, .invokespecial 11, 3, 12), (12, .putfield 12, 3, 15), (15, .aload_n 0, 1, 16), (16, .new 18, 3, 19), (19, .dup, 1, 20), (20, .invokespecial 20, 3, 23), (23, .putfield 21, 3, 26), (26, .return_, 1, 27)]
theorem dtN4 : ∀ q ∈ tbN4, decode cX4_init q.1 = .ok (q.2.1, q.2.2.1) ∧ q.1 + q.2.2.1 = q.2.2.2 := by decide +kernel
theorem miN4 : MI yX4_init cX4_init 1 none 0 := ⟨tw_mem (List.mem_of_getElem? (i := 270) (by decide +kernel)) rfl, by decide, by decide +kernel, tw_mem (List.mem_of_getElem? (i := 76) (by decide +kernel)) rfl⟩
abbrev rmN4 : Room := { frames := 3, cells := 21, slots := 755, locals := 72 }
def wN4 : List Cond := [.methodLink "ZoneCapacity$Teller" 3 Lib.objectInit, .instanceMethod Lib.objectInit, .code Lib.objectInit ⟨#[0xb1]⟩ 1 none, .classLink "ZoneCapacity$Teller" 9 "ZoneCapacity$Tape", .instantiable "ZoneCapacity$Tape" 2, .initialized "ZoneCapacity$Tape", .instanceMethod yX3_init, .fieldLink "ZoneCapacity$Teller" 12 "ZoneCapacity$Teller" "tape" "LZoneCapacity$Tape;", .classLink "ZoneCapacity$Teller" 18 "ZoneCapacity$Market", .instantiable "ZoneCapacity$Market" 2, .initialized "ZoneCapacity$Market", .instanceMethod yX1_init, .fieldLink "ZoneCapacity$Teller" 21 "ZoneCapacity$Teller" "draft" "LZoneCapacity$Market;"]
theorem iN4 : ∀ w ∈ wN4, w ∈ TW := tw_of (ids := [271, 94, 95, 272, 273, 77, 275, 290, 288, 103, 73, 105, 292]) (by decide +kernel)
set_option maxHeartbeats 8000000 in
theorem ctN4 {l : Launch} {D : va_G} {cI cZ cJ : ClassId} : CtN l D cI cZ cJ yX4_init cX4_init 1 3 72 (.inr (4, [.null, .null, .int 0, .int 0, .int 0, .int 0, .int 0, .int 0])) (bN4 cI cZ cJ) 21 755 := by
  refine CtN.of (tb := tbN4) (by decide) miN4.1 rfl dtN4 (by decide) ?_
  intro E B hQ hR0 hL hI
  refine n_aload_n B 0 rfl 0 0 rfl rfl ?_
  refine n_obj hR0 B 1 rfl ⟨(iN4 _ (List.mem_of_getElem? (i := 0) rfl)), (iN4 _ (List.mem_of_getElem? (i := 1) rfl)), (iN4 _ (List.mem_of_getElem? (i := 2) rfl))⟩ ⟨Nat.le_of_ble_eq_true rfl, Nat.le_of_ble_eq_true rfl⟩ (Nat.le_of_ble_eq_true rfl) ?_
  refine n_aload_n B 2 rfl 0 0 rfl rfl ?_
  refine n_new 3 1 [.null, .int 0] (.inr (4, [.null, .null, .int 0, .int 0, .int 0, .int 0, .int 0, .int 0]) :: (([] : List va_E) ++ [.inr (3, [.null, .int 0])])) 2 1 2 hR0 B 3 rfl rfl ⟨(iN4 _ (List.mem_of_getElem? (i := 3) rfl)), (iN4 _ (List.mem_of_getElem? (i := 4) rfl)), (iN4 _ (List.mem_of_getElem? (i := 5) rfl))⟩ ⟨rfl, rfl⟩ rfl (by decide +kernel) (fun _ => rfl) ⟨rfl, rfl, Nat.le_of_ble_eq_true rfl, Nat.le_of_ble_eq_true rfl⟩ ?_
  refine n_dup B 4 rfl rfl ?_
  refine n_callN 1 (.inr (4, [.null, .null, .int 0, .int 0, .int 0, .int 0, .int 0, .int 0]) :: (([] : List va_E))) (.inr (4, [.null, .null, .int 0, .int 0, .int 0, .int 0, .int 0, .int 0]) :: (([] : List va_E) ++ (bN3 cI cZ cJ).map (she 1))) 3 2 502 hR0 hL B 5 rfl miN3 (List.mem_of_getElem? (i := 5) rfl) (iN4 _ (List.mem_of_getElem? (i := 6) rfl)) rfl (ctN3) ⟨Nat.le_of_ble_eq_true rfl, Nat.le_of_ble_eq_true rfl, rfl, rfl, Nat.le_of_ble_eq_true rfl, Nat.le_of_ble_eq_true rfl⟩ rfl 2 ⟨rfl, bN3_len cI cZ cJ, rfl⟩ (fun _ => rfl) rfl (Nat.le_of_ble_eq_true rfl) ?_
  refine n_putF 4 0 0 (.inr (4, [.ref 1, .null, .int 0, .int 0, .int 0, .int 0, .int 0, .int 0]) :: (([] : List va_E) ++ (bN3 cI cZ cJ).map (she 1))) B 6 rfl (iN4 _ (List.mem_of_getElem? (i := 7) rfl)) rfl (ty := .object "ZoneCapacity$Tape") (by decide) rfl hI rfl (fun _ => ⟨rfl, rfl⟩) rfl (by decide) rfl ?_
  refine n_aload_n B 7 rfl 0 0 rfl rfl ?_
  refine n_new 1 3 [.null, .null] (.inr (4, [.ref 1, .null, .int 0, .int 0, .int 0, .int 0, .int 0, .int 0]) :: (([] : List va_E) ++ (bN3 cI cZ cJ).map (she 1) ++ [.inr (1, [.null, .null])])) 4 3 504 hR0 B 8 rfl rfl ⟨(iN4 _ (List.mem_of_getElem? (i := 8) rfl)), (iN4 _ (List.mem_of_getElem? (i := 9) rfl)), (iN4 _ (List.mem_of_getElem? (i := 10) rfl))⟩ ⟨rfl, rfl⟩ rfl (by decide +kernel) (fun _ => rfl) ⟨rfl, rfl, Nat.le_of_ble_eq_true rfl, Nat.le_of_ble_eq_true rfl⟩ ?_
  refine n_dup B 9 rfl rfl ?_
  refine n_callN 3 (.inr (4, [.ref 1, .null, .int 0, .int 0, .int 0, .int 0, .int 0, .int 0]) :: (([] : List va_E) ++ (bN3 cI cZ cJ).map (she 1))) (.inr (4, [.ref 1, .null, .int 0, .int 0, .int 0, .int 0, .int 0, .int 0]) :: (([] : List va_E) ++ (bN3 cI cZ cJ).map (she 1) ++ (bN1 cI cZ cJ).map (she 3))) 22 21 755 hR0 hL B 10 rfl miN1 (List.mem_of_getElem? (i := 6) rfl) (iN4 _ (List.mem_of_getElem? (i := 11) rfl)) rfl (ctN1) ⟨Nat.le_of_ble_eq_true rfl, Nat.le_of_ble_eq_true rfl, rfl, rfl, Nat.le_of_ble_eq_true rfl, Nat.le_of_ble_eq_true rfl⟩ rfl 19 ⟨rfl, bN1_len cI cZ cJ, rfl⟩ (fun _ => rfl) rfl (Nat.le_of_ble_eq_true rfl) ?_
  refine n_putF 4 1 0 (.inr (4, [.ref 1, .ref 3, .int 0, .int 0, .int 0, .int 0, .int 0, .int 0]) :: (([] : List va_E) ++ (bN3 cI cZ cJ).map (she 1) ++ (bN1 cI cZ cJ).map (she 3))) B 11 rfl (iN4 _ (List.mem_of_getElem? (i := 12) rfl)) rfl (ty := .object "ZoneCapacity$Market") (by decide) rfl hI rfl (fun _ => ⟨rfl, rfl⟩) rfl (by decide) rfl ?_
  exact n_vret B 12 rfl hQ ⟨rfl, rfl, rfl⟩
def bN6 (cI cZ cJ : ClassId) : List va_E := (.inr (6, [.ref 1, .ref 30, .ref 59, .ref 81, .ref 100, .int 0, .int 0]) :: (([] : List va_E) ++ (bN0 cI cZ cJ).map (she 1) ++ (bN0 cI cZ cJ).map (she 30) ++ (bN4 cI cZ cJ).map (she 59) ++ (bN1 cI cZ cJ).map (she 81) ++ (bN1 cI cZ cJ).map (she 100)))
theorem bN6_len (cI cZ cJ : ClassId) : (bN6 cI cZ cJ).length = 119 := by
  unfold bN6
  simp only [List.length_cons, List.length_append, List.length_map, List.length_nil, bN5_len, bN2_len, bN1_len, bN0_len, bN3_len, bN4_len]
def tbN6 : Tb := [(0, .aload_n 0, 1, 1), (1, .invokespecial 1, 3, 4), (4, .aload_n 0, 1, 5), (5, .new 7, 3, 8), (8, .dup, 1, 9), (9, .invokespecial 9, 3, 12), (12, .putfield 10, 3, 15), (15, .aload_n 0, 1, 16), (16, .new 7, 3, 19), (19, .dup, 1, 20), (20, .invokespecial 9, 3, 23), (23, .putfield 16, 3, 26), (26, .aload_n 0, 1, 27), (27, .new 19, 3, 30), (30, .dup, 1, 31), (31, .invokespecial 21, 3, 34), (34, .putfield 22, 3, 37), (37, .aload_n 0, 1, 38), (38, .new 26, 3, 41), (41, .dup, 1, 42), (42, .invokespecial 28, 3, 45), (45, .putfield 29, 3, 48), (48, .aload_n 0, 1, 49), (49, .new 26, 3, 52), (52, .dup, 1, 53), (53, .invokespecial 28, 3, 56), (56, .putfield 33, 3, 59), (59, .return_, 1, 60)]
theorem dtN6 : ∀ q ∈ tbN6, decode cX6_init q.1 = .ok (q.2.1, q.2.2.1) ∧ q.1 + q.2.2.1 = q.2.2.2 := by decide +kernel
theorem miN6 : MI yX6_init cX6_init 1 none 0 := ⟨tw_mem (List.mem_of_getElem? (i := 92) (by decide +kernel)) rfl, by decide, by decide +kernel, tw_mem (List.mem_of_getElem? (i := 71) (by decide +kernel)) rfl⟩
abbrev rmN6 : Room := { frames := 4, cells := 118, slots := 2159, locals := 92 }
def wN6 : List Cond := [.methodLink "ZoneCapacity" 1 Lib.objectInit, .instanceMethod Lib.objectInit, .code Lib.objectInit ⟨#[0xb1]⟩ 1 none, .classLink "ZoneCapacity" 7 "ZoneCapacity$Auction", .instantiable "ZoneCapacity$Auction" 12, .initialized "ZoneCapacity$Auction", .instanceMethod yX0_init, .fieldLink "ZoneCapacity" 10 "ZoneCapacity" "now" "LZoneCapacity$Auction;", .fieldLink "ZoneCapacity" 16 "ZoneCapacity" "trial" "LZoneCapacity$Auction;", .classLink "ZoneCapacity" 19 "ZoneCapacity$Teller", .instantiable "ZoneCapacity$Teller" 8, .initialized "ZoneCapacity$Teller", .instanceMethod yX4_init, .fieldLink "ZoneCapacity" 22 "ZoneCapacity" "teller" "LZoneCapacity$Teller;", .classLink "ZoneCapacity" 26 "ZoneCapacity$Market", .instantiable "ZoneCapacity$Market" 2, .initialized "ZoneCapacity$Market", .instanceMethod yX1_init, .fieldLink "ZoneCapacity" 29 "ZoneCapacity" "firstKept" "LZoneCapacity$Market;", .fieldLink "ZoneCapacity" 33 "ZoneCapacity" "secondKept" "LZoneCapacity$Market;"]
theorem iN6 : ∀ w ∈ wN6, w ∈ TW := tw_of (ids := [93, 94, 95, 96, 97, 72, 99, 320, 321, 266, 267, 76, 269, 322, 318, 103, 73, 105, 323, 324]) (by decide +kernel)
set_option maxHeartbeats 8000000 in
theorem ctN6 {l : Launch} {D : va_G} {cI cZ cJ : ClassId} : CtN l D cI cZ cJ yX6_init cX6_init 1 4 92 (.inr (6, [.null, .null, .null, .null, .null, .int 0, .int 0])) (bN6 cI cZ cJ) 118 2159 := by
  refine CtN.of (tb := tbN6) (by decide) miN6.1 rfl dtN6 (by decide) ?_
  intro E B hQ hR0 hL hI
  refine n_aload_n B 0 rfl 0 0 rfl rfl ?_
  refine n_obj hR0 B 1 rfl ⟨(iN6 _ (List.mem_of_getElem? (i := 0) rfl)), (iN6 _ (List.mem_of_getElem? (i := 1) rfl)), (iN6 _ (List.mem_of_getElem? (i := 2) rfl))⟩ ⟨Nat.le_of_ble_eq_true rfl, Nat.le_of_ble_eq_true rfl⟩ (Nat.le_of_ble_eq_true rfl) ?_
  refine n_aload_n B 2 rfl 0 0 rfl rfl ?_
  refine n_new 0 1 [.null, .null, .null, .null, .null, .null, .null, .null, .null, .null, .int 0, .int 0] (.inr (6, [.null, .null, .null, .null, .null, .int 0, .int 0]) :: (([] : List va_E) ++ [.inr (0, [.null, .null, .null, .null, .null, .null, .null, .null, .null, .null, .int 0, .int 0])])) 2 1 12 hR0 B 3 rfl rfl ⟨(iN6 _ (List.mem_of_getElem? (i := 3) rfl)), (iN6 _ (List.mem_of_getElem? (i := 4) rfl)), (iN6 _ (List.mem_of_getElem? (i := 5) rfl))⟩ ⟨rfl, rfl⟩ rfl (by decide +kernel) (fun _ => rfl) ⟨rfl, rfl, Nat.le_of_ble_eq_true rfl, Nat.le_of_ble_eq_true rfl⟩ ?_
  refine n_dup B 4 rfl rfl ?_
  refine n_callN 1 (.inr (6, [.null, .null, .null, .null, .null, .int 0, .int 0]) :: (([] : List va_E))) (.inr (6, [.null, .null, .null, .null, .null, .int 0, .int 0]) :: (([] : List va_E) ++ (bN0 cI cZ cJ).map (she 1))) 30 29 445 hR0 hL B 5 rfl miN0 (List.mem_of_getElem? (i := 0) rfl) (iN6 _ (List.mem_of_getElem? (i := 6) rfl)) rfl (ctN0) ⟨Nat.le_of_ble_eq_true rfl, Nat.le_of_ble_eq_true rfl, rfl, rfl, Nat.le_of_ble_eq_true rfl, Nat.le_of_ble_eq_true rfl⟩ rfl 29 ⟨rfl, bN0_len cI cZ cJ, rfl⟩ (fun _ => rfl) rfl (Nat.le_of_ble_eq_true rfl) ?_
  refine n_putF 6 0 0 (.inr (6, [.ref 1, .null, .null, .null, .null, .int 0, .int 0]) :: (([] : List va_E) ++ (bN0 cI cZ cJ).map (she 1))) B 6 rfl (iN6 _ (List.mem_of_getElem? (i := 7) rfl)) rfl (ty := .object "ZoneCapacity$Auction") (by decide) rfl hI rfl (fun _ => ⟨rfl, rfl⟩) rfl (by decide) rfl ?_
  refine n_aload_n B 7 rfl 0 0 rfl rfl ?_
  refine n_new 0 30 [.null, .null, .null, .null, .null, .null, .null, .null, .null, .null, .int 0, .int 0] (.inr (6, [.ref 1, .null, .null, .null, .null, .int 0, .int 0]) :: (([] : List va_E) ++ (bN0 cI cZ cJ).map (she 1) ++ [.inr (0, [.null, .null, .null, .null, .null, .null, .null, .null, .null, .null, .int 0, .int 0])])) 31 30 457 hR0 B 8 rfl rfl ⟨(iN6 _ (List.mem_of_getElem? (i := 3) rfl)), (iN6 _ (List.mem_of_getElem? (i := 4) rfl)), (iN6 _ (List.mem_of_getElem? (i := 5) rfl))⟩ ⟨rfl, rfl⟩ rfl (by decide +kernel) (fun _ => rfl) ⟨rfl, rfl, Nat.le_of_ble_eq_true rfl, Nat.le_of_ble_eq_true rfl⟩ ?_
  refine n_dup B 9 rfl rfl ?_
  refine n_callN 30 (.inr (6, [.ref 1, .null, .null, .null, .null, .int 0, .int 0]) :: (([] : List va_E) ++ (bN0 cI cZ cJ).map (she 1))) (.inr (6, [.ref 1, .null, .null, .null, .null, .int 0, .int 0]) :: (([] : List va_E) ++ (bN0 cI cZ cJ).map (she 1) ++ (bN0 cI cZ cJ).map (she 30))) 59 58 890 hR0 hL B 10 rfl miN0 (List.mem_of_getElem? (i := 0) rfl) (iN6 _ (List.mem_of_getElem? (i := 6) rfl)) rfl (ctN0) ⟨Nat.le_of_ble_eq_true rfl, Nat.le_of_ble_eq_true rfl, rfl, rfl, Nat.le_of_ble_eq_true rfl, Nat.le_of_ble_eq_true rfl⟩ rfl 29 ⟨rfl, bN0_len cI cZ cJ, rfl⟩ (fun _ => rfl) rfl (Nat.le_of_ble_eq_true rfl) ?_
  refine n_putF 6 1 0 (.inr (6, [.ref 1, .ref 30, .null, .null, .null, .int 0, .int 0]) :: (([] : List va_E) ++ (bN0 cI cZ cJ).map (she 1) ++ (bN0 cI cZ cJ).map (she 30))) B 11 rfl (iN6 _ (List.mem_of_getElem? (i := 8) rfl)) rfl (ty := .object "ZoneCapacity$Auction") (by decide) rfl hI rfl (fun _ => ⟨rfl, rfl⟩) rfl (by decide) rfl ?_
  refine n_aload_n B 12 rfl 0 0 rfl rfl ?_
  refine n_new 4 59 [.null, .null, .int 0, .int 0, .int 0, .int 0, .int 0, .int 0] (.inr (6, [.ref 1, .ref 30, .null, .null, .null, .int 0, .int 0]) :: (([] : List va_E) ++ (bN0 cI cZ cJ).map (she 1) ++ (bN0 cI cZ cJ).map (she 30) ++ [.inr (4, [.null, .null, .int 0, .int 0, .int 0, .int 0, .int 0, .int 0])])) 60 59 898 hR0 B 13 rfl rfl ⟨(iN6 _ (List.mem_of_getElem? (i := 9) rfl)), (iN6 _ (List.mem_of_getElem? (i := 10) rfl)), (iN6 _ (List.mem_of_getElem? (i := 11) rfl))⟩ ⟨rfl, rfl⟩ rfl (by decide +kernel) (fun _ => rfl) ⟨rfl, rfl, Nat.le_of_ble_eq_true rfl, Nat.le_of_ble_eq_true rfl⟩ ?_
  refine n_dup B 14 rfl rfl ?_
  refine n_callN 59 (.inr (6, [.ref 1, .ref 30, .null, .null, .null, .int 0, .int 0]) :: (([] : List va_E) ++ (bN0 cI cZ cJ).map (she 1) ++ (bN0 cI cZ cJ).map (she 30))) (.inr (6, [.ref 1, .ref 30, .null, .null, .null, .int 0, .int 0]) :: (([] : List va_E) ++ (bN0 cI cZ cJ).map (she 1) ++ (bN0 cI cZ cJ).map (she 30) ++ (bN4 cI cZ cJ).map (she 59))) 81 80 1653 hR0 hL B 15 rfl miN4 (List.mem_of_getElem? (i := 4) rfl) (iN6 _ (List.mem_of_getElem? (i := 12) rfl)) rfl (ctN4) ⟨Nat.le_of_ble_eq_true rfl, Nat.le_of_ble_eq_true rfl, rfl, rfl, Nat.le_of_ble_eq_true rfl, Nat.le_of_ble_eq_true rfl⟩ rfl 22 ⟨rfl, bN4_len cI cZ cJ, rfl⟩ (fun _ => rfl) rfl (Nat.le_of_ble_eq_true rfl) ?_
  refine n_putF 6 2 0 (.inr (6, [.ref 1, .ref 30, .ref 59, .null, .null, .int 0, .int 0]) :: (([] : List va_E) ++ (bN0 cI cZ cJ).map (she 1) ++ (bN0 cI cZ cJ).map (she 30) ++ (bN4 cI cZ cJ).map (she 59))) B 16 rfl (iN6 _ (List.mem_of_getElem? (i := 13) rfl)) rfl (ty := .object "ZoneCapacity$Teller") (by decide) rfl hI rfl (fun _ => ⟨rfl, rfl⟩) rfl (by decide) rfl ?_
  refine n_aload_n B 17 rfl 0 0 rfl rfl ?_
  refine n_new 1 81 [.null, .null] (.inr (6, [.ref 1, .ref 30, .ref 59, .null, .null, .int 0, .int 0]) :: (([] : List va_E) ++ (bN0 cI cZ cJ).map (she 1) ++ (bN0 cI cZ cJ).map (she 30) ++ (bN4 cI cZ cJ).map (she 59) ++ [.inr (1, [.null, .null])])) 82 81 1655 hR0 B 18 rfl rfl ⟨(iN6 _ (List.mem_of_getElem? (i := 14) rfl)), (iN6 _ (List.mem_of_getElem? (i := 15) rfl)), (iN6 _ (List.mem_of_getElem? (i := 16) rfl))⟩ ⟨rfl, rfl⟩ rfl (by decide +kernel) (fun _ => rfl) ⟨rfl, rfl, Nat.le_of_ble_eq_true rfl, Nat.le_of_ble_eq_true rfl⟩ ?_
  refine n_dup B 19 rfl rfl ?_
  refine n_callN 81 (.inr (6, [.ref 1, .ref 30, .ref 59, .null, .null, .int 0, .int 0]) :: (([] : List va_E) ++ (bN0 cI cZ cJ).map (she 1) ++ (bN0 cI cZ cJ).map (she 30) ++ (bN4 cI cZ cJ).map (she 59))) (.inr (6, [.ref 1, .ref 30, .ref 59, .null, .null, .int 0, .int 0]) :: (([] : List va_E) ++ (bN0 cI cZ cJ).map (she 1) ++ (bN0 cI cZ cJ).map (she 30) ++ (bN4 cI cZ cJ).map (she 59) ++ (bN1 cI cZ cJ).map (she 81))) 100 99 1906 hR0 hL B 20 rfl miN1 (List.mem_of_getElem? (i := 7) rfl) (iN6 _ (List.mem_of_getElem? (i := 17) rfl)) rfl (ctN1) ⟨Nat.le_of_ble_eq_true rfl, Nat.le_of_ble_eq_true rfl, rfl, rfl, Nat.le_of_ble_eq_true rfl, Nat.le_of_ble_eq_true rfl⟩ rfl 19 ⟨rfl, bN1_len cI cZ cJ, rfl⟩ (fun _ => rfl) rfl (Nat.le_of_ble_eq_true rfl) ?_
  refine n_putF 6 3 0 (.inr (6, [.ref 1, .ref 30, .ref 59, .ref 81, .null, .int 0, .int 0]) :: (([] : List va_E) ++ (bN0 cI cZ cJ).map (she 1) ++ (bN0 cI cZ cJ).map (she 30) ++ (bN4 cI cZ cJ).map (she 59) ++ (bN1 cI cZ cJ).map (she 81))) B 21 rfl (iN6 _ (List.mem_of_getElem? (i := 18) rfl)) rfl (ty := .object "ZoneCapacity$Market") (by decide) rfl hI rfl (fun _ => ⟨rfl, rfl⟩) rfl (by decide) rfl ?_
  refine n_aload_n B 22 rfl 0 0 rfl rfl ?_
  refine n_new 1 100 [.null, .null] (.inr (6, [.ref 1, .ref 30, .ref 59, .ref 81, .null, .int 0, .int 0]) :: (([] : List va_E) ++ (bN0 cI cZ cJ).map (she 1) ++ (bN0 cI cZ cJ).map (she 30) ++ (bN4 cI cZ cJ).map (she 59) ++ (bN1 cI cZ cJ).map (she 81) ++ [.inr (1, [.null, .null])])) 101 100 1908 hR0 B 23 rfl rfl ⟨(iN6 _ (List.mem_of_getElem? (i := 14) rfl)), (iN6 _ (List.mem_of_getElem? (i := 15) rfl)), (iN6 _ (List.mem_of_getElem? (i := 16) rfl))⟩ ⟨rfl, rfl⟩ rfl (by decide +kernel) (fun _ => rfl) ⟨rfl, rfl, Nat.le_of_ble_eq_true rfl, Nat.le_of_ble_eq_true rfl⟩ ?_
  refine n_dup B 24 rfl rfl ?_
  refine n_callN 100 (.inr (6, [.ref 1, .ref 30, .ref 59, .ref 81, .null, .int 0, .int 0]) :: (([] : List va_E) ++ (bN0 cI cZ cJ).map (she 1) ++ (bN0 cI cZ cJ).map (she 30) ++ (bN4 cI cZ cJ).map (she 59) ++ (bN1 cI cZ cJ).map (she 81))) (.inr (6, [.ref 1, .ref 30, .ref 59, .ref 81, .null, .int 0, .int 0]) :: (([] : List va_E) ++ (bN0 cI cZ cJ).map (she 1) ++ (bN0 cI cZ cJ).map (she 30) ++ (bN4 cI cZ cJ).map (she 59) ++ (bN1 cI cZ cJ).map (she 81) ++ (bN1 cI cZ cJ).map (she 100))) 119 118 2159 hR0 hL B 25 rfl miN1 (List.mem_of_getElem? (i := 7) rfl) (iN6 _ (List.mem_of_getElem? (i := 17) rfl)) rfl (ctN1) ⟨Nat.le_of_ble_eq_true rfl, Nat.le_of_ble_eq_true rfl, rfl, rfl, Nat.le_of_ble_eq_true rfl, Nat.le_of_ble_eq_true rfl⟩ rfl 19 ⟨rfl, bN1_len cI cZ cJ, rfl⟩ (fun _ => rfl) rfl (Nat.le_of_ble_eq_true rfl) ?_
  refine n_putF 6 4 0 (.inr (6, [.ref 1, .ref 30, .ref 59, .ref 81, .ref 100, .int 0, .int 0]) :: (([] : List va_E) ++ (bN0 cI cZ cJ).map (she 1) ++ (bN0 cI cZ cJ).map (she 30) ++ (bN4 cI cZ cJ).map (she 59) ++ (bN1 cI cZ cJ).map (she 81) ++ (bN1 cI cZ cJ).map (she 100))) B 26 rfl (iN6 _ (List.mem_of_getElem? (i := 19) rfl)) rfl (ty := .object "ZoneCapacity$Market") (by decide) rfl hI rfl (fun _ => ⟨rfl, rfl⟩) rfl (by decide) rfl ?_
  exact n_vret B 27 rfl hQ ⟨rfl, rfl, rfl⟩
def bN7 (cI cZ cJ : ClassId) : List va_E := (.inr (7, [.int 0, .ref 1, .ref 2, .ref 3, .ref 4, .int 0, .int 0, .ref 5, .ref 6, .ref 7, .ref 8, .ref 9, .ref 10, .ref 11, .ref 12, .int 0, .int 0, .int 0, .int 0, .int 0, .int 0, .int 0, .ref 13]) :: (([] : List va_E) ++ [.inl (cI, 235, .inl (upd (upd (upd (fun _ => 0) 0 (1)) 2 (9999)) 7 (-1)))] ++ [.inl (cI, 470, .inl (fun _ => 0))] ++ [.inl (cZ, 2, .inl (fun _ => 0))] ++ [.inl (cI, 235, .inl (fun _ => 0))] ++ [.inl (cI, 6, .inl (fun _ => 0))] ++ [.inl (cI, 6, .inl (fun _ => 0))] ++ [.inl (cI, 6, .inl (fun _ => 0))] ++ [.inl (cI, 6, .inl (fun _ => 0))] ++ [.inl (cI, 6, .inl (fun _ => 0))] ++ [.inl (cI, 48, .inl (fun _ => 0))] ++ [.inl (cI, 7, .inl (fun _ => 0))] ++ [.inl (cI, 500, .inl (fun _ => 0))] ++ [.inl (cI, 6, .inl (fun _ => 0))]))
theorem bN7_len (cI cZ cJ : ClassId) : (bN7 cI cZ cJ).length = 14 := by
  unfold bN7
  simp only [List.length_cons, List.length_append, List.length_map, List.length_nil, bN5_len, bN2_len, bN1_len, bN0_len, bN3_len, bN4_len, bN6_len]
def tbN7 : Tb := [(0, .aload_n 0, 1, 1), (1, .invokespecial 1, 3, 4), (4, .aload_n 0, 1, 5), (5, .sipush 235, 3, 8), (8, .newarray .int, 2, 10), (10, .putfield 7, 3, 13), (13, .aload_n 0, 1, 14), (14, .sipush 470, 3, 17), (17, .newarray .int, 2, 19), (19, .putfield 13, 3, 22), (22, .aload_n 0, 1, 23), (23, .iconst 2, 1, 24), (24, .newarray .boolean, 2, 26), (26, .putfield 16, 3, 29), (29, .aload_n 0, 1, 30), (30, .sipush 235, 3, 33), (33, .newarray .int, 2, 35), (35, .putfield 20, 3, 38), (38, .aload_n 0, 1, 39), (39, .bipush 6, 2, 41), (41, .newarray .int, 2, 43), (43, .putfield 23, 3, 46), (46, .aload_n 0, 1, 47), (47, .bipush 6, 2, 49), (49, .newarray .int, 2, 51), (51, .putfield 26, 3, 54), (54, .aload_n 0, 1, 55), (55, .bipush 6, 2, 57), (57, .newarray .int, 2, 59), (59, .putfield 29, 3, 62), (62, .aload_n 0, 1, 63), (63, .bipush 6, 2, 65), (65, .newarray .int, 2, 67), (67, .putfield 32, 3, 70), (70, .aload_n 0, 1, 71), (71, .bipush 6, 2, 73), (73, .newarray .int, 2, 75), (75, .putfield 35, 3, 78), (78, .aload_n 0, 1, 79), (79, .bipush 48, 2, 81), (81, .newarray .int, 2, 83), (83, .putfield 38, 3, 86), (86, .aload_n 0, 1, 87), (87, .bipush 7, 2, 89), (89, .newarray .int, 2, 91), (91, .putfield 41, 3, 94), (94, .aload_n 0, 1, 95), (95, .sipush 500, 3, 98), (98, .newarray .int, 2, 100), (100, .putfield 44, 3, 103), (103, .aload_n 0, 1, 104), (104, .bipush 6, 2, 106), (106, .newarray .int, 2, 108), (108, .putfield 47, 3, 111), (111, .aload_n 0, 1, 112), (112, .getfield 7, 3, 115), (115, .iconst 0, 1, 116), (116, .iconst 1, 1, 117), (117, .iastore, 1, 118), (118, .aload_n 0, 1, 119), (119, .getfield 7, 3, 122), (122, .iconst 2, 1, 123), (123, .sipush 9999, 3, 126), (126, .iastore, 1, 127), (127, .aload_n 0, 1, 128), (128, .getfield 7, 3, 131), (131, .bipush 7, 2, 133), (133, .iconst (-1), 1, 134), (134, .iastore, 1, 135), (135, .return_, 1, 136)]
theorem dtN7 : ∀ q ∈ tbN7, decode cX7_init q.1 = .ok (q.2.1, q.2.2.1) ∧ q.1 + q.2.2.1 = q.2.2.2 := by decide +kernel
theorem miN7 : MI yX7_init cX7_init 1 none 0 := ⟨tw_mem (List.mem_of_getElem? (i := 936) (by decide +kernel)) rfl, by decide, by decide +kernel, tw_mem (List.mem_of_getElem? (i := 78) (by decide +kernel)) rfl⟩
abbrev rmN7 : Room := { frames := 1, cells := 13, slots := 1533, locals := 32 }
def wN7 : List Cond := [.methodLink "ZoneCapacityModel" 1 Lib.objectInit, .instanceMethod Lib.objectInit, .code Lib.objectInit ⟨#[0xb1]⟩ 1 none, .arrayClass .int, .fieldLink "ZoneCapacityModel" 7 "ZoneCapacityModel" "w" "[I", .fieldLink "ZoneCapacityModel" 13 "ZoneCapacityModel" "kept" "[I", .arrayClass .boolean, .fieldLink "ZoneCapacityModel" 16 "ZoneCapacityModel" "isKept" "[Z", .fieldLink "ZoneCapacityModel" 20 "ZoneCapacityModel" "draft" "[I", .fieldLink "ZoneCapacityModel" 23 "ZoneCapacityModel" "low" "[I", .fieldLink "ZoneCapacityModel" 26 "ZoneCapacityModel" "high" "[I", .fieldLink "ZoneCapacityModel" 29 "ZoneCapacityModel" "prices" "[I", .fieldLink "ZoneCapacityModel" 32 "ZoneCapacityModel" "nets" "[I", .fieldLink "ZoneCapacityModel" 35 "ZoneCapacityModel" "serves" "[I", .fieldLink "ZoneCapacityModel" 38 "ZoneCapacityModel" "takes" "[I", .fieldLink "ZoneCapacityModel" 41 "ZoneCapacityModel" "hadSteps" "[I", .fieldLink "ZoneCapacityModel" 44 "ZoneCapacityModel" "tape" "[I", .fieldLink "ZoneCapacityModel" 47 "ZoneCapacityModel" "told" "[I"]
theorem iN7 : ∀ w ∈ wN7, w ∈ TW := tw_of (ids := [937, 94, 95, 151, 939, 940, 1008, 941, 942, 945, 946, 947, 948, 949, 950, 951, 952, 960]) (by decide +kernel)
set_option maxHeartbeats 8000000 in
theorem ctN7 {l : Launch} {D : va_G} {cI cZ cJ : ClassId} : CtN l D cI cZ cJ yX7_init cX7_init 1 1 32 (.inr (7, [.int 0, .null, .null, .null, .null, .int 0, .int 0, .null, .null, .null, .null, .null, .null, .null, .null, .int 0, .int 0, .int 0, .int 0, .int 0, .int 0, .int 0, .null])) (bN7 cI cZ cJ) 13 1533 := by
  refine CtN.of (tb := tbN7) (by decide) miN7.1 rfl dtN7 (by decide) ?_
  intro E B hQ hR0 hL hI
  refine n_aload_n B 0 rfl 0 0 rfl rfl ?_
  refine n_obj hR0 B 1 rfl ⟨(iN7 _ (List.mem_of_getElem? (i := 0) rfl)), (iN7 _ (List.mem_of_getElem? (i := 1) rfl)), (iN7 _ (List.mem_of_getElem? (i := 2) rfl))⟩ ⟨Nat.le_of_ble_eq_true rfl, Nat.le_of_ble_eq_true rfl⟩ (Nat.le_of_ble_eq_true rfl) ?_
  refine n_aload_n B 2 rfl 0 0 rfl rfl ?_
  refine n_sipush (235) B 3 rfl (by decide) ?_
  refine n_newaI 235 1 (.inr (7, [.int 0, .null, .null, .null, .null, .int 0, .int 0, .null, .null, .null, .null, .null, .null, .null, .null, .int 0, .int 0, .int 0, .int 0, .int 0, .int 0, .int 0, .null]) :: (([] : List va_E) ++ [.inl (cI, 235, .inl (fun _ => 0))])) 2 1 235 hR0 hL B 4 rfl (iN7 _ (List.mem_of_getElem? (i := 3) rfl)) ⟨by decide, by decide, by decide⟩ ⟨rfl, rfl⟩ rfl ⟨rfl, rfl, Nat.le_of_ble_eq_true rfl, Nat.le_of_ble_eq_true rfl⟩ ?_
  refine n_putF 7 1 0 (.inr (7, [.int 0, .ref 1, .null, .null, .null, .int 0, .int 0, .null, .null, .null, .null, .null, .null, .null, .null, .int 0, .int 0, .int 0, .int 0, .int 0, .int 0, .int 0, .null]) :: (([] : List va_E) ++ [.inl (cI, 235, .inl (fun _ => 0))])) B 5 rfl (iN7 _ (List.mem_of_getElem? (i := 4) rfl)) rfl (ty := .array .int) (by decide) rfl hI rfl (fun _ => ⟨rfl, rfl⟩) rfl (by decide) rfl ?_
  refine n_aload_n B 6 rfl 0 0 rfl rfl ?_
  refine n_sipush (470) B 7 rfl (by decide) ?_
  refine n_newaI 470 2 (.inr (7, [.int 0, .ref 1, .null, .null, .null, .int 0, .int 0, .null, .null, .null, .null, .null, .null, .null, .null, .int 0, .int 0, .int 0, .int 0, .int 0, .int 0, .int 0, .null]) :: (([] : List va_E) ++ [.inl (cI, 235, .inl (fun _ => 0))] ++ [.inl (cI, 470, .inl (fun _ => 0))])) 3 2 705 hR0 hL B 8 rfl (iN7 _ (List.mem_of_getElem? (i := 3) rfl)) ⟨by decide, by decide, by decide⟩ ⟨rfl, rfl⟩ rfl ⟨rfl, rfl, Nat.le_of_ble_eq_true rfl, Nat.le_of_ble_eq_true rfl⟩ ?_
  refine n_putF 7 2 0 (.inr (7, [.int 0, .ref 1, .ref 2, .null, .null, .int 0, .int 0, .null, .null, .null, .null, .null, .null, .null, .null, .int 0, .int 0, .int 0, .int 0, .int 0, .int 0, .int 0, .null]) :: (([] : List va_E) ++ [.inl (cI, 235, .inl (fun _ => 0))] ++ [.inl (cI, 470, .inl (fun _ => 0))])) B 9 rfl (iN7 _ (List.mem_of_getElem? (i := 5) rfl)) rfl (ty := .array .int) (by decide) rfl hI rfl (fun _ => ⟨rfl, rfl⟩) rfl (by decide) rfl ?_
  refine n_aload_n B 10 rfl 0 0 rfl rfl ?_
  refine n_iconst (2) B 11 rfl (by decide) ?_
  refine n_newaZ 2 3 (.inr (7, [.int 0, .ref 1, .ref 2, .null, .null, .int 0, .int 0, .null, .null, .null, .null, .null, .null, .null, .null, .int 0, .int 0, .int 0, .int 0, .int 0, .int 0, .int 0, .null]) :: (([] : List va_E) ++ [.inl (cI, 235, .inl (fun _ => 0))] ++ [.inl (cI, 470, .inl (fun _ => 0))] ++ [.inl (cZ, 2, .inl (fun _ => 0))])) 4 3 707 hR0 hL B 12 rfl (iN7 _ (List.mem_of_getElem? (i := 6) rfl)) ⟨by decide, by decide, by decide⟩ ⟨rfl, rfl⟩ rfl ⟨rfl, rfl, Nat.le_of_ble_eq_true rfl, Nat.le_of_ble_eq_true rfl⟩ ?_
  refine n_putF 7 3 0 (.inr (7, [.int 0, .ref 1, .ref 2, .ref 3, .null, .int 0, .int 0, .null, .null, .null, .null, .null, .null, .null, .null, .int 0, .int 0, .int 0, .int 0, .int 0, .int 0, .int 0, .null]) :: (([] : List va_E) ++ [.inl (cI, 235, .inl (fun _ => 0))] ++ [.inl (cI, 470, .inl (fun _ => 0))] ++ [.inl (cZ, 2, .inl (fun _ => 0))])) B 13 rfl (iN7 _ (List.mem_of_getElem? (i := 7) rfl)) rfl (ty := .array .boolean) (by decide) rfl hI rfl (fun _ => ⟨rfl, rfl⟩) rfl (by decide) rfl ?_
  refine n_aload_n B 14 rfl 0 0 rfl rfl ?_
  refine n_sipush (235) B 15 rfl (by decide) ?_
  refine n_newaI 235 4 (.inr (7, [.int 0, .ref 1, .ref 2, .ref 3, .null, .int 0, .int 0, .null, .null, .null, .null, .null, .null, .null, .null, .int 0, .int 0, .int 0, .int 0, .int 0, .int 0, .int 0, .null]) :: (([] : List va_E) ++ [.inl (cI, 235, .inl (fun _ => 0))] ++ [.inl (cI, 470, .inl (fun _ => 0))] ++ [.inl (cZ, 2, .inl (fun _ => 0))] ++ [.inl (cI, 235, .inl (fun _ => 0))])) 5 4 942 hR0 hL B 16 rfl (iN7 _ (List.mem_of_getElem? (i := 3) rfl)) ⟨by decide, by decide, by decide⟩ ⟨rfl, rfl⟩ rfl ⟨rfl, rfl, Nat.le_of_ble_eq_true rfl, Nat.le_of_ble_eq_true rfl⟩ ?_
  refine n_putF 7 4 0 (.inr (7, [.int 0, .ref 1, .ref 2, .ref 3, .ref 4, .int 0, .int 0, .null, .null, .null, .null, .null, .null, .null, .null, .int 0, .int 0, .int 0, .int 0, .int 0, .int 0, .int 0, .null]) :: (([] : List va_E) ++ [.inl (cI, 235, .inl (fun _ => 0))] ++ [.inl (cI, 470, .inl (fun _ => 0))] ++ [.inl (cZ, 2, .inl (fun _ => 0))] ++ [.inl (cI, 235, .inl (fun _ => 0))])) B 17 rfl (iN7 _ (List.mem_of_getElem? (i := 8) rfl)) rfl (ty := .array .int) (by decide) rfl hI rfl (fun _ => ⟨rfl, rfl⟩) rfl (by decide) rfl ?_
  refine n_aload_n B 18 rfl 0 0 rfl rfl ?_
  refine n_bipush (6) B 19 rfl (by decide) ?_
  refine n_newaI 6 5 (.inr (7, [.int 0, .ref 1, .ref 2, .ref 3, .ref 4, .int 0, .int 0, .null, .null, .null, .null, .null, .null, .null, .null, .int 0, .int 0, .int 0, .int 0, .int 0, .int 0, .int 0, .null]) :: (([] : List va_E) ++ [.inl (cI, 235, .inl (fun _ => 0))] ++ [.inl (cI, 470, .inl (fun _ => 0))] ++ [.inl (cZ, 2, .inl (fun _ => 0))] ++ [.inl (cI, 235, .inl (fun _ => 0))] ++ [.inl (cI, 6, .inl (fun _ => 0))])) 6 5 948 hR0 hL B 20 rfl (iN7 _ (List.mem_of_getElem? (i := 3) rfl)) ⟨by decide, by decide, by decide⟩ ⟨rfl, rfl⟩ rfl ⟨rfl, rfl, Nat.le_of_ble_eq_true rfl, Nat.le_of_ble_eq_true rfl⟩ ?_
  refine n_putF 7 7 0 (.inr (7, [.int 0, .ref 1, .ref 2, .ref 3, .ref 4, .int 0, .int 0, .ref 5, .null, .null, .null, .null, .null, .null, .null, .int 0, .int 0, .int 0, .int 0, .int 0, .int 0, .int 0, .null]) :: (([] : List va_E) ++ [.inl (cI, 235, .inl (fun _ => 0))] ++ [.inl (cI, 470, .inl (fun _ => 0))] ++ [.inl (cZ, 2, .inl (fun _ => 0))] ++ [.inl (cI, 235, .inl (fun _ => 0))] ++ [.inl (cI, 6, .inl (fun _ => 0))])) B 21 rfl (iN7 _ (List.mem_of_getElem? (i := 9) rfl)) rfl (ty := .array .int) (by decide) rfl hI rfl (fun _ => ⟨rfl, rfl⟩) rfl (by decide) rfl ?_
  refine n_aload_n B 22 rfl 0 0 rfl rfl ?_
  refine n_bipush (6) B 23 rfl (by decide) ?_
  refine n_newaI 6 6 (.inr (7, [.int 0, .ref 1, .ref 2, .ref 3, .ref 4, .int 0, .int 0, .ref 5, .null, .null, .null, .null, .null, .null, .null, .int 0, .int 0, .int 0, .int 0, .int 0, .int 0, .int 0, .null]) :: (([] : List va_E) ++ [.inl (cI, 235, .inl (fun _ => 0))] ++ [.inl (cI, 470, .inl (fun _ => 0))] ++ [.inl (cZ, 2, .inl (fun _ => 0))] ++ [.inl (cI, 235, .inl (fun _ => 0))] ++ [.inl (cI, 6, .inl (fun _ => 0))] ++ [.inl (cI, 6, .inl (fun _ => 0))])) 7 6 954 hR0 hL B 24 rfl (iN7 _ (List.mem_of_getElem? (i := 3) rfl)) ⟨by decide, by decide, by decide⟩ ⟨rfl, rfl⟩ rfl ⟨rfl, rfl, Nat.le_of_ble_eq_true rfl, Nat.le_of_ble_eq_true rfl⟩ ?_
  refine n_putF 7 8 0 (.inr (7, [.int 0, .ref 1, .ref 2, .ref 3, .ref 4, .int 0, .int 0, .ref 5, .ref 6, .null, .null, .null, .null, .null, .null, .int 0, .int 0, .int 0, .int 0, .int 0, .int 0, .int 0, .null]) :: (([] : List va_E) ++ [.inl (cI, 235, .inl (fun _ => 0))] ++ [.inl (cI, 470, .inl (fun _ => 0))] ++ [.inl (cZ, 2, .inl (fun _ => 0))] ++ [.inl (cI, 235, .inl (fun _ => 0))] ++ [.inl (cI, 6, .inl (fun _ => 0))] ++ [.inl (cI, 6, .inl (fun _ => 0))])) B 25 rfl (iN7 _ (List.mem_of_getElem? (i := 10) rfl)) rfl (ty := .array .int) (by decide) rfl hI rfl (fun _ => ⟨rfl, rfl⟩) rfl (by decide) rfl ?_
  refine n_aload_n B 26 rfl 0 0 rfl rfl ?_
  refine n_bipush (6) B 27 rfl (by decide) ?_
  refine n_newaI 6 7 (.inr (7, [.int 0, .ref 1, .ref 2, .ref 3, .ref 4, .int 0, .int 0, .ref 5, .ref 6, .null, .null, .null, .null, .null, .null, .int 0, .int 0, .int 0, .int 0, .int 0, .int 0, .int 0, .null]) :: (([] : List va_E) ++ [.inl (cI, 235, .inl (fun _ => 0))] ++ [.inl (cI, 470, .inl (fun _ => 0))] ++ [.inl (cZ, 2, .inl (fun _ => 0))] ++ [.inl (cI, 235, .inl (fun _ => 0))] ++ [.inl (cI, 6, .inl (fun _ => 0))] ++ [.inl (cI, 6, .inl (fun _ => 0))] ++ [.inl (cI, 6, .inl (fun _ => 0))])) 8 7 960 hR0 hL B 28 rfl (iN7 _ (List.mem_of_getElem? (i := 3) rfl)) ⟨by decide, by decide, by decide⟩ ⟨rfl, rfl⟩ rfl ⟨rfl, rfl, Nat.le_of_ble_eq_true rfl, Nat.le_of_ble_eq_true rfl⟩ ?_
  refine n_putF 7 9 0 (.inr (7, [.int 0, .ref 1, .ref 2, .ref 3, .ref 4, .int 0, .int 0, .ref 5, .ref 6, .ref 7, .null, .null, .null, .null, .null, .int 0, .int 0, .int 0, .int 0, .int 0, .int 0, .int 0, .null]) :: (([] : List va_E) ++ [.inl (cI, 235, .inl (fun _ => 0))] ++ [.inl (cI, 470, .inl (fun _ => 0))] ++ [.inl (cZ, 2, .inl (fun _ => 0))] ++ [.inl (cI, 235, .inl (fun _ => 0))] ++ [.inl (cI, 6, .inl (fun _ => 0))] ++ [.inl (cI, 6, .inl (fun _ => 0))] ++ [.inl (cI, 6, .inl (fun _ => 0))])) B 29 rfl (iN7 _ (List.mem_of_getElem? (i := 11) rfl)) rfl (ty := .array .int) (by decide) rfl hI rfl (fun _ => ⟨rfl, rfl⟩) rfl (by decide) rfl ?_
  refine n_aload_n B 30 rfl 0 0 rfl rfl ?_
  refine n_bipush (6) B 31 rfl (by decide) ?_
  refine n_newaI 6 8 (.inr (7, [.int 0, .ref 1, .ref 2, .ref 3, .ref 4, .int 0, .int 0, .ref 5, .ref 6, .ref 7, .null, .null, .null, .null, .null, .int 0, .int 0, .int 0, .int 0, .int 0, .int 0, .int 0, .null]) :: (([] : List va_E) ++ [.inl (cI, 235, .inl (fun _ => 0))] ++ [.inl (cI, 470, .inl (fun _ => 0))] ++ [.inl (cZ, 2, .inl (fun _ => 0))] ++ [.inl (cI, 235, .inl (fun _ => 0))] ++ [.inl (cI, 6, .inl (fun _ => 0))] ++ [.inl (cI, 6, .inl (fun _ => 0))] ++ [.inl (cI, 6, .inl (fun _ => 0))] ++ [.inl (cI, 6, .inl (fun _ => 0))])) 9 8 966 hR0 hL B 32 rfl (iN7 _ (List.mem_of_getElem? (i := 3) rfl)) ⟨by decide, by decide, by decide⟩ ⟨rfl, rfl⟩ rfl ⟨rfl, rfl, Nat.le_of_ble_eq_true rfl, Nat.le_of_ble_eq_true rfl⟩ ?_
  refine n_putF 7 10 0 (.inr (7, [.int 0, .ref 1, .ref 2, .ref 3, .ref 4, .int 0, .int 0, .ref 5, .ref 6, .ref 7, .ref 8, .null, .null, .null, .null, .int 0, .int 0, .int 0, .int 0, .int 0, .int 0, .int 0, .null]) :: (([] : List va_E) ++ [.inl (cI, 235, .inl (fun _ => 0))] ++ [.inl (cI, 470, .inl (fun _ => 0))] ++ [.inl (cZ, 2, .inl (fun _ => 0))] ++ [.inl (cI, 235, .inl (fun _ => 0))] ++ [.inl (cI, 6, .inl (fun _ => 0))] ++ [.inl (cI, 6, .inl (fun _ => 0))] ++ [.inl (cI, 6, .inl (fun _ => 0))] ++ [.inl (cI, 6, .inl (fun _ => 0))])) B 33 rfl (iN7 _ (List.mem_of_getElem? (i := 12) rfl)) rfl (ty := .array .int) (by decide) rfl hI rfl (fun _ => ⟨rfl, rfl⟩) rfl (by decide) rfl ?_
  refine n_aload_n B 34 rfl 0 0 rfl rfl ?_
  refine n_bipush (6) B 35 rfl (by decide) ?_
  refine n_newaI 6 9 (.inr (7, [.int 0, .ref 1, .ref 2, .ref 3, .ref 4, .int 0, .int 0, .ref 5, .ref 6, .ref 7, .ref 8, .null, .null, .null, .null, .int 0, .int 0, .int 0, .int 0, .int 0, .int 0, .int 0, .null]) :: (([] : List va_E) ++ [.inl (cI, 235, .inl (fun _ => 0))] ++ [.inl (cI, 470, .inl (fun _ => 0))] ++ [.inl (cZ, 2, .inl (fun _ => 0))] ++ [.inl (cI, 235, .inl (fun _ => 0))] ++ [.inl (cI, 6, .inl (fun _ => 0))] ++ [.inl (cI, 6, .inl (fun _ => 0))] ++ [.inl (cI, 6, .inl (fun _ => 0))] ++ [.inl (cI, 6, .inl (fun _ => 0))] ++ [.inl (cI, 6, .inl (fun _ => 0))])) 10 9 972 hR0 hL B 36 rfl (iN7 _ (List.mem_of_getElem? (i := 3) rfl)) ⟨by decide, by decide, by decide⟩ ⟨rfl, rfl⟩ rfl ⟨rfl, rfl, Nat.le_of_ble_eq_true rfl, Nat.le_of_ble_eq_true rfl⟩ ?_
  refine n_putF 7 11 0 (.inr (7, [.int 0, .ref 1, .ref 2, .ref 3, .ref 4, .int 0, .int 0, .ref 5, .ref 6, .ref 7, .ref 8, .ref 9, .null, .null, .null, .int 0, .int 0, .int 0, .int 0, .int 0, .int 0, .int 0, .null]) :: (([] : List va_E) ++ [.inl (cI, 235, .inl (fun _ => 0))] ++ [.inl (cI, 470, .inl (fun _ => 0))] ++ [.inl (cZ, 2, .inl (fun _ => 0))] ++ [.inl (cI, 235, .inl (fun _ => 0))] ++ [.inl (cI, 6, .inl (fun _ => 0))] ++ [.inl (cI, 6, .inl (fun _ => 0))] ++ [.inl (cI, 6, .inl (fun _ => 0))] ++ [.inl (cI, 6, .inl (fun _ => 0))] ++ [.inl (cI, 6, .inl (fun _ => 0))])) B 37 rfl (iN7 _ (List.mem_of_getElem? (i := 13) rfl)) rfl (ty := .array .int) (by decide) rfl hI rfl (fun _ => ⟨rfl, rfl⟩) rfl (by decide) rfl ?_
  refine n_aload_n B 38 rfl 0 0 rfl rfl ?_
  refine n_bipush (48) B 39 rfl (by decide) ?_
  refine n_newaI 48 10 (.inr (7, [.int 0, .ref 1, .ref 2, .ref 3, .ref 4, .int 0, .int 0, .ref 5, .ref 6, .ref 7, .ref 8, .ref 9, .null, .null, .null, .int 0, .int 0, .int 0, .int 0, .int 0, .int 0, .int 0, .null]) :: (([] : List va_E) ++ [.inl (cI, 235, .inl (fun _ => 0))] ++ [.inl (cI, 470, .inl (fun _ => 0))] ++ [.inl (cZ, 2, .inl (fun _ => 0))] ++ [.inl (cI, 235, .inl (fun _ => 0))] ++ [.inl (cI, 6, .inl (fun _ => 0))] ++ [.inl (cI, 6, .inl (fun _ => 0))] ++ [.inl (cI, 6, .inl (fun _ => 0))] ++ [.inl (cI, 6, .inl (fun _ => 0))] ++ [.inl (cI, 6, .inl (fun _ => 0))] ++ [.inl (cI, 48, .inl (fun _ => 0))])) 11 10 1020 hR0 hL B 40 rfl (iN7 _ (List.mem_of_getElem? (i := 3) rfl)) ⟨by decide, by decide, by decide⟩ ⟨rfl, rfl⟩ rfl ⟨rfl, rfl, Nat.le_of_ble_eq_true rfl, Nat.le_of_ble_eq_true rfl⟩ ?_
  refine n_putF 7 12 0 (.inr (7, [.int 0, .ref 1, .ref 2, .ref 3, .ref 4, .int 0, .int 0, .ref 5, .ref 6, .ref 7, .ref 8, .ref 9, .ref 10, .null, .null, .int 0, .int 0, .int 0, .int 0, .int 0, .int 0, .int 0, .null]) :: (([] : List va_E) ++ [.inl (cI, 235, .inl (fun _ => 0))] ++ [.inl (cI, 470, .inl (fun _ => 0))] ++ [.inl (cZ, 2, .inl (fun _ => 0))] ++ [.inl (cI, 235, .inl (fun _ => 0))] ++ [.inl (cI, 6, .inl (fun _ => 0))] ++ [.inl (cI, 6, .inl (fun _ => 0))] ++ [.inl (cI, 6, .inl (fun _ => 0))] ++ [.inl (cI, 6, .inl (fun _ => 0))] ++ [.inl (cI, 6, .inl (fun _ => 0))] ++ [.inl (cI, 48, .inl (fun _ => 0))])) B 41 rfl (iN7 _ (List.mem_of_getElem? (i := 14) rfl)) rfl (ty := .array .int) (by decide) rfl hI rfl (fun _ => ⟨rfl, rfl⟩) rfl (by decide) rfl ?_
  refine n_aload_n B 42 rfl 0 0 rfl rfl ?_
  refine n_bipush (7) B 43 rfl (by decide) ?_
  refine n_newaI 7 11 (.inr (7, [.int 0, .ref 1, .ref 2, .ref 3, .ref 4, .int 0, .int 0, .ref 5, .ref 6, .ref 7, .ref 8, .ref 9, .ref 10, .null, .null, .int 0, .int 0, .int 0, .int 0, .int 0, .int 0, .int 0, .null]) :: (([] : List va_E) ++ [.inl (cI, 235, .inl (fun _ => 0))] ++ [.inl (cI, 470, .inl (fun _ => 0))] ++ [.inl (cZ, 2, .inl (fun _ => 0))] ++ [.inl (cI, 235, .inl (fun _ => 0))] ++ [.inl (cI, 6, .inl (fun _ => 0))] ++ [.inl (cI, 6, .inl (fun _ => 0))] ++ [.inl (cI, 6, .inl (fun _ => 0))] ++ [.inl (cI, 6, .inl (fun _ => 0))] ++ [.inl (cI, 6, .inl (fun _ => 0))] ++ [.inl (cI, 48, .inl (fun _ => 0))] ++ [.inl (cI, 7, .inl (fun _ => 0))])) 12 11 1027 hR0 hL B 44 rfl (iN7 _ (List.mem_of_getElem? (i := 3) rfl)) ⟨by decide, by decide, by decide⟩ ⟨rfl, rfl⟩ rfl ⟨rfl, rfl, Nat.le_of_ble_eq_true rfl, Nat.le_of_ble_eq_true rfl⟩ ?_
  refine n_putF 7 13 0 (.inr (7, [.int 0, .ref 1, .ref 2, .ref 3, .ref 4, .int 0, .int 0, .ref 5, .ref 6, .ref 7, .ref 8, .ref 9, .ref 10, .ref 11, .null, .int 0, .int 0, .int 0, .int 0, .int 0, .int 0, .int 0, .null]) :: (([] : List va_E) ++ [.inl (cI, 235, .inl (fun _ => 0))] ++ [.inl (cI, 470, .inl (fun _ => 0))] ++ [.inl (cZ, 2, .inl (fun _ => 0))] ++ [.inl (cI, 235, .inl (fun _ => 0))] ++ [.inl (cI, 6, .inl (fun _ => 0))] ++ [.inl (cI, 6, .inl (fun _ => 0))] ++ [.inl (cI, 6, .inl (fun _ => 0))] ++ [.inl (cI, 6, .inl (fun _ => 0))] ++ [.inl (cI, 6, .inl (fun _ => 0))] ++ [.inl (cI, 48, .inl (fun _ => 0))] ++ [.inl (cI, 7, .inl (fun _ => 0))])) B 45 rfl (iN7 _ (List.mem_of_getElem? (i := 15) rfl)) rfl (ty := .array .int) (by decide) rfl hI rfl (fun _ => ⟨rfl, rfl⟩) rfl (by decide) rfl ?_
  refine n_aload_n B 46 rfl 0 0 rfl rfl ?_
  refine n_sipush (500) B 47 rfl (by decide) ?_
  refine n_newaI 500 12 (.inr (7, [.int 0, .ref 1, .ref 2, .ref 3, .ref 4, .int 0, .int 0, .ref 5, .ref 6, .ref 7, .ref 8, .ref 9, .ref 10, .ref 11, .null, .int 0, .int 0, .int 0, .int 0, .int 0, .int 0, .int 0, .null]) :: (([] : List va_E) ++ [.inl (cI, 235, .inl (fun _ => 0))] ++ [.inl (cI, 470, .inl (fun _ => 0))] ++ [.inl (cZ, 2, .inl (fun _ => 0))] ++ [.inl (cI, 235, .inl (fun _ => 0))] ++ [.inl (cI, 6, .inl (fun _ => 0))] ++ [.inl (cI, 6, .inl (fun _ => 0))] ++ [.inl (cI, 6, .inl (fun _ => 0))] ++ [.inl (cI, 6, .inl (fun _ => 0))] ++ [.inl (cI, 6, .inl (fun _ => 0))] ++ [.inl (cI, 48, .inl (fun _ => 0))] ++ [.inl (cI, 7, .inl (fun _ => 0))] ++ [.inl (cI, 500, .inl (fun _ => 0))])) 13 12 1527 hR0 hL B 48 rfl (iN7 _ (List.mem_of_getElem? (i := 3) rfl)) ⟨by decide, by decide, by decide⟩ ⟨rfl, rfl⟩ rfl ⟨rfl, rfl, Nat.le_of_ble_eq_true rfl, Nat.le_of_ble_eq_true rfl⟩ ?_
  refine n_putF 7 14 0 (.inr (7, [.int 0, .ref 1, .ref 2, .ref 3, .ref 4, .int 0, .int 0, .ref 5, .ref 6, .ref 7, .ref 8, .ref 9, .ref 10, .ref 11, .ref 12, .int 0, .int 0, .int 0, .int 0, .int 0, .int 0, .int 0, .null]) :: (([] : List va_E) ++ [.inl (cI, 235, .inl (fun _ => 0))] ++ [.inl (cI, 470, .inl (fun _ => 0))] ++ [.inl (cZ, 2, .inl (fun _ => 0))] ++ [.inl (cI, 235, .inl (fun _ => 0))] ++ [.inl (cI, 6, .inl (fun _ => 0))] ++ [.inl (cI, 6, .inl (fun _ => 0))] ++ [.inl (cI, 6, .inl (fun _ => 0))] ++ [.inl (cI, 6, .inl (fun _ => 0))] ++ [.inl (cI, 6, .inl (fun _ => 0))] ++ [.inl (cI, 48, .inl (fun _ => 0))] ++ [.inl (cI, 7, .inl (fun _ => 0))] ++ [.inl (cI, 500, .inl (fun _ => 0))])) B 49 rfl (iN7 _ (List.mem_of_getElem? (i := 16) rfl)) rfl (ty := .array .int) (by decide) rfl hI rfl (fun _ => ⟨rfl, rfl⟩) rfl (by decide) rfl ?_
  refine n_aload_n B 50 rfl 0 0 rfl rfl ?_
  refine n_bipush (6) B 51 rfl (by decide) ?_
  refine n_newaI 6 13 (.inr (7, [.int 0, .ref 1, .ref 2, .ref 3, .ref 4, .int 0, .int 0, .ref 5, .ref 6, .ref 7, .ref 8, .ref 9, .ref 10, .ref 11, .ref 12, .int 0, .int 0, .int 0, .int 0, .int 0, .int 0, .int 0, .null]) :: (([] : List va_E) ++ [.inl (cI, 235, .inl (fun _ => 0))] ++ [.inl (cI, 470, .inl (fun _ => 0))] ++ [.inl (cZ, 2, .inl (fun _ => 0))] ++ [.inl (cI, 235, .inl (fun _ => 0))] ++ [.inl (cI, 6, .inl (fun _ => 0))] ++ [.inl (cI, 6, .inl (fun _ => 0))] ++ [.inl (cI, 6, .inl (fun _ => 0))] ++ [.inl (cI, 6, .inl (fun _ => 0))] ++ [.inl (cI, 6, .inl (fun _ => 0))] ++ [.inl (cI, 48, .inl (fun _ => 0))] ++ [.inl (cI, 7, .inl (fun _ => 0))] ++ [.inl (cI, 500, .inl (fun _ => 0))] ++ [.inl (cI, 6, .inl (fun _ => 0))])) 14 13 1533 hR0 hL B 52 rfl (iN7 _ (List.mem_of_getElem? (i := 3) rfl)) ⟨by decide, by decide, by decide⟩ ⟨rfl, rfl⟩ rfl ⟨rfl, rfl, Nat.le_of_ble_eq_true rfl, Nat.le_of_ble_eq_true rfl⟩ ?_
  refine n_putF 7 22 0 (.inr (7, [.int 0, .ref 1, .ref 2, .ref 3, .ref 4, .int 0, .int 0, .ref 5, .ref 6, .ref 7, .ref 8, .ref 9, .ref 10, .ref 11, .ref 12, .int 0, .int 0, .int 0, .int 0, .int 0, .int 0, .int 0, .ref 13]) :: (([] : List va_E) ++ [.inl (cI, 235, .inl (fun _ => 0))] ++ [.inl (cI, 470, .inl (fun _ => 0))] ++ [.inl (cZ, 2, .inl (fun _ => 0))] ++ [.inl (cI, 235, .inl (fun _ => 0))] ++ [.inl (cI, 6, .inl (fun _ => 0))] ++ [.inl (cI, 6, .inl (fun _ => 0))] ++ [.inl (cI, 6, .inl (fun _ => 0))] ++ [.inl (cI, 6, .inl (fun _ => 0))] ++ [.inl (cI, 6, .inl (fun _ => 0))] ++ [.inl (cI, 48, .inl (fun _ => 0))] ++ [.inl (cI, 7, .inl (fun _ => 0))] ++ [.inl (cI, 500, .inl (fun _ => 0))] ++ [.inl (cI, 6, .inl (fun _ => 0))])) B 53 rfl (iN7 _ (List.mem_of_getElem? (i := 17) rfl)) rfl (ty := .array .int) (by decide) rfl hI rfl (fun _ => ⟨rfl, rfl⟩) rfl (by decide) rfl ?_
  refine n_aload_n B 54 rfl 0 0 rfl rfl ?_
  refine n_get 7 1 0 B 55 rfl (iN7 _ (List.mem_of_getElem? (i := 4) rfl)) rfl rfl rfl ?_
  refine n_iconst (0) B 56 rfl (by decide) ?_
  refine n_iconst (1) B 57 rfl (by decide) ?_
  refine n_iast (R := rmN7) 1 (.inr (7, [.int 0, .ref 1, .ref 2, .ref 3, .ref 4, .int 0, .int 0, .ref 5, .ref 6, .ref 7, .ref 8, .ref 9, .ref 10, .ref 11, .ref 12, .int 0, .int 0, .int 0, .int 0, .int 0, .int 0, .int 0, .ref 13]) :: (([] : List va_E) ++ [.inl (cI, 235, .inl (upd (fun _ => 0) 0 (1)))] ++ [.inl (cI, 470, .inl (fun _ => 0))] ++ [.inl (cZ, 2, .inl (fun _ => 0))] ++ [.inl (cI, 235, .inl (fun _ => 0))] ++ [.inl (cI, 6, .inl (fun _ => 0))] ++ [.inl (cI, 6, .inl (fun _ => 0))] ++ [.inl (cI, 6, .inl (fun _ => 0))] ++ [.inl (cI, 6, .inl (fun _ => 0))] ++ [.inl (cI, 6, .inl (fun _ => 0))] ++ [.inl (cI, 48, .inl (fun _ => 0))] ++ [.inl (cI, 7, .inl (fun _ => 0))] ++ [.inl (cI, 500, .inl (fun _ => 0))] ++ [.inl (cI, 6, .inl (fun _ => 0))])) hL B 58 rfl rfl (by unfold vp_in; decide) rfl ?_
  refine n_aload_n B 59 rfl 0 0 rfl rfl ?_
  refine n_get 7 1 0 B 60 rfl (iN7 _ (List.mem_of_getElem? (i := 4) rfl)) rfl rfl rfl ?_
  refine n_iconst (2) B 61 rfl (by decide) ?_
  refine n_sipush (9999) B 62 rfl (by decide) ?_
  refine n_iast (R := rmN7) 1 (.inr (7, [.int 0, .ref 1, .ref 2, .ref 3, .ref 4, .int 0, .int 0, .ref 5, .ref 6, .ref 7, .ref 8, .ref 9, .ref 10, .ref 11, .ref 12, .int 0, .int 0, .int 0, .int 0, .int 0, .int 0, .int 0, .ref 13]) :: (([] : List va_E) ++ [.inl (cI, 235, .inl (upd (upd (fun _ => 0) 0 (1)) 2 (9999)))] ++ [.inl (cI, 470, .inl (fun _ => 0))] ++ [.inl (cZ, 2, .inl (fun _ => 0))] ++ [.inl (cI, 235, .inl (fun _ => 0))] ++ [.inl (cI, 6, .inl (fun _ => 0))] ++ [.inl (cI, 6, .inl (fun _ => 0))] ++ [.inl (cI, 6, .inl (fun _ => 0))] ++ [.inl (cI, 6, .inl (fun _ => 0))] ++ [.inl (cI, 6, .inl (fun _ => 0))] ++ [.inl (cI, 48, .inl (fun _ => 0))] ++ [.inl (cI, 7, .inl (fun _ => 0))] ++ [.inl (cI, 500, .inl (fun _ => 0))] ++ [.inl (cI, 6, .inl (fun _ => 0))])) hL B 63 rfl rfl (by unfold vp_in; decide) rfl ?_
  refine n_aload_n B 64 rfl 0 0 rfl rfl ?_
  refine n_get 7 1 0 B 65 rfl (iN7 _ (List.mem_of_getElem? (i := 4) rfl)) rfl rfl rfl ?_
  refine n_bipush (7) B 66 rfl (by decide) ?_
  refine n_iconst (-1) B 67 rfl (by decide) ?_
  refine n_iast (R := rmN7) 1 (.inr (7, [.int 0, .ref 1, .ref 2, .ref 3, .ref 4, .int 0, .int 0, .ref 5, .ref 6, .ref 7, .ref 8, .ref 9, .ref 10, .ref 11, .ref 12, .int 0, .int 0, .int 0, .int 0, .int 0, .int 0, .int 0, .ref 13]) :: (([] : List va_E) ++ [.inl (cI, 235, .inl (upd (upd (upd (fun _ => 0) 0 (1)) 2 (9999)) 7 (-1)))] ++ [.inl (cI, 470, .inl (fun _ => 0))] ++ [.inl (cZ, 2, .inl (fun _ => 0))] ++ [.inl (cI, 235, .inl (fun _ => 0))] ++ [.inl (cI, 6, .inl (fun _ => 0))] ++ [.inl (cI, 6, .inl (fun _ => 0))] ++ [.inl (cI, 6, .inl (fun _ => 0))] ++ [.inl (cI, 6, .inl (fun _ => 0))] ++ [.inl (cI, 6, .inl (fun _ => 0))] ++ [.inl (cI, 48, .inl (fun _ => 0))] ++ [.inl (cI, 7, .inl (fun _ => 0))] ++ [.inl (cI, 500, .inl (fun _ => 0))] ++ [.inl (cI, 6, .inl (fun _ => 0))])) hL B 68 rfl rfl (by unfold vp_in; decide) rfl ?_
  exact n_vret B 69 rfl hQ ⟨rfl, rfl, rfl⟩
end
