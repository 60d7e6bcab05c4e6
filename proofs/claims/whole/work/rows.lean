section
-- ===== PART A: goes FIRST, ahead of the names: the tables' words, and 'selects' of the private methods out of them =====
/-- a private method of a class that the tables say can be made, by its rows of tables_1 -/
def lw_okq (q : MethodName × Nat) : Prop := (q.1.cls ≠ "java/lang/invoke/MethodHandle" ∧ q.1.cls ≠ "java/lang/invoke/VarHandle") ∧ Cond.instantiable q.1.cls q.2 ∈ tables_1 ∧ Cond.privateMethod q.1 ∈ tables_1 ∧ Cond.instanceMethod q.1 ∈ tables_1
theorem lw_p0 : lw_okq (⟨"ZoneCapacity$Teller", "advance", "()V"⟩, 8) := ⟨⟨by decide +kernel, by decide +kernel⟩, List.mem_of_getElem? (i := 197) (by decide +kernel), List.mem_of_getElem? (i := 313) (by decide +kernel), List.mem_of_getElem? (i := 314) (by decide +kernel)⟩
theorem lw_p1 : lw_okq (⟨"ZoneCapacity$Teller", "tellStatement", "()Z"⟩, 8) := ⟨⟨by decide +kernel, by decide +kernel⟩, List.mem_of_getElem? (i := 197) (by decide +kernel), List.mem_of_getElem? (i := 329) (by decide +kernel), List.mem_of_getElem? (i := 330) (by decide +kernel)⟩
theorem lw_p2 : lw_okq (⟨"ZoneCapacity$Teller", "isWord", "(Ljava/lang/String;)Z"⟩, 8) := ⟨⟨by decide +kernel, by decide +kernel⟩, List.mem_of_getElem? (i := 197) (by decide +kernel), List.mem_of_getElem? (i := 334) (by decide +kernel), List.mem_of_getElem? (i := 335) (by decide +kernel)⟩
theorem lw_p3 : lw_okq (⟨"ZoneCapacity$Teller", "tellZone", "()Z"⟩, 8) := ⟨⟨by decide +kernel, by decide +kernel⟩, List.mem_of_getElem? (i := 197) (by decide +kernel), List.mem_of_getElem? (i := 386) (by decide +kernel), List.mem_of_getElem? (i := 387) (by decide +kernel)⟩
theorem lw_p4 : lw_okq (⟨"ZoneCapacity$Teller", "blame", "(II)Z"⟩, 8) := ⟨⟨by decide +kernel, by decide +kernel⟩, List.mem_of_getElem? (i := 197) (by decide +kernel), List.mem_of_getElem? (i := 390) (by decide +kernel), List.mem_of_getElem? (i := 391) (by decide +kernel)⟩
theorem lw_p5 : lw_okq (⟨"ZoneCapacity$Teller", "takeNumber", "(II)Z"⟩, 8) := ⟨⟨by decide +kernel, by decide +kernel⟩, List.mem_of_getElem? (i := 197) (by decide +kernel), List.mem_of_getElem? (i := 394) (by decide +kernel), List.mem_of_getElem? (i := 395) (by decide +kernel)⟩
theorem lw_p6 : lw_okq (⟨"ZoneCapacity$Teller", "takeEnd", "()Z"⟩, 8) := ⟨⟨by decide +kernel, by decide +kernel⟩, List.mem_of_getElem? (i := 197) (by decide +kernel), List.mem_of_getElem? (i := 403) (by decide +kernel), List.mem_of_getElem? (i := 404) (by decide +kernel)⟩
theorem lw_p7 : lw_okq (⟨"ZoneCapacity$Teller", "tellCurve", "()Z"⟩, 8) := ⟨⟨by decide +kernel, by decide +kernel⟩, List.mem_of_getElem? (i := 197) (by decide +kernel), List.mem_of_getElem? (i := 408) (by decide +kernel), List.mem_of_getElem? (i := 409) (by decide +kernel)⟩
theorem lw_p8 : lw_okq (⟨"ZoneCapacity$Teller", "tellResource", "()Z"⟩, 8) := ⟨⟨by decide +kernel, by decide +kernel⟩, List.mem_of_getElem? (i := 197) (by decide +kernel), List.mem_of_getElem? (i := 430) (by decide +kernel), List.mem_of_getElem? (i := 431) (by decide +kernel)⟩
theorem lw_p9 : lw_okq (⟨"ZoneCapacity$Teller", "takeWord", "(Ljava/lang/String;)Z"⟩, 8) := ⟨⟨by decide +kernel, by decide +kernel⟩, List.mem_of_getElem? (i := 197) (by decide +kernel), List.mem_of_getElem? (i := 435) (by decide +kernel), List.mem_of_getElem? (i := 436) (by decide +kernel)⟩
theorem lw_p10 : lw_okq (⟨"ZoneCapacity$Teller", "tellOffer", "()Z"⟩, 8) := ⟨⟨by decide +kernel, by decide +kernel⟩, List.mem_of_getElem? (i := 197) (by decide +kernel), List.mem_of_getElem? (i := 446) (by decide +kernel), List.mem_of_getElem? (i := 447) (by decide +kernel)⟩
theorem lw_p11 : lw_okq (⟨"ZoneCapacity$Teller", "tellFloor", "()Z"⟩, 8) := ⟨⟨by decide +kernel, by decide +kernel⟩, List.mem_of_getElem? (i := 197) (by decide +kernel), List.mem_of_getElem? (i := 468) (by decide +kernel), List.mem_of_getElem? (i := 469) (by decide +kernel)⟩
theorem lw_p12 : lw_okq (⟨"ZoneCapacity$Teller", "tellCeiling", "()Z"⟩, 8) := ⟨⟨by decide +kernel, by decide +kernel⟩, List.mem_of_getElem? (i := 197) (by decide +kernel), List.mem_of_getElem? (i := 474) (by decide +kernel), List.mem_of_getElem? (i := 475) (by decide +kernel)⟩
theorem lw_p13 : lw_okq (⟨"ZoneCapacity$Teller", "tellLimits", "()Z"⟩, 8) := ⟨⟨by decide +kernel, by decide +kernel⟩, List.mem_of_getElem? (i := 197) (by decide +kernel), List.mem_of_getElem? (i := 479) (by decide +kernel), List.mem_of_getElem? (i := 480) (by decide +kernel)⟩
theorem lw_p14 : lw_okq (⟨"ZoneCapacity$Auction", "readLines", "()V"⟩, 12) := ⟨⟨by decide +kernel, by decide +kernel⟩, List.mem_of_getElem? (i := 27) (by decide +kernel), List.mem_of_getElem? (i := 613) (by decide +kernel), List.mem_of_getElem? (i := 614) (by decide +kernel)⟩
theorem lw_p15 : lw_okq (⟨"ZoneCapacity$Auction", "fillLevels", "(II[I)V"⟩, 12) := ⟨⟨by decide +kernel, by decide +kernel⟩, List.mem_of_getElem? (i := 27) (by decide +kernel), List.mem_of_getElem? (i := 620) (by decide +kernel), List.mem_of_getElem? (i := 621) (by decide +kernel)⟩
def lw_privs_1 : List (MethodName × Nat) := [(⟨"ZoneCapacity$Teller", "advance", "()V"⟩, 8), (⟨"ZoneCapacity$Teller", "tellStatement", "()Z"⟩, 8), (⟨"ZoneCapacity$Teller", "isWord", "(Ljava/lang/String;)Z"⟩, 8), (⟨"ZoneCapacity$Teller", "tellZone", "()Z"⟩, 8), (⟨"ZoneCapacity$Teller", "blame", "(II)Z"⟩, 8), (⟨"ZoneCapacity$Teller", "takeNumber", "(II)Z"⟩, 8), (⟨"ZoneCapacity$Teller", "takeEnd", "()Z"⟩, 8), (⟨"ZoneCapacity$Teller", "tellCurve", "()Z"⟩, 8), (⟨"ZoneCapacity$Teller", "tellResource", "()Z"⟩, 8), (⟨"ZoneCapacity$Teller", "takeWord", "(Ljava/lang/String;)Z"⟩, 8), (⟨"ZoneCapacity$Teller", "tellOffer", "()Z"⟩, 8), (⟨"ZoneCapacity$Teller", "tellFloor", "()Z"⟩, 8), (⟨"ZoneCapacity$Teller", "tellCeiling", "()Z"⟩, 8), (⟨"ZoneCapacity$Teller", "tellLimits", "()Z"⟩, 8), (⟨"ZoneCapacity$Auction", "readLines", "()V"⟩, 12), (⟨"ZoneCapacity$Auction", "fillLevels", "(II[I)V"⟩, 12)]
theorem lw_r1 : ∀ q ∈ lw_privs_1, lw_okq q := List.forall_mem_cons.mpr ⟨lw_p0, List.forall_mem_cons.mpr ⟨lw_p1, List.forall_mem_cons.mpr ⟨lw_p2, List.forall_mem_cons.mpr ⟨lw_p3, List.forall_mem_cons.mpr ⟨lw_p4, List.forall_mem_cons.mpr ⟨lw_p5, List.forall_mem_cons.mpr ⟨lw_p6, List.forall_mem_cons.mpr ⟨lw_p7, List.forall_mem_cons.mpr ⟨lw_p8, List.forall_mem_cons.mpr ⟨lw_p9, List.forall_mem_cons.mpr ⟨lw_p10, List.forall_mem_cons.mpr ⟨lw_p11, List.forall_mem_cons.mpr ⟨lw_p12, List.forall_mem_cons.mpr ⟨lw_p13, List.forall_mem_cons.mpr ⟨lw_p14, List.forall_mem_cons.mpr ⟨lw_p15, fun _ h => absurd h List.not_mem_nil⟩⟩⟩⟩⟩⟩⟩⟩⟩⟩⟩⟩⟩⟩⟩⟩
theorem lw_p16 : lw_okq (⟨"ZoneCapacity$Auction", "unitsBelow", "(II)I"⟩, 12) := ⟨⟨by decide +kernel, by decide +kernel⟩, List.mem_of_getElem? (i := 27) (by decide +kernel), List.mem_of_getElem? (i := 626) (by decide +kernel), List.mem_of_getElem? (i := 627) (by decide +kernel)⟩
theorem lw_p17 : lw_okq (⟨"ZoneCapacity$Auction", "readTop", "()V"⟩, 12) := ⟨⟨by decide +kernel, by decide +kernel⟩, List.mem_of_getElem? (i := 27) (by decide +kernel), List.mem_of_getElem? (i := 644) (by decide +kernel), List.mem_of_getElem? (i := 645) (by decide +kernel)⟩
theorem lw_p18 : lw_okq (⟨"ZoneCapacity$Auction", "leastPrice", "(II)I"⟩, 12) := ⟨⟨by decide +kernel, by decide +kernel⟩, List.mem_of_getElem? (i := 27) (by decide +kernel), List.mem_of_getElem? (i := 653) (by decide +kernel), List.mem_of_getElem? (i := 654) (by decide +kernel)⟩
theorem lw_p19 : lw_okq (⟨"ZoneCapacity$Auction", "part", "(I)V"⟩, 12) := ⟨⟨by decide +kernel, by decide +kernel⟩, List.mem_of_getElem? (i := 27) (by decide +kernel), List.mem_of_getElem? (i := 657) (by decide +kernel), List.mem_of_getElem? (i := 658) (by decide +kernel)⟩
theorem lw_p20 : lw_okq (⟨"ZoneCapacity$Auction", "partToLines", "(III)I"⟩, 12) := ⟨⟨by decide +kernel, by decide +kernel⟩, List.mem_of_getElem? (i := 27) (by decide +kernel), List.mem_of_getElem? (i := 661) (by decide +kernel), List.mem_of_getElem? (i := 662) (by decide +kernel)⟩
theorem lw_p21 : lw_okq (⟨"ZoneCapacity$Auction", "partToInner", "(III)I"⟩, 12) := ⟨⟨by decide +kernel, by decide +kernel⟩, List.mem_of_getElem? (i := 27) (by decide +kernel), List.mem_of_getElem? (i := 666) (by decide +kernel), List.mem_of_getElem? (i := 667) (by decide +kernel)⟩
theorem lw_p22 : lw_okq (⟨"ZoneCapacity", "isNarrow", "(II)Z"⟩, 7) := ⟨⟨by decide +kernel, by decide +kernel⟩, List.mem_of_getElem? (i := 19) (by decide +kernel), List.mem_of_getElem? (i := 759) (by decide +kernel), List.mem_of_getElem? (i := 760) (by decide +kernel)⟩
theorem lw_p23 : lw_okq (⟨"ZoneCapacity", "gainAt", "(III)J"⟩, 7) := ⟨⟨by decide +kernel, by decide +kernel⟩, List.mem_of_getElem? (i := 19) (by decide +kernel), List.mem_of_getElem? (i := 775) (by decide +kernel), List.mem_of_getElem? (i := 776) (by decide +kernel)⟩
theorem lw_p24 : lw_okq (⟨"java/lang/Throwable", "fillInStackTrace", "(I)Ljava/lang/Throwable;"⟩, 6) := ⟨⟨by decide +kernel, by decide +kernel⟩, List.mem_of_getElem? (i := 827) (by decide +kernel), List.mem_of_getElem? (i := 825) (by decide +kernel), List.mem_of_getElem? (i := 826) (by decide +kernel)⟩
theorem lw_p25 : lw_okq (⟨"ZoneCapacityModel", "isZone", "(I)Z"⟩, 23) := ⟨⟨by decide +kernel, by decide +kernel⟩, List.mem_of_getElem? (i := 863) (by decide +kernel), List.mem_of_getElem? (i := 948) (by decide +kernel), List.mem_of_getElem? (i := 949) (by decide +kernel)⟩
theorem lw_p26 : lw_okq (⟨"ZoneCapacityModel", "ofZone", "(II)I"⟩, 23) := ⟨⟨by decide +kernel, by decide +kernel⟩, List.mem_of_getElem? (i := 863) (by decide +kernel), List.mem_of_getElem? (i := 962) (by decide +kernel), List.mem_of_getElem? (i := 963) (by decide +kernel)⟩
theorem lw_p27 : lw_okq (⟨"ZoneCapacityModel", "canPoint", "(III)Z"⟩, 23) := ⟨⟨by decide +kernel, by decide +kernel⟩, List.mem_of_getElem? (i := 863) (by decide +kernel), List.mem_of_getElem? (i := 966) (by decide +kernel), List.mem_of_getElem? (i := 967) (by decide +kernel)⟩
theorem lw_p28 : lw_okq (⟨"ZoneCapacityModel", "pointUnits", "(II)I"⟩, 23) := ⟨⟨by decide +kernel, by decide +kernel⟩, List.mem_of_getElem? (i := 863) (by decide +kernel), List.mem_of_getElem? (i := 970) (by decide +kernel), List.mem_of_getElem? (i := 971) (by decide +kernel)⟩
theorem lw_p29 : lw_okq (⟨"ZoneCapacityModel", "pointPrice", "(II)I"⟩, 23) := ⟨⟨by decide +kernel, by decide +kernel⟩, List.mem_of_getElem? (i := 863) (by decide +kernel), List.mem_of_getElem? (i := 974) (by decide +kernel), List.mem_of_getElem? (i := 975) (by decide +kernel)⟩
theorem lw_p30 : lw_okq (⟨"ZoneCapacityModel", "addPoint", "(III)V"⟩, 23) := ⟨⟨by decide +kernel, by decide +kernel⟩, List.mem_of_getElem? (i := 863) (by decide +kernel), List.mem_of_getElem? (i := 978) (by decide +kernel), List.mem_of_getElem? (i := 979) (by decide +kernel)⟩
theorem lw_p31 : lw_okq (⟨"ZoneCapacityModel", "addResource", "(IIIIII)I"⟩, 23) := ⟨⟨by decide +kernel, by decide +kernel⟩, List.mem_of_getElem? (i := 863) (by decide +kernel), List.mem_of_getElem? (i := 986) (by decide +kernel), List.mem_of_getElem? (i := 987) (by decide +kernel)⟩
def lw_privs_2 : List (MethodName × Nat) := [(⟨"ZoneCapacity$Auction", "unitsBelow", "(II)I"⟩, 12), (⟨"ZoneCapacity$Auction", "readTop", "()V"⟩, 12), (⟨"ZoneCapacity$Auction", "leastPrice", "(II)I"⟩, 12), (⟨"ZoneCapacity$Auction", "part", "(I)V"⟩, 12), (⟨"ZoneCapacity$Auction", "partToLines", "(III)I"⟩, 12), (⟨"ZoneCapacity$Auction", "partToInner", "(III)I"⟩, 12), (⟨"ZoneCapacity", "isNarrow", "(II)Z"⟩, 7), (⟨"ZoneCapacity", "gainAt", "(III)J"⟩, 7), (⟨"java/lang/Throwable", "fillInStackTrace", "(I)Ljava/lang/Throwable;"⟩, 6), (⟨"ZoneCapacityModel", "isZone", "(I)Z"⟩, 23), (⟨"ZoneCapacityModel", "ofZone", "(II)I"⟩, 23), (⟨"ZoneCapacityModel", "canPoint", "(III)Z"⟩, 23), (⟨"ZoneCapacityModel", "pointUnits", "(II)I"⟩, 23), (⟨"ZoneCapacityModel", "pointPrice", "(II)I"⟩, 23), (⟨"ZoneCapacityModel", "addPoint", "(III)V"⟩, 23), (⟨"ZoneCapacityModel", "addResource", "(IIIIII)I"⟩, 23)]
theorem lw_r2 : ∀ q ∈ lw_privs_2, lw_okq q := List.forall_mem_cons.mpr ⟨lw_p16, List.forall_mem_cons.mpr ⟨lw_p17, List.forall_mem_cons.mpr ⟨lw_p18, List.forall_mem_cons.mpr ⟨lw_p19, List.forall_mem_cons.mpr ⟨lw_p20, List.forall_mem_cons.mpr ⟨lw_p21, List.forall_mem_cons.mpr ⟨lw_p22, List.forall_mem_cons.mpr ⟨lw_p23, List.forall_mem_cons.mpr ⟨lw_p24, List.forall_mem_cons.mpr ⟨lw_p25, List.forall_mem_cons.mpr ⟨lw_p26, List.forall_mem_cons.mpr ⟨lw_p27, List.forall_mem_cons.mpr ⟨lw_p28, List.forall_mem_cons.mpr ⟨lw_p29, List.forall_mem_cons.mpr ⟨lw_p30, List.forall_mem_cons.mpr ⟨lw_p31, fun _ h => absurd h List.not_mem_nil⟩⟩⟩⟩⟩⟩⟩⟩⟩⟩⟩⟩⟩⟩⟩⟩
theorem lw_p32 : lw_okq (⟨"ZoneCapacityModel", "isResource", "(I)Z"⟩, 23) := ⟨⟨by decide +kernel, by decide +kernel⟩, List.mem_of_getElem? (i := 863) (by decide +kernel), List.mem_of_getElem? (i := 994) (by decide +kernel), List.mem_of_getElem? (i := 995) (by decide +kernel)⟩
theorem lw_p33 : lw_okq (⟨"ZoneCapacityModel", "ofResource", "(II)I"⟩, 23) := ⟨⟨by decide +kernel, by decide +kernel⟩, List.mem_of_getElem? (i := 863) (by decide +kernel), List.mem_of_getElem? (i := 998) (by decide +kernel), List.mem_of_getElem? (i := 999) (by decide +kernel)⟩
theorem lw_p34 : lw_okq (⟨"ZoneCapacityModel", "stepped", "(I)I"⟩, 23) := ⟨⟨by decide +kernel, by decide +kernel⟩, List.mem_of_getElem? (i := 863) (by decide +kernel), List.mem_of_getElem? (i := 1002) (by decide +kernel), List.mem_of_getElem? (i := 1003) (by decide +kernel)⟩
theorem lw_p35 : lw_okq (⟨"ZoneCapacityModel", "lineUnits", "(II)I"⟩, 23) := ⟨⟨by decide +kernel, by decide +kernel⟩, List.mem_of_getElem? (i := 863) (by decide +kernel), List.mem_of_getElem? (i := 1006) (by decide +kernel), List.mem_of_getElem? (i := 1007) (by decide +kernel)⟩
theorem lw_p36 : lw_okq (⟨"ZoneCapacityModel", "addStep", "(III)V"⟩, 23) := ⟨⟨by decide +kernel, by decide +kernel⟩, List.mem_of_getElem? (i := 863) (by decide +kernel), List.mem_of_getElem? (i := 1010) (by decide +kernel), List.mem_of_getElem? (i := 1011) (by decide +kernel)⟩
theorem lw_p37 : lw_okq (⟨"ZoneCapacityModel", "placeOf", "(III)I"⟩, 23) := ⟨⟨by decide +kernel, by decide +kernel⟩, List.mem_of_getElem? (i := 863) (by decide +kernel), List.mem_of_getElem? (i := 1022) (by decide +kernel), List.mem_of_getElem? (i := 1023) (by decide +kernel)⟩
theorem lw_p38 : lw_okq (⟨"ZoneCapacityModel", "wanted", "(I)I"⟩, 23) := ⟨⟨by decide +kernel, by decide +kernel⟩, List.mem_of_getElem? (i := 863) (by decide +kernel), List.mem_of_getElem? (i := 1042) (by decide +kernel), List.mem_of_getElem? (i := 1043) (by decide +kernel)⟩
theorem lw_p39 : lw_okq (⟨"ZoneCapacityModel", "isLine", "(II)Z"⟩, 23) := ⟨⟨by decide +kernel, by decide +kernel⟩, List.mem_of_getElem? (i := 863) (by decide +kernel), List.mem_of_getElem? (i := 1054) (by decide +kernel), List.mem_of_getElem? (i := 1055) (by decide +kernel)⟩
theorem lw_p40 : lw_okq (⟨"ZoneCapacityModel", "lineIts", "(II)I"⟩, 23) := ⟨⟨by decide +kernel, by decide +kernel⟩, List.mem_of_getElem? (i := 863) (by decide +kernel), List.mem_of_getElem? (i := 1058) (by decide +kernel), List.mem_of_getElem? (i := 1059) (by decide +kernel)⟩
theorem lw_p41 : lw_okq (⟨"ZoneCapacityModel", "worthOf", "(II)I"⟩, 23) := ⟨⟨by decide +kernel, by decide +kernel⟩, List.mem_of_getElem? (i := 863) (by decide +kernel), List.mem_of_getElem? (i := 1066) (by decide +kernel), List.mem_of_getElem? (i := 1067) (by decide +kernel)⟩
theorem lw_p42 : lw_okq (⟨"ZoneCapacityModel", "wantedAt", "(II)I"⟩, 23) := ⟨⟨by decide +kernel, by decide +kernel⟩, List.mem_of_getElem? (i := 863) (by decide +kernel), List.mem_of_getElem? (i := 1074) (by decide +kernel), List.mem_of_getElem? (i := 1075) (by decide +kernel)⟩
theorem lw_p43 : lw_okq (⟨"ZoneCapacityModel", "laysLevels", "(II)V"⟩, 23) := ⟨⟨by decide +kernel, by decide +kernel⟩, List.mem_of_getElem? (i := 863) (by decide +kernel), List.mem_of_getElem? (i := 1083) (by decide +kernel), List.mem_of_getElem? (i := 1084) (by decide +kernel)⟩
theorem lw_p44 : lw_okq (⟨"ZoneCapacityModel", "offered", "(IIZ)I"⟩, 23) := ⟨⟨by decide +kernel, by decide +kernel⟩, List.mem_of_getElem? (i := 863) (by decide +kernel), List.mem_of_getElem? (i := 1087) (by decide +kernel), List.mem_of_getElem? (i := 1088) (by decide +kernel)⟩
theorem lw_p45 : lw_okq (⟨"ZoneCapacityModel", "cut", "(II)I"⟩, 23) := ⟨⟨by decide +kernel, by decide +kernel⟩, List.mem_of_getElem? (i := 863) (by decide +kernel), List.mem_of_getElem? (i := 1091) (by decide +kernel), List.mem_of_getElem? (i := 1092) (by decide +kernel)⟩
theorem lw_p46 : lw_okq (⟨"ZoneCapacityModel", "clearsAll", "()V"⟩, 23) := ⟨⟨by decide +kernel, by decide +kernel⟩, List.mem_of_getElem? (i := 863) (by decide +kernel), List.mem_of_getElem? (i := 1099) (by decide +kernel), List.mem_of_getElem? (i := 1100) (by decide +kernel)⟩
theorem lw_p47 : lw_okq (⟨"ZoneCapacityModel", "clears", "()V"⟩, 23) := ⟨⟨by decide +kernel, by decide +kernel⟩, List.mem_of_getElem? (i := 863) (by decide +kernel), List.mem_of_getElem? (i := 1103) (by decide +kernel), List.mem_of_getElem? (i := 1104) (by decide +kernel)⟩
def lw_privs_3 : List (MethodName × Nat) := [(⟨"ZoneCapacityModel", "isResource", "(I)Z"⟩, 23), (⟨"ZoneCapacityModel", "ofResource", "(II)I"⟩, 23), (⟨"ZoneCapacityModel", "stepped", "(I)I"⟩, 23), (⟨"ZoneCapacityModel", "lineUnits", "(II)I"⟩, 23), (⟨"ZoneCapacityModel", "addStep", "(III)V"⟩, 23), (⟨"ZoneCapacityModel", "placeOf", "(III)I"⟩, 23), (⟨"ZoneCapacityModel", "wanted", "(I)I"⟩, 23), (⟨"ZoneCapacityModel", "isLine", "(II)Z"⟩, 23), (⟨"ZoneCapacityModel", "lineIts", "(II)I"⟩, 23), (⟨"ZoneCapacityModel", "worthOf", "(II)I"⟩, 23), (⟨"ZoneCapacityModel", "wantedAt", "(II)I"⟩, 23), (⟨"ZoneCapacityModel", "laysLevels", "(II)V"⟩, 23), (⟨"ZoneCapacityModel", "offered", "(IIZ)I"⟩, 23), (⟨"ZoneCapacityModel", "cut", "(II)I"⟩, 23), (⟨"ZoneCapacityModel", "clearsAll", "()V"⟩, 23), (⟨"ZoneCapacityModel", "clears", "()V"⟩, 23)]
theorem lw_r3 : ∀ q ∈ lw_privs_3, lw_okq q := List.forall_mem_cons.mpr ⟨lw_p32, List.forall_mem_cons.mpr ⟨lw_p33, List.forall_mem_cons.mpr ⟨lw_p34, List.forall_mem_cons.mpr ⟨lw_p35, List.forall_mem_cons.mpr ⟨lw_p36, List.forall_mem_cons.mpr ⟨lw_p37, List.forall_mem_cons.mpr ⟨lw_p38, List.forall_mem_cons.mpr ⟨lw_p39, List.forall_mem_cons.mpr ⟨lw_p40, List.forall_mem_cons.mpr ⟨lw_p41, List.forall_mem_cons.mpr ⟨lw_p42, List.forall_mem_cons.mpr ⟨lw_p43, List.forall_mem_cons.mpr ⟨lw_p44, List.forall_mem_cons.mpr ⟨lw_p45, List.forall_mem_cons.mpr ⟨lw_p46, List.forall_mem_cons.mpr ⟨lw_p47, fun _ h => absurd h List.not_mem_nil⟩⟩⟩⟩⟩⟩⟩⟩⟩⟩⟩⟩⟩⟩⟩⟩
theorem lw_p48 : lw_okq (⟨"ZoneCapacityModel", "priceOf", "(I)I"⟩, 23) := ⟨⟨by decide +kernel, by decide +kernel⟩, List.mem_of_getElem? (i := 863) (by decide +kernel), List.mem_of_getElem? (i := 1107) (by decide +kernel), List.mem_of_getElem? (i := 1108) (by decide +kernel)⟩
theorem lw_p49 : lw_okq (⟨"ZoneCapacityModel", "leastPrice", "(II)I"⟩, 23) := ⟨⟨by decide +kernel, by decide +kernel⟩, List.mem_of_getElem? (i := 863) (by decide +kernel), List.mem_of_getElem? (i := 1111) (by decide +kernel), List.mem_of_getElem? (i := 1112) (by decide +kernel)⟩
theorem lw_p50 : lw_okq (⟨"ZoneCapacityModel", "takesOwn", "(II)I"⟩, 23) := ⟨⟨by decide +kernel, by decide +kernel⟩, List.mem_of_getElem? (i := 863) (by decide +kernel), List.mem_of_getElem? (i := 1115) (by decide +kernel), List.mem_of_getElem? (i := 1116) (by decide +kernel)⟩
theorem lw_p51 : lw_okq (⟨"ZoneCapacityModel", "takenOf", "(I)I"⟩, 23) := ⟨⟨by decide +kernel, by decide +kernel⟩, List.mem_of_getElem? (i := 863) (by decide +kernel), List.mem_of_getElem? (i := 1131) (by decide +kernel), List.mem_of_getElem? (i := 1132) (by decide +kernel)⟩
theorem lw_p52 : lw_okq (⟨"ZoneCapacityModel", "surplusNow", "()J"⟩, 23) := ⟨⟨by decide +kernel, by decide +kernel⟩, List.mem_of_getElem? (i := 863) (by decide +kernel), List.mem_of_getElem? (i := 1143) (by decide +kernel), List.mem_of_getElem? (i := 1144) (by decide +kernel)⟩
theorem lw_p53 : lw_okq (⟨"ZoneCapacityModel", "paidTo", "(I)J"⟩, 23) := ⟨⟨by decide +kernel, by decide +kernel⟩, List.mem_of_getElem? (i := 863) (by decide +kernel), List.mem_of_getElem? (i := 1156) (by decide +kernel), List.mem_of_getElem? (i := 1157) (by decide +kernel)⟩
theorem lw_p54 : lw_okq (⟨"ZoneCapacityModel", "gainOf", "(III)J"⟩, 23) := ⟨⟨by decide +kernel, by decide +kernel⟩, List.mem_of_getElem? (i := 863) (by decide +kernel), List.mem_of_getElem? (i := 1188) (by decide +kernel), List.mem_of_getElem? (i := 1189) (by decide +kernel)⟩
theorem lw_p55 : lw_okq (⟨"ZoneCapacityModel", "offersAll", "(IZ)V"⟩, 23) := ⟨⟨by decide +kernel, by decide +kernel⟩, List.mem_of_getElem? (i := 863) (by decide +kernel), List.mem_of_getElem? (i := 1192) (by decide +kernel), List.mem_of_getElem? (i := 1193) (by decide +kernel)⟩
theorem lw_p56 : lw_okq (⟨"ZoneCapacityModel", "four", "(I)V"⟩, 23) := ⟨⟨by decide +kernel, by decide +kernel⟩, List.mem_of_getElem? (i := 863) (by decide +kernel), List.mem_of_getElem? (i := 1204) (by decide +kernel), List.mem_of_getElem? (i := 1205) (by decide +kernel)⟩
theorem lw_p57 : lw_okq (⟨"ZoneCapacityModel", "here", "()I"⟩, 23) := ⟨⟨by decide +kernel, by decide +kernel⟩, List.mem_of_getElem? (i := 863) (by decide +kernel), List.mem_of_getElem? (i := 1216) (by decide +kernel), List.mem_of_getElem? (i := 1217) (by decide +kernel)⟩
theorem lw_p58 : lw_okq (⟨"ZoneCapacityModel", "readStatement", "()Z"⟩, 23) := ⟨⟨by decide +kernel, by decide +kernel⟩, List.mem_of_getElem? (i := 863) (by decide +kernel), List.mem_of_getElem? (i := 1220) (by decide +kernel), List.mem_of_getElem? (i := 1221) (by decide +kernel)⟩
theorem lw_p59 : lw_okq (⟨"ZoneCapacityModel", "isWord", "()Z"⟩, 23) := ⟨⟨by decide +kernel, by decide +kernel⟩, List.mem_of_getElem? (i := 863) (by decide +kernel), List.mem_of_getElem? (i := 1224) (by decide +kernel), List.mem_of_getElem? (i := 1225) (by decide +kernel)⟩
theorem lw_p60 : lw_okq (⟨"ZoneCapacityModel", "fails", "(II)Z"⟩, 23) := ⟨⟨by decide +kernel, by decide +kernel⟩, List.mem_of_getElem? (i := 863) (by decide +kernel), List.mem_of_getElem? (i := 1228) (by decide +kernel), List.mem_of_getElem? (i := 1229) (by decide +kernel)⟩
theorem lw_p61 : lw_okq (⟨"ZoneCapacityModel", "readWord", "()J"⟩, 23) := ⟨⟨by decide +kernel, by decide +kernel⟩, List.mem_of_getElem? (i := 863) (by decide +kernel), List.mem_of_getElem? (i := 1232) (by decide +kernel), List.mem_of_getElem? (i := 1233) (by decide +kernel)⟩
theorem lw_p62 : lw_okq (⟨"ZoneCapacityModel", "readZone", "(I)Z"⟩, 23) := ⟨⟨by decide +kernel, by decide +kernel⟩, List.mem_of_getElem? (i := 863) (by decide +kernel), List.mem_of_getElem? (i := 1240) (by decide +kernel), List.mem_of_getElem? (i := 1241) (by decide +kernel)⟩
theorem lw_p63 : lw_okq (⟨"ZoneCapacityModel", "number", "(III)Z"⟩, 23) := ⟨⟨by decide +kernel, by decide +kernel⟩, List.mem_of_getElem? (i := 863) (by decide +kernel), List.mem_of_getElem? (i := 1244) (by decide +kernel), List.mem_of_getElem? (i := 1245) (by decide +kernel)⟩
def lw_privs_4 : List (MethodName × Nat) := [(⟨"ZoneCapacityModel", "priceOf", "(I)I"⟩, 23), (⟨"ZoneCapacityModel", "leastPrice", "(II)I"⟩, 23), (⟨"ZoneCapacityModel", "takesOwn", "(II)I"⟩, 23), (⟨"ZoneCapacityModel", "takenOf", "(I)I"⟩, 23), (⟨"ZoneCapacityModel", "surplusNow", "()J"⟩, 23), (⟨"ZoneCapacityModel", "paidTo", "(I)J"⟩, 23), (⟨"ZoneCapacityModel", "gainOf", "(III)J"⟩, 23), (⟨"ZoneCapacityModel", "offersAll", "(IZ)V"⟩, 23), (⟨"ZoneCapacityModel", "four", "(I)V"⟩, 23), (⟨"ZoneCapacityModel", "here", "()I"⟩, 23), (⟨"ZoneCapacityModel", "readStatement", "()Z"⟩, 23), (⟨"ZoneCapacityModel", "isWord", "()Z"⟩, 23), (⟨"ZoneCapacityModel", "fails", "(II)Z"⟩, 23), (⟨"ZoneCapacityModel", "readWord", "()J"⟩, 23), (⟨"ZoneCapacityModel", "readZone", "(I)Z"⟩, 23), (⟨"ZoneCapacityModel", "number", "(III)Z"⟩, 23)]
theorem lw_r4 : ∀ q ∈ lw_privs_4, lw_okq q := List.forall_mem_cons.mpr ⟨lw_p48, List.forall_mem_cons.mpr ⟨lw_p49, List.forall_mem_cons.mpr ⟨lw_p50, List.forall_mem_cons.mpr ⟨lw_p51, List.forall_mem_cons.mpr ⟨lw_p52, List.forall_mem_cons.mpr ⟨lw_p53, List.forall_mem_cons.mpr ⟨lw_p54, List.forall_mem_cons.mpr ⟨lw_p55, List.forall_mem_cons.mpr ⟨lw_p56, List.forall_mem_cons.mpr ⟨lw_p57, List.forall_mem_cons.mpr ⟨lw_p58, List.forall_mem_cons.mpr ⟨lw_p59, List.forall_mem_cons.mpr ⟨lw_p60, List.forall_mem_cons.mpr ⟨lw_p61, List.forall_mem_cons.mpr ⟨lw_p62, List.forall_mem_cons.mpr ⟨lw_p63, fun _ h => absurd h List.not_mem_nil⟩⟩⟩⟩⟩⟩⟩⟩⟩⟩⟩⟩⟩⟩⟩⟩
theorem lw_p64 : lw_okq (⟨"ZoneCapacityModel", "isDigit", "()Z"⟩, 23) := ⟨⟨by decide +kernel, by decide +kernel⟩, List.mem_of_getElem? (i := 863) (by decide +kernel), List.mem_of_getElem? (i := 1248) (by decide +kernel), List.mem_of_getElem? (i := 1249) (by decide +kernel)⟩
theorem lw_p65 : lw_okq (⟨"ZoneCapacityModel", "ends", "()Z"⟩, 23) := ⟨⟨by decide +kernel, by decide +kernel⟩, List.mem_of_getElem? (i := 863) (by decide +kernel), List.mem_of_getElem? (i := 1252) (by decide +kernel), List.mem_of_getElem? (i := 1253) (by decide +kernel)⟩
theorem lw_p66 : lw_okq (⟨"ZoneCapacityModel", "readCurve", "()Z"⟩, 23) := ⟨⟨by decide +kernel, by decide +kernel⟩, List.mem_of_getElem? (i := 863) (by decide +kernel), List.mem_of_getElem? (i := 1258) (by decide +kernel), List.mem_of_getElem? (i := 1259) (by decide +kernel)⟩
theorem lw_p67 : lw_okq (⟨"ZoneCapacityModel", "readResource", "(I)Z"⟩, 23) := ⟨⟨by decide +kernel, by decide +kernel⟩, List.mem_of_getElem? (i := 863) (by decide +kernel), List.mem_of_getElem? (i := 1263) (by decide +kernel), List.mem_of_getElem? (i := 1264) (by decide +kernel)⟩
theorem lw_p68 : lw_okq (⟨"ZoneCapacityModel", "readOffer", "(I)Z"⟩, 23) := ⟨⟨by decide +kernel, by decide +kernel⟩, List.mem_of_getElem? (i := 863) (by decide +kernel), List.mem_of_getElem? (i := 1270) (by decide +kernel), List.mem_of_getElem? (i := 1271) (by decide +kernel)⟩
theorem lw_p69 : lw_okq (⟨"ZoneCapacityModel", "readSet", "(III)Z"⟩, 23) := ⟨⟨by decide +kernel, by decide +kernel⟩, List.mem_of_getElem? (i := 863) (by decide +kernel), List.mem_of_getElem? (i := 1275) (by decide +kernel), List.mem_of_getElem? (i := 1276) (by decide +kernel)⟩
def lw_privs_5 : List (MethodName × Nat) := [(⟨"ZoneCapacityModel", "isDigit", "()Z"⟩, 23), (⟨"ZoneCapacityModel", "ends", "()Z"⟩, 23), (⟨"ZoneCapacityModel", "readCurve", "()Z"⟩, 23), (⟨"ZoneCapacityModel", "readResource", "(I)Z"⟩, 23), (⟨"ZoneCapacityModel", "readOffer", "(I)Z"⟩, 23), (⟨"ZoneCapacityModel", "readSet", "(III)Z"⟩, 23)]
theorem lw_r5 : ∀ q ∈ lw_privs_5, lw_okq q := List.forall_mem_cons.mpr ⟨lw_p64, List.forall_mem_cons.mpr ⟨lw_p65, List.forall_mem_cons.mpr ⟨lw_p66, List.forall_mem_cons.mpr ⟨lw_p67, List.forall_mem_cons.mpr ⟨lw_p68, List.forall_mem_cons.mpr ⟨lw_p69, fun _ h => absurd h List.not_mem_nil⟩⟩⟩⟩⟩⟩
def lw_privs : List (MethodName × Nat) := lw_privs_1 ++ (lw_privs_2 ++ (lw_privs_3 ++ (lw_privs_4 ++ (lw_privs_5))))
def lw_tbl : List Cond := k2_sels lw_privs ++ tables_1
theorem lw_privs_ok : ∀ q ∈ lw_privs, lw_okq q := by
  show ∀ q ∈ lw_privs_1 ++ (lw_privs_2 ++ (lw_privs_3 ++ (lw_privs_4 ++ (lw_privs_5)))), lw_okq q
  exact List.forall_mem_append.mpr ⟨lw_r1, List.forall_mem_append.mpr ⟨lw_r2, List.forall_mem_append.mpr ⟨lw_r3, List.forall_mem_append.mpr ⟨lw_r4, lw_r5⟩⟩⟩⟩
end
section
def RX0 : String := "ZoneCapacity$Auction"
def TX0 : u_T := fun k => match k with
  | 0 => ("ZoneCapacity$Auction", "market", "LZoneCapacity$Market;", true)
  | 1 => ("ZoneCapacity$Auction", "prices", "[I", true)
  | 2 => ("ZoneCapacity$Auction", "nets", "[I", true)
  | 3 => ("ZoneCapacity$Auction", "servedUnits", "[I", true)
  | 4 => ("ZoneCapacity$Auction", "takenUnits", "[I", true)
  | 5 => ("ZoneCapacity$Auction", "units", "[I", true)
  | 6 => ("ZoneCapacity$Auction", "its", "[I", true)
  | 7 => ("ZoneCapacity$Auction", "levels", "[I", true)
  | 8 => ("ZoneCapacity$Auction", "lows", "[I", true)
  | 9 => ("ZoneCapacity$Auction", "highs", "[I", true)
  | 10 => ("ZoneCapacity$Auction", "filledAt", "I", false)
  | _ => ("ZoneCapacity$Auction", "top", "I", false)
def tyX0 : Nat → FieldType := fun k => match k with
  | 0 => .object "ZoneCapacity$Market"
  | 1 => .array .int
  | 2 => .array .int
  | 3 => .array .int
  | 4 => .array .int
  | 5 => .array .int
  | 6 => .array .int
  | 7 => .array .int
  | 8 => .array .int
  | 9 => .array .int
  | 10 => .int
  | _ => .int
theorem nmX0 : ∀ a, a < 12 → ∀ b, b < 12 → a ≠ b → (TX0 a).2.1 ≠ (TX0 b).2.1 := by decide +kernel
theorem tyX0_ok : ∀ k, k < 12 → parseFieldDescriptor (TX0 k).2.2.1 = some (tyX0 k) := by decide +kernel
abbrev cX0_init : ByteArray := prog_2_method_1_code
def yX0_init : MethodName := ⟨RX0, "<init>", "()V"⟩
abbrev cX0_clear : ByteArray := prog_2_method_2_code
def yX0_clear : MethodName := ⟨RX0, "clear", "()V"⟩
abbrev cX0_levelOf : ByteArray := prog_2_method_3_code
def yX0_levelOf : MethodName := ⟨RX0, "levelOf", "(II)I"⟩
abbrev cX0_readLines : ByteArray := prog_2_method_4_code
def yX0_readLines : MethodName := ⟨RX0, "readLines", "()V"⟩
abbrev cX0_readTop : ByteArray := prog_2_method_5_code
def yX0_readTop : MethodName := ⟨RX0, "readTop", "()V"⟩
abbrev cX0_fillLevels : ByteArray := prog_2_method_6_code
def yX0_fillLevels : MethodName := ⟨RX0, "fillLevels", "(II[I)V"⟩
abbrev cX0_unitsBelow : ByteArray := prog_2_method_7_code
def yX0_unitsBelow : MethodName := ⟨RX0, "unitsBelow", "(II)I"⟩
abbrev cX0_leastPrice : ByteArray := prog_2_method_8_code
def yX0_leastPrice : MethodName := ⟨RX0, "leastPrice", "(II)I"⟩
abbrev cX0_part : ByteArray := prog_2_method_9_code
def yX0_part : MethodName := ⟨RX0, "part", "(I)V"⟩
abbrev cX0_partToLines : ByteArray := prog_2_method_10_code
def yX0_partToLines : MethodName := ⟨RX0, "partToLines", "(III)I"⟩
abbrev cX0_partToInner : ByteArray := prog_2_method_11_code
def yX0_partToInner : MethodName := ⟨RX0, "partToInner", "(III)I"⟩
abbrev cX0_takenOf : ByteArray := prog_2_method_12_code
def yX0_takenOf : MethodName := ⟨RX0, "takenOf", "(I)I"⟩
abbrev cX0_boundOf : ByteArray := prog_2_method_13_code
def yX0_boundOf : MethodName := ⟨RX0, "boundOf", "(I)I"⟩
abbrev cX0_surplusOfAll : ByteArray := prog_2_method_14_code
def yX0_surplusOfAll : MethodName := ⟨RX0, "surplusOfAll", "()J"⟩
abbrev cX0_rentOf : ByteArray := prog_2_method_15_code
def yX0_rentOf : MethodName := ⟨RX0, "rentOf", "(I)J"⟩
abbrev cX0_paidTo : ByteArray := prog_2_method_16_code
def yX0_paidTo : MethodName := ⟨RX0, "paidTo", "(I)J"⟩
abbrev cX0_paidToOwner : ByteArray := prog_2_method_17_code
def yX0_paidToOwner : MethodName := ⟨RX0, "paidToOwner", "(I)J"⟩
def RX1 : String := "ZoneCapacity$Market"
def TX1 : u_T := fun k => match k with
  | 0 => ("ZoneCapacity$Market", "zones", "LZoneCapacity$Zones;", true)
  | _ => ("ZoneCapacity$Market", "offers", "LZoneCapacity$Offers;", true)
def tyX1 : Nat → FieldType := fun k => match k with
  | 0 => .object "ZoneCapacity$Zones"
  | _ => .object "ZoneCapacity$Offers"
theorem nmX1 : ∀ a, a < 2 → ∀ b, b < 2 → a ≠ b → (TX1 a).2.1 ≠ (TX1 b).2.1 := by decide +kernel
theorem tyX1_ok : ∀ k, k < 2 → parseFieldDescriptor (TX1 k).2.2.1 = some (tyX1 k) := by decide +kernel
abbrev cX1_init : ByteArray := prog_3_method_1_code
def yX1_init : MethodName := ⟨RX1, "<init>", "()V"⟩
abbrev cX1_copyFrom : ByteArray := prog_3_method_2_code
def yX1_copyFrom : MethodName := ⟨RX1, "copyFrom", "(LZoneCapacity$Market;)V"⟩
def RX2 : String := "ZoneCapacity$Offers"
def TX2 : u_T := fun k => match k with
  | 0 => ("ZoneCapacity$Offers", "many", "I", false)
  | 1 => ("ZoneCapacity$Offers", "ceiling", "I", false)
  | 2 => ("ZoneCapacity$Offers", "floors", "[I", true)
  | 3 => ("ZoneCapacity$Offers", "zones", "[I", true)
  | 4 => ("ZoneCapacity$Offers", "sizes", "[I", true)
  | 5 => ("ZoneCapacity$Offers", "kinds", "[I", true)
  | 6 => ("ZoneCapacity$Offers", "owners", "[I", true)
  | 7 => ("ZoneCapacity$Offers", "must", "[I", true)
  | 8 => ("ZoneCapacity$Offers", "free", "[I", true)
  | 9 => ("ZoneCapacity$Offers", "steps", "[I", true)
  | 10 => ("ZoneCapacity$Offers", "stepUnits", "[I", true)
  | _ => ("ZoneCapacity$Offers", "stepPrices", "[I", true)
def tyX2 : Nat → FieldType := fun k => match k with
  | 0 => .int
  | 1 => .int
  | 2 => .array .int
  | 3 => .array .int
  | 4 => .array .int
  | 5 => .array .int
  | 6 => .array .int
  | 7 => .array .int
  | 8 => .array .int
  | 9 => .array .int
  | 10 => .array .int
  | _ => .array .int
theorem nmX2 : ∀ a, a < 12 → ∀ b, b < 12 → a ≠ b → (TX2 a).2.1 ≠ (TX2 b).2.1 := by decide +kernel
theorem tyX2_ok : ∀ k, k < 12 → parseFieldDescriptor (TX2 k).2.2.1 = some (tyX2 k) := by decide +kernel
abbrev cX2_init : ByteArray := prog_4_method_1_code
def yX2_init : MethodName := ⟨RX2, "<init>", "()V"⟩
abbrev cX2_copyFrom : ByteArray := prog_4_method_2_code
def yX2_copyFrom : MethodName := ⟨RX2, "copyFrom", "(LZoneCapacity$Offers;)V"⟩
abbrev cX2_has : ByteArray := prog_4_method_3_code
def yX2_has : MethodName := ⟨RX2, "has", "(I)Z"⟩
abbrev cX2_add : ByteArray := prog_4_method_4_code
def yX2_add : MethodName := ⟨RX2, "add", "(IIIIZZ)I"⟩
abbrev cX2_addStep : ByteArray := prog_4_method_5_code
def yX2_addStep : MethodName := ⟨RX2, "addStep", "(III)I"⟩
abbrev cX2_dropSteps : ByteArray := prog_4_method_6_code
def yX2_dropSteps : MethodName := ⟨RX2, "dropSteps", "(I)I"⟩
abbrev cX2_lastPrice : ByteArray := prog_4_method_7_code
def yX2_lastPrice : MethodName := ⟨RX2, "lastPrice", "(I)I"⟩
abbrev cX2_rest : ByteArray := prog_4_method_8_code
def yX2_rest : MethodName := ⟨RX2, "rest", "(I)I"⟩
abbrev cX2_changeCeiling : ByteArray := prog_4_method_9_code
def yX2_changeCeiling : MethodName := ⟨RX2, "changeCeiling", "(I)Z"⟩
abbrev cX2_dropFloors : ByteArray := prog_4_method_10_code
def yX2_dropFloors : MethodName := ⟨RX2, "dropFloors", "()V"⟩
abbrev cX2_silence : ByteArray := prog_4_method_11_code
def yX2_silence : MethodName := ⟨RX2, "silence", "(I)V"⟩
abbrev cX2_silenceOwner : ByteArray := prog_4_method_12_code
def yX2_silenceOwner : MethodName := ⟨RX2, "silenceOwner", "(I)V"⟩
abbrev cX2_bitsIn : ByteArray := prog_4_method_13_code
def yX2_bitsIn : MethodName := ⟨RX2, "bitsIn", "(I)I"⟩
abbrev cX2_hasLine : ByteArray := prog_4_method_14_code
def yX2_hasLine : MethodName := ⟨RX2, "hasLine", "(II)Z"⟩
abbrev cX2_unitsOf : ByteArray := prog_4_method_15_code
def yX2_unitsOf : MethodName := ⟨RX2, "unitsOf", "(II)I"⟩
abbrev cX2_itsOf : ByteArray := prog_4_method_16_code
def yX2_itsOf : MethodName := ⟨RX2, "itsOf", "(II)I"⟩
def RX3 : String := "ZoneCapacity$Tape"
def TX3 : u_T := fun k => match k with
  | 0 => ("ZoneCapacity$Tape", "bytes", "[I", true)
  | _ => ("ZoneCapacity$Tape", "length", "I", false)
def tyX3 : Nat → FieldType := fun k => match k with
  | 0 => .array .int
  | _ => .int
theorem nmX3 : ∀ a, a < 2 → ∀ b, b < 2 → a ≠ b → (TX3 a).2.1 ≠ (TX3 b).2.1 := by decide +kernel
theorem tyX3_ok : ∀ k, k < 2 → parseFieldDescriptor (TX3 k).2.2.1 = some (tyX3 k) := by decide +kernel
abbrev cX3_init : ByteArray := prog_5_method_1_code
def yX3_init : MethodName := ⟨RX3, "<init>", "()V"⟩
abbrev cX3_append : ByteArray := prog_5_method_2_code
def yX3_append : MethodName := ⟨RX3, "append", "(I)V"⟩
def RX4 : String := "ZoneCapacity$Teller"
def TX4 : u_T := fun k => match k with
  | 0 => ("ZoneCapacity$Teller", "tape", "LZoneCapacity$Tape;", true)
  | 1 => ("ZoneCapacity$Teller", "draft", "LZoneCapacity$Market;", true)
  | 2 => ("ZoneCapacity$Teller", "fault", "I", false)
  | 3 => ("ZoneCapacity$Teller", "token", "I", false)
  | 4 => ("ZoneCapacity$Teller", "place", "I", false)
  | 5 => ("ZoneCapacity$Teller", "number", "I", false)
  | 6 => ("ZoneCapacity$Teller", "next", "I", false)
  | _ => ("ZoneCapacity$Teller", "got", "I", false)
def tyX4 : Nat → FieldType := fun k => match k with
  | 0 => .object "ZoneCapacity$Tape"
  | 1 => .object "ZoneCapacity$Market"
  | 2 => .int
  | 3 => .int
  | 4 => .int
  | 5 => .int
  | 6 => .int
  | _ => .int
theorem nmX4 : ∀ a, a < 8 → ∀ b, b < 8 → a ≠ b → (TX4 a).2.1 ≠ (TX4 b).2.1 := by decide +kernel
theorem tyX4_ok : ∀ k, k < 8 → parseFieldDescriptor (TX4 k).2.2.1 = some (tyX4 k) := by decide +kernel
abbrev cX4_init : ByteArray := prog_6_method_1_code
def yX4_init : MethodName := ⟨RX4, "<init>", "()V"⟩
abbrev cX4_tellAll : ByteArray := prog_6_method_2_code
def yX4_tellAll : MethodName := ⟨RX4, "tellAll", "()I"⟩
abbrev cX4_tellStatement : ByteArray := prog_6_method_3_code
def yX4_tellStatement : MethodName := ⟨RX4, "tellStatement", "()Z"⟩
abbrev cX4_tellZone : ByteArray := prog_6_method_4_code
def yX4_tellZone : MethodName := ⟨RX4, "tellZone", "()Z"⟩
abbrev cX4_tellCurve : ByteArray := prog_6_method_5_code
def yX4_tellCurve : MethodName := ⟨RX4, "tellCurve", "()Z"⟩
abbrev cX4_tellResource : ByteArray := prog_6_method_6_code
def yX4_tellResource : MethodName := ⟨RX4, "tellResource", "()Z"⟩
abbrev cX4_tellOffer : ByteArray := prog_6_method_7_code
def yX4_tellOffer : MethodName := ⟨RX4, "tellOffer", "()Z"⟩
abbrev cX4_tellFloor : ByteArray := prog_6_method_8_code
def yX4_tellFloor : MethodName := ⟨RX4, "tellFloor", "()Z"⟩
abbrev cX4_tellCeiling : ByteArray := prog_6_method_9_code
def yX4_tellCeiling : MethodName := ⟨RX4, "tellCeiling", "()Z"⟩
abbrev cX4_tellLimits : ByteArray := prog_6_method_10_code
def yX4_tellLimits : MethodName := ⟨RX4, "tellLimits", "()Z"⟩
abbrev cX4_takeNumber : ByteArray := prog_6_method_11_code
def yX4_takeNumber : MethodName := ⟨RX4, "takeNumber", "(II)Z"⟩
abbrev cX4_takeWord : ByteArray := prog_6_method_12_code
def yX4_takeWord : MethodName := ⟨RX4, "takeWord", "(Ljava/lang/String;)Z"⟩
abbrev cX4_takeEnd : ByteArray := prog_6_method_13_code
def yX4_takeEnd : MethodName := ⟨RX4, "takeEnd", "()Z"⟩
abbrev cX4_blame : ByteArray := prog_6_method_14_code
def yX4_blame : MethodName := ⟨RX4, "blame", "(II)Z"⟩
abbrev cX4_isWord : ByteArray := prog_6_method_15_code
def yX4_isWord : MethodName := ⟨RX4, "isWord", "(Ljava/lang/String;)Z"⟩
abbrev cX4_advance : ByteArray := prog_6_method_16_code
def yX4_advance : MethodName := ⟨RX4, "advance", "()V"⟩
abbrev cX4_isBlank : ByteArray := prog_6_method_17_code
def yX4_isBlank : MethodName := ⟨RX4, "isBlank", "(I)Z"⟩
abbrev cX4_isLetter : ByteArray := prog_6_method_18_code
def yX4_isLetter : MethodName := ⟨RX4, "isLetter", "(I)Z"⟩
abbrev cX4_isDigit : ByteArray := prog_6_method_19_code
def yX4_isDigit : MethodName := ⟨RX4, "isDigit", "(I)Z"⟩
def RX5 : String := "ZoneCapacity$Zones"
def TX5 : u_T := fun k => match k with
  | 0 => ("ZoneCapacity$Zones", "many", "I", false)
  | 1 => ("ZoneCapacity$Zones", "outer", "[I", true)
  | 2 => ("ZoneCapacity$Zones", "in", "[I", true)
  | 3 => ("ZoneCapacity$Zones", "out", "[I", true)
  | 4 => ("ZoneCapacity$Zones", "points", "[I", true)
  | 5 => ("ZoneCapacity$Zones", "pointUnits", "[I", true)
  | _ => ("ZoneCapacity$Zones", "pointPrices", "[I", true)
def tyX5 : Nat → FieldType := fun k => match k with
  | 0 => .int
  | 1 => .array .int
  | 2 => .array .int
  | 3 => .array .int
  | 4 => .array .int
  | 5 => .array .int
  | _ => .array .int
theorem nmX5 : ∀ a, a < 7 → ∀ b, b < 7 → a ≠ b → (TX5 a).2.1 ≠ (TX5 b).2.1 := by decide +kernel
theorem tyX5_ok : ∀ k, k < 7 → parseFieldDescriptor (TX5 k).2.2.1 = some (tyX5 k) := by decide +kernel
abbrev cX5_init : ByteArray := prog_7_method_1_code
def yX5_init : MethodName := ⟨RX5, "<init>", "()V"⟩
abbrev cX5_copyFrom : ByteArray := prog_7_method_2_code
def yX5_copyFrom : MethodName := ⟨RX5, "copyFrom", "(LZoneCapacity$Zones;)V"⟩
abbrev cX5_has : ByteArray := prog_7_method_3_code
def yX5_has : MethodName := ⟨RX5, "has", "(I)Z"⟩
abbrev cX5_hasInner : ByteArray := prog_7_method_4_code
def yX5_hasInner : MethodName := ⟨RX5, "hasInner", "(I)Z"⟩
abbrev cX5_add : ByteArray := prog_7_method_5_code
def yX5_add : MethodName := ⟨RX5, "add", "(III)I"⟩
abbrev cX5_addPoint : ByteArray := prog_7_method_6_code
def yX5_addPoint : MethodName := ⟨RX5, "addPoint", "(III)I"⟩
abbrev cX5_dropPoints : ByteArray := prog_7_method_7_code
def yX5_dropPoints : MethodName := ⟨RX5, "dropPoints", "(I)I"⟩
abbrev cX5_wanted : ByteArray := prog_7_method_8_code
def yX5_wanted : MethodName := ⟨RX5, "wanted", "(I)I"⟩
abbrev cX5_firstPrice : ByteArray := prog_7_method_9_code
def yX5_firstPrice : MethodName := ⟨RX5, "firstPrice", "(I)I"⟩
abbrev cX5_lastPrice : ByteArray := prog_7_method_10_code
def yX5_lastPrice : MethodName := ⟨RX5, "lastPrice", "(I)I"⟩
abbrev cX5_worthOf : ByteArray := prog_7_method_11_code
def yX5_worthOf : MethodName := ⟨RX5, "worthOf", "(II)I"⟩
abbrev cX5_fallen : ByteArray := prog_7_method_12_code
def yX5_fallen : MethodName := ⟨RX5, "fallen", "(III)I"⟩
abbrev cX5_worthOfFirst : ByteArray := prog_7_method_13_code
def yX5_worthOfFirst : MethodName := ⟨RX5, "worthOfFirst", "(II)J"⟩
abbrev cX5_wantedFrom : ByteArray := prog_7_method_14_code
def yX5_wantedFrom : MethodName := ⟨RX5, "wantedFrom", "(II)I"⟩
abbrev cX5_wantedBetween : ByteArray := prog_7_method_15_code
def yX5_wantedBetween : MethodName := ⟨RX5, "wantedBetween", "(IIII)I"⟩
abbrev cX5_cut : ByteArray := prog_7_method_16_code
def yX5_cut : MethodName := ⟨RX5, "cut", "(II)I"⟩
def RX6 : String := "ZoneCapacity"
def TX6 : u_T := fun k => match k with
  | 0 => ("ZoneCapacity", "now", "LZoneCapacity$Auction;", true)
  | 1 => ("ZoneCapacity", "trial", "LZoneCapacity$Auction;", true)
  | 2 => ("ZoneCapacity", "teller", "LZoneCapacity$Teller;", true)
  | 3 => ("ZoneCapacity", "firstKept", "LZoneCapacity$Market;", true)
  | 4 => ("ZoneCapacity", "secondKept", "LZoneCapacity$Market;", true)
  | 5 => ("ZoneCapacity", "firstIsKept", "Z", false)
  | _ => ("ZoneCapacity", "secondIsKept", "Z", false)
def tyX6 : Nat → FieldType := fun k => match k with
  | 0 => .object "ZoneCapacity$Auction"
  | 1 => .object "ZoneCapacity$Auction"
  | 2 => .object "ZoneCapacity$Teller"
  | 3 => .object "ZoneCapacity$Market"
  | 4 => .object "ZoneCapacity$Market"
  | 5 => .boolean
  | _ => .boolean
theorem nmX6 : ∀ a, a < 7 → ∀ b, b < 7 → a ≠ b → (TX6 a).2.1 ≠ (TX6 b).2.1 := by decide +kernel
theorem tyX6_ok : ∀ k, k < 7 → parseFieldDescriptor (TX6 k).2.2.1 = some (tyX6 k) := by decide +kernel
abbrev cX6_init : ByteArray := prog_1_method_1_code
def yX6_init : MethodName := ⟨RX6, "<init>", "()V"⟩
abbrev cX6_feed : ByteArray := prog_1_method_2_code
def yX6_feed : MethodName := ⟨RX6, "feed", "(IIIII)I"⟩
abbrev cX6_end : ByteArray := prog_1_method_3_code
def yX6_end : MethodName := ⟨RX6, "end", "(I)Z"⟩
abbrev cX6_tell : ByteArray := prog_1_method_4_code
def yX6_tell : MethodName := ⟨RX6, "tell", "()I"⟩
abbrev cX6_fault : ByteArray := prog_1_method_5_code
def yX6_fault : MethodName := ⟨RX6, "fault", "()I"⟩
abbrev cX6_zone : ByteArray := prog_1_method_6_code
def yX6_zone : MethodName := ⟨RX6, "zone", "(III)I"⟩
abbrev cX6_point : ByteArray := prog_1_method_7_code
def yX6_point : MethodName := ⟨RX6, "point", "(III)I"⟩
abbrev cX6_resource : ByteArray := prog_1_method_8_code
def yX6_resource : MethodName := ⟨RX6, "resource", "(IIIIZ)I"⟩
abbrev cX6_step : ByteArray := prog_1_method_9_code
def yX6_step : MethodName := ⟨RX6, "step", "(III)I"⟩
abbrev cX6_drop : ByteArray := prog_1_method_10_code
def yX6_drop : MethodName := ⟨RX6, "drop", "(IZ)I"⟩
abbrev cX6_set : ByteArray := prog_1_method_11_code
def yX6_set : MethodName := ⟨RX6, "set", "(III)Z"⟩
abbrev cX6_keep : ByteArray := prog_1_method_12_code
def yX6_keep : MethodName := ⟨RX6, "keep", "(I)Z"⟩
abbrev cX6_back : ByteArray := prog_1_method_13_code
def yX6_back : MethodName := ⟨RX6, "back", "(I)Z"⟩
abbrev cX6_count : ByteArray := prog_1_method_14_code
def yX6_count : MethodName := ⟨RX6, "count", "(I)I"⟩
abbrev cX6_zoneOf : ByteArray := prog_1_method_15_code
def yX6_zoneOf : MethodName := ⟨RX6, "zoneOf", "(II)I"⟩
abbrev cX6_resourceOf : ByteArray := prog_1_method_16_code
def yX6_resourceOf : MethodName := ⟨RX6, "resourceOf", "(II)I"⟩
abbrev cX6_line : ByteArray := prog_1_method_17_code
def yX6_line : MethodName := ⟨RX6, "line", "(IIZ)I"⟩
abbrev cX6_worth : ByteArray := prog_1_method_18_code
def yX6_worth : MethodName := ⟨RX6, "worth", "(II)I"⟩
abbrev cX6_wants : ByteArray := prog_1_method_19_code
def yX6_wants : MethodName := ⟨RX6, "wants", "(II)I"⟩
abbrev cX6_level : ByteArray := prog_1_method_20_code
def yX6_level : MethodName := ⟨RX6, "level", "(IIZ)I"⟩
abbrev cX6_price : ByteArray := prog_1_method_21_code
def yX6_price : MethodName := ⟨RX6, "price", "(I)I"⟩
abbrev cX6_net : ByteArray := prog_1_method_22_code
def yX6_net : MethodName := ⟨RX6, "net", "(I)I"⟩
abbrev cX6_served : ByteArray := prog_1_method_23_code
def yX6_served : MethodName := ⟨RX6, "served", "(I)I"⟩
abbrev cX6_taken : ByteArray := prog_1_method_24_code
def yX6_taken : MethodName := ⟨RX6, "taken", "(II)I"⟩
abbrev cX6_binds : ByteArray := prog_1_method_25_code
def yX6_binds : MethodName := ⟨RX6, "binds", "(I)I"⟩
abbrev cX6_surplus : ByteArray := prog_1_method_26_code
def yX6_surplus : MethodName := ⟨RX6, "surplus", "()J"⟩
abbrev cX6_rent : ByteArray := prog_1_method_27_code
def yX6_rent : MethodName := ⟨RX6, "rent", "(I)J"⟩
abbrev cX6_paid : ByteArray := prog_1_method_28_code
def yX6_paid : MethodName := ⟨RX6, "paid", "(I)J"⟩
abbrev cX6_charged : ByteArray := prog_1_method_29_code
def yX6_charged : MethodName := ⟨RX6, "charged", "(I)J"⟩
abbrev cX6_without : ByteArray := prog_1_method_30_code
def yX6_without : MethodName := ⟨RX6, "without", "(II)I"⟩
abbrev cX6_pivotal : ByteArray := prog_1_method_31_code
def yX6_pivotal : MethodName := ⟨RX6, "pivotal", "(II)I"⟩
abbrev cX6_wider : ByteArray := prog_1_method_32_code
def yX6_wider : MethodName := ⟨RX6, "wider", "(IIZ)J"⟩
abbrev cX6_needs : ByteArray := prog_1_method_33_code
def yX6_needs : MethodName := ⟨RX6, "needs", "(I)I"⟩
abbrev cX6_freely : ByteArray := prog_1_method_34_code
def yX6_freely : MethodName := ⟨RX6, "freely", "(I)I"⟩
abbrev cX6_gain : ByteArray := prog_1_method_35_code
def yX6_gain : MethodName := ⟨RX6, "gain", "(III)J"⟩
abbrev cX6_best : ByteArray := prog_1_method_36_code
def yX6_best : MethodName := ⟨RX6, "best", "(II)I"⟩
abbrev cX6_isNarrow : ByteArray := prog_1_method_37_code
def yX6_isNarrow : MethodName := ⟨RX6, "isNarrow", "(II)Z"⟩
abbrev cX6_gainAt : ByteArray := prog_1_method_38_code
def yX6_gainAt : MethodName := ⟨RX6, "gainAt", "(III)J"⟩
abbrev cX6_at : ByteArray := prog_1_method_39_code
def yX6_at : MethodName := ⟨RX6, "at", "([II)I"⟩
abbrev cX6_put : ByteArray := prog_1_method_40_code
def yX6_put : MethodName := ⟨RX6, "put", "([III)V"⟩
abbrev cX6_change : ByteArray := prog_1_method_41_code
def yX6_change : MethodName := ⟨RX6, "change", "([III)Z"⟩
abbrev cX6_copyRow : ByteArray := prog_1_method_42_code
def yX6_copyRow : MethodName := ⟨RX6, "copyRow", "([I[I)V"⟩
abbrev cX6_within : ByteArray := prog_1_method_43_code
def yX6_within : MethodName := ⟨RX6, "within", "(III)Z"⟩
def RX7 : String := "ZoneCapacityModel"
def TX7 : u_T := fun k => match k with
  | 0 => ("ZoneCapacityModel", "raised", "I", false)
  | 1 => ("ZoneCapacityModel", "w", "[I", true)
  | 2 => ("ZoneCapacityModel", "kept", "[I", true)
  | 3 => ("ZoneCapacityModel", "isKept", "[Z", true)
  | 4 => ("ZoneCapacityModel", "draft", "[I", true)
  | 5 => ("ZoneCapacityModel", "gone", "I", false)
  | 6 => ("ZoneCapacityModel", "noFloors", "Z", false)
  | 7 => ("ZoneCapacityModel", "low", "[I", true)
  | 8 => ("ZoneCapacityModel", "high", "[I", true)
  | 9 => ("ZoneCapacityModel", "prices", "[I", true)
  | 10 => ("ZoneCapacityModel", "nets", "[I", true)
  | 11 => ("ZoneCapacityModel", "serves", "[I", true)
  | 12 => ("ZoneCapacityModel", "takes", "[I", true)
  | 13 => ("ZoneCapacityModel", "hadSteps", "[I", true)
  | 14 => ("ZoneCapacityModel", "tape", "[I", true)
  | 15 => ("ZoneCapacityModel", "taped", "I", false)
  | 16 => ("ZoneCapacityModel", "fault", "I", false)
  | 17 => ("ZoneCapacityModel", "at", "I", false)
  | 18 => ("ZoneCapacityModel", "wrong", "I", false)
  | 19 => ("ZoneCapacityModel", "value", "I", false)
  | 20 => ("ZoneCapacityModel", "place", "I", false)
  | 21 => ("ZoneCapacityModel", "statements", "I", false)
  | _ => ("ZoneCapacityModel", "told", "[I", true)
def tyX7 : Nat → FieldType := fun k => match k with
  | 0 => .int
  | 1 => .array .int
  | 2 => .array .int
  | 3 => .array .boolean
  | 4 => .array .int
  | 5 => .int
  | 6 => .boolean
  | 7 => .array .int
  | 8 => .array .int
  | 9 => .array .int
  | 10 => .array .int
  | 11 => .array .int
  | 12 => .array .int
  | 13 => .array .int
  | 14 => .array .int
  | 15 => .int
  | 16 => .int
  | 17 => .int
  | 18 => .int
  | 19 => .int
  | 20 => .int
  | 21 => .int
  | _ => .array .int
theorem nmX7 : ∀ a, a < 23 → ∀ b, b < 23 → a ≠ b → (TX7 a).2.1 ≠ (TX7 b).2.1 := by decide +kernel
theorem tyX7_ok : ∀ k, k < 23 → parseFieldDescriptor (TX7 k).2.2.1 = some (tyX7 k) := by decide +kernel
abbrev cX7_init : ByteArray := prog_9_method_1_code
def yX7_init : MethodName := ⟨RX7, "<init>", "()V"⟩
abbrev cX7_thrown : ByteArray := prog_9_method_2_code
def yX7_thrown : MethodName := ⟨RX7, "thrown", "()I"⟩
abbrev cX7_in : ByteArray := prog_9_method_3_code
def yX7_in : MethodName := ⟨RX7, "in", "(III)Z"⟩
abbrev cX7_isZone : ByteArray := prog_9_method_4_code
def yX7_isZone : MethodName := ⟨RX7, "isZone", "(I)Z"⟩
abbrev cX7_isResource : ByteArray := prog_9_method_5_code
def yX7_isResource : MethodName := ⟨RX7, "isResource", "(I)Z"⟩
abbrev cX7_isPrice : ByteArray := prog_9_method_6_code
def yX7_isPrice : MethodName := ⟨RX7, "isPrice", "(I)Z"⟩
abbrev cX7_ofZone : ByteArray := prog_9_method_7_code
def yX7_ofZone : MethodName := ⟨RX7, "ofZone", "(II)I"⟩
abbrev cX7_ofResource : ByteArray := prog_9_method_8_code
def yX7_ofResource : MethodName := ⟨RX7, "ofResource", "(II)I"⟩
abbrev cX7_pointUnits : ByteArray := prog_9_method_9_code
def yX7_pointUnits : MethodName := ⟨RX7, "pointUnits", "(II)I"⟩
abbrev cX7_pointPrice : ByteArray := prog_9_method_10_code
def yX7_pointPrice : MethodName := ⟨RX7, "pointPrice", "(II)I"⟩
abbrev cX7_wanted : ByteArray := prog_9_method_11_code
def yX7_wanted : MethodName := ⟨RX7, "wanted", "(I)I"⟩
abbrev cX7_worthOf : ByteArray := prog_9_method_12_code
def yX7_worthOf : MethodName := ⟨RX7, "worthOf", "(II)I"⟩
abbrev cX7_wantedAt : ByteArray := prog_9_method_13_code
def yX7_wantedAt : MethodName := ⟨RX7, "wantedAt", "(II)I"⟩
abbrev cX7_lineUnits : ByteArray := prog_9_method_14_code
def yX7_lineUnits : MethodName := ⟨RX7, "lineUnits", "(II)I"⟩
abbrev cX7_lineIts : ByteArray := prog_9_method_15_code
def yX7_lineIts : MethodName := ⟨RX7, "lineIts", "(II)I"⟩
abbrev cX7_isLine : ByteArray := prog_9_method_16_code
def yX7_isLine : MethodName := ⟨RX7, "isLine", "(II)Z"⟩
abbrev cX7_offered : ByteArray := prog_9_method_17_code
def yX7_offered : MethodName := ⟨RX7, "offered", "(IIZ)I"⟩
abbrev cX7_cut : ByteArray := prog_9_method_18_code
def yX7_cut : MethodName := ⟨RX7, "cut", "(II)I"⟩
abbrev cX7_laysLevels : ByteArray := prog_9_method_19_code
def yX7_laysLevels : MethodName := ⟨RX7, "laysLevels", "(II)V"⟩
abbrev cX7_leastPrice : ByteArray := prog_9_method_20_code
def yX7_leastPrice : MethodName := ⟨RX7, "leastPrice", "(II)I"⟩
abbrev cX7_priceOf : ByteArray := prog_9_method_21_code
def yX7_priceOf : MethodName := ⟨RX7, "priceOf", "(I)I"⟩
abbrev cX7_takesOwn : ByteArray := prog_9_method_22_code
def yX7_takesOwn : MethodName := ⟨RX7, "takesOwn", "(II)I"⟩
abbrev cX7_clears : ByteArray := prog_9_method_23_code
def yX7_clears : MethodName := ⟨RX7, "clears", "()V"⟩
abbrev cX7_clearsAll : ByteArray := prog_9_method_24_code
def yX7_clearsAll : MethodName := ⟨RX7, "clearsAll", "()V"⟩
abbrev cX7_surplusNow : ByteArray := prog_9_method_25_code
def yX7_surplusNow : MethodName := ⟨RX7, "surplusNow", "()J"⟩
abbrev cX7_takenOf : ByteArray := prog_9_method_26_code
def yX7_takenOf : MethodName := ⟨RX7, "takenOf", "(I)I"⟩
abbrev cX7_zone : ByteArray := prog_9_method_27_code
def yX7_zone : MethodName := ⟨RX7, "zone", "(III)I"⟩
abbrev cX7_canPoint : ByteArray := prog_9_method_28_code
def yX7_canPoint : MethodName := ⟨RX7, "canPoint", "(III)Z"⟩
abbrev cX7_point : ByteArray := prog_9_method_29_code
def yX7_point : MethodName := ⟨RX7, "point", "(III)I"⟩
abbrev cX7_addPoint : ByteArray := prog_9_method_30_code
def yX7_addPoint : MethodName := ⟨RX7, "addPoint", "(III)V"⟩
abbrev cX7_addResource : ByteArray := prog_9_method_31_code
def yX7_addResource : MethodName := ⟨RX7, "addResource", "(IIIIII)I"⟩
abbrev cX7_resource : ByteArray := prog_9_method_32_code
def yX7_resource : MethodName := ⟨RX7, "resource", "(IIIIZ)I"⟩
abbrev cX7_stepped : ByteArray := prog_9_method_33_code
def yX7_stepped : MethodName := ⟨RX7, "stepped", "(I)I"⟩
abbrev cX7_addStep : ByteArray := prog_9_method_34_code
def yX7_addStep : MethodName := ⟨RX7, "addStep", "(III)V"⟩
abbrev cX7_step : ByteArray := prog_9_method_35_code
def yX7_step : MethodName := ⟨RX7, "step", "(III)I"⟩
abbrev cX7_drop : ByteArray := prog_9_method_36_code
def yX7_drop : MethodName := ⟨RX7, "drop", "(IZ)I"⟩
abbrev cX7_placeOf : ByteArray := prog_9_method_37_code
def yX7_placeOf : MethodName := ⟨RX7, "placeOf", "(III)I"⟩
abbrev cX7_set : ByteArray := prog_9_method_38_code
def yX7_set : MethodName := ⟨RX7, "set", "(III)Z"⟩
abbrev cX7_keep : ByteArray := prog_9_method_39_code
def yX7_keep : MethodName := ⟨RX7, "keep", "(I)Z"⟩
abbrev cX7_back : ByteArray := prog_9_method_40_code
def yX7_back : MethodName := ⟨RX7, "back", "(I)Z"⟩
abbrev cX7_count : ByteArray := prog_9_method_41_code
def yX7_count : MethodName := ⟨RX7, "count", "(I)I"⟩
abbrev cX7_zoneOf : ByteArray := prog_9_method_42_code
def yX7_zoneOf : MethodName := ⟨RX7, "zoneOf", "(II)I"⟩
abbrev cX7_resourceOf : ByteArray := prog_9_method_43_code
def yX7_resourceOf : MethodName := ⟨RX7, "resourceOf", "(II)I"⟩
abbrev cX7_line : ByteArray := prog_9_method_44_code
def yX7_line : MethodName := ⟨RX7, "line", "(IIZ)I"⟩
abbrev cX7_worth : ByteArray := prog_9_method_45_code
def yX7_worth : MethodName := ⟨RX7, "worth", "(II)I"⟩
abbrev cX7_wants : ByteArray := prog_9_method_46_code
def yX7_wants : MethodName := ⟨RX7, "wants", "(II)I"⟩
abbrev cX7_level : ByteArray := prog_9_method_47_code
def yX7_level : MethodName := ⟨RX7, "level", "(IIZ)I"⟩
abbrev cX7_price : ByteArray := prog_9_method_48_code
def yX7_price : MethodName := ⟨RX7, "price", "(I)I"⟩
abbrev cX7_net : ByteArray := prog_9_method_49_code
def yX7_net : MethodName := ⟨RX7, "net", "(I)I"⟩
abbrev cX7_served : ByteArray := prog_9_method_50_code
def yX7_served : MethodName := ⟨RX7, "served", "(I)I"⟩
abbrev cX7_taken : ByteArray := prog_9_method_51_code
def yX7_taken : MethodName := ⟨RX7, "taken", "(II)I"⟩
abbrev cX7_binds : ByteArray := prog_9_method_52_code
def yX7_binds : MethodName := ⟨RX7, "binds", "(I)I"⟩
abbrev cX7_surplus : ByteArray := prog_9_method_53_code
def yX7_surplus : MethodName := ⟨RX7, "surplus", "()J"⟩
abbrev cX7_rent : ByteArray := prog_9_method_54_code
def yX7_rent : MethodName := ⟨RX7, "rent", "(I)J"⟩
abbrev cX7_paidTo : ByteArray := prog_9_method_55_code
def yX7_paidTo : MethodName := ⟨RX7, "paidTo", "(I)J"⟩
abbrev cX7_paid : ByteArray := prog_9_method_56_code
def yX7_paid : MethodName := ⟨RX7, "paid", "(I)J"⟩
abbrev cX7_charged : ByteArray := prog_9_method_57_code
def yX7_charged : MethodName := ⟨RX7, "charged", "(I)J"⟩
abbrev cX7_without : ByteArray := prog_9_method_58_code
def yX7_without : MethodName := ⟨RX7, "without", "(II)I"⟩
abbrev cX7_pivotal : ByteArray := prog_9_method_59_code
def yX7_pivotal : MethodName := ⟨RX7, "pivotal", "(II)I"⟩
abbrev cX7_wider : ByteArray := prog_9_method_60_code
def yX7_wider : MethodName := ⟨RX7, "wider", "(IIZ)J"⟩
abbrev cX7_needs : ByteArray := prog_9_method_61_code
def yX7_needs : MethodName := ⟨RX7, "needs", "(I)I"⟩
abbrev cX7_freely : ByteArray := prog_9_method_62_code
def yX7_freely : MethodName := ⟨RX7, "freely", "(I)I"⟩
abbrev cX7_offersAll : ByteArray := prog_9_method_63_code
def yX7_offersAll : MethodName := ⟨RX7, "offersAll", "(IZ)V"⟩
abbrev cX7_gainOf : ByteArray := prog_9_method_64_code
def yX7_gainOf : MethodName := ⟨RX7, "gainOf", "(III)J"⟩
abbrev cX7_gain : ByteArray := prog_9_method_65_code
def yX7_gain : MethodName := ⟨RX7, "gain", "(III)J"⟩
abbrev cX7_best : ByteArray := prog_9_method_66_code
def yX7_best : MethodName := ⟨RX7, "best", "(II)I"⟩
abbrev cX7_four : ByteArray := prog_9_method_67_code
def yX7_four : MethodName := ⟨RX7, "four", "(I)V"⟩
abbrev cX7_feed : ByteArray := prog_9_method_68_code
def yX7_feed : MethodName := ⟨RX7, "feed", "(IIIII)I"⟩
abbrev cX7_end : ByteArray := prog_9_method_69_code
def yX7_end : MethodName := ⟨RX7, "end", "(I)Z"⟩
abbrev cX7_here : ByteArray := prog_9_method_70_code
def yX7_here : MethodName := ⟨RX7, "here", "()I"⟩
abbrev cX7_fails : ByteArray := prog_9_method_71_code
def yX7_fails : MethodName := ⟨RX7, "fails", "(II)Z"⟩
abbrev cX7_isDigit : ByteArray := prog_9_method_72_code
def yX7_isDigit : MethodName := ⟨RX7, "isDigit", "()Z"⟩
abbrev cX7_number : ByteArray := prog_9_method_73_code
def yX7_number : MethodName := ⟨RX7, "number", "(III)Z"⟩
abbrev cX7_ends : ByteArray := prog_9_method_74_code
def yX7_ends : MethodName := ⟨RX7, "ends", "()Z"⟩
abbrev cX7_isWord : ByteArray := prog_9_method_75_code
def yX7_isWord : MethodName := ⟨RX7, "isWord", "()Z"⟩
abbrev cX7_readWord : ByteArray := prog_9_method_76_code
def yX7_readWord : MethodName := ⟨RX7, "readWord", "()J"⟩
abbrev cX7_readZone : ByteArray := prog_9_method_77_code
def yX7_readZone : MethodName := ⟨RX7, "readZone", "(I)Z"⟩
abbrev cX7_readCurve : ByteArray := prog_9_method_78_code
def yX7_readCurve : MethodName := ⟨RX7, "readCurve", "()Z"⟩
abbrev cX7_readResource : ByteArray := prog_9_method_79_code
def yX7_readResource : MethodName := ⟨RX7, "readResource", "(I)Z"⟩
abbrev cX7_readOffer : ByteArray := prog_9_method_80_code
def yX7_readOffer : MethodName := ⟨RX7, "readOffer", "(I)Z"⟩
abbrev cX7_readSet : ByteArray := prog_9_method_81_code
def yX7_readSet : MethodName := ⟨RX7, "readSet", "(III)Z"⟩
abbrev cX7_readStatement : ByteArray := prog_9_method_82_code
def yX7_readStatement : MethodName := ⟨RX7, "readStatement", "()Z"⟩
abbrev cX7_tell : ByteArray := prog_9_method_83_code
def yX7_tell : MethodName := ⟨RX7, "tell", "()I"⟩
abbrev cX7_fault : ByteArray := prog_9_method_84_code
def yX7_fault : MethodName := ⟨RX7, "fault", "()I"⟩
def RL : String := "ZoneCapacityLaw"
abbrev cL_zoneOf : ByteArray := method_3_code
def yL_zoneOf : MethodName := ⟨RL, "zoneOf", "(LZoneCapacity;II[J)I"⟩
abbrev cL_resourceOf : ByteArray := method_4_code
def yL_resourceOf : MethodName := ⟨RL, "resourceOf", "(LZoneCapacity;II[J)I"⟩
abbrev cL_law : ByteArray := code
def yL_law : MethodName := ⟨RL, "law", "([I)Z"⟩

abbrev wslX0 : List Cond := u_ws RX0 TX0 12
abbrev wslX1 : List Cond := u_ws RX1 TX1 2
abbrev wslX2 : List Cond := u_ws RX2 TX2 12
abbrev wslX3 : List Cond := u_ws RX3 TX3 2
abbrev wslX4 : List Cond := u_ws RX4 TX4 8
abbrev wslX5 : List Cond := u_ws RX5 TX5 7
abbrev wslX6 : List Cond := u_ws RX6 TX6 7
abbrev wslX7 : List Cond := u_ws RX7 TX7 23
def TW : List Cond := lw_tbl.filter goodWord
theorem tw_mem {w : Cond} (h : w ∈ lw_tbl) (g : goodWord w = true) : w ∈ TW := List.mem_filter.mpr ⟨h, g⟩
def tw_chk (ids : List Nat) (ws : List Cond) : Bool := decide (ids.map (fun i => lw_tbl[i]?) = ws.map some) && ws.all goodWord
theorem tw_of {ids : List Nat} {ws : List Cond} (h : tw_chk ids ws = true) : ∀ w ∈ ws, w ∈ TW := by
  intro w hw
  unfold tw_chk at h
  rw [Bool.and_eq_true, decide_eq_true_eq] at h
  refine tw_mem ?_ (List.all_eq_true.mp h.2 w hw)
  have : some w ∈ ws.map some := List.mem_map.mpr ⟨w, hw, rfl⟩
  rw [← h.1] at this
  obtain ⟨i, -, hi⟩ := List.mem_map.mp this
  exact List.mem_of_getElem? hi
theorem tw_good {y : MethodName} {bytes : ByteArray} {maxL : Nat} {ret : Option FieldType} (h : Cond.code y bytes maxL ret ∈ TW) : GoodIn TW (Cond.code y bytes maxL ret :: TW) := by
  intro w hw
  have hw : w ∈ TW := by
    rcases List.mem_cons.mp hw with e | e
    · rw [e]; exact h
    · exact e
  exact ⟨hw, good_of_word (List.mem_filter.mp hw).2⟩
theorem iwX0 : ∀ w ∈ wslX0, w ∈ TW := tw_of (ids := [241, 243, 245, 247, 249, 251, 253, 255, 257, 259, 261, 263]) (by decide +kernel)
theorem iwX1 : ∀ w ∈ wslX1, w ∈ TW := tw_of (ids := [219, 221]) (by decide +kernel)
theorem iwX2 : ∀ w ∈ wslX2, w ∈ TW := tw_of (ids := [186, 188, 190, 192, 194, 196, 198, 200, 202, 204, 206, 208]) (by decide +kernel)
theorem iwX3 : ∀ w ∈ wslX3, w ∈ TW := tw_of (ids := [283, 285]) (by decide +kernel)
theorem iwX4 : ∀ w ∈ wslX4, w ∈ TW := tw_of (ids := [301, 303, 305, 307, 309, 311, 313, 315]) (by decide +kernel)
theorem iwX5 : ∀ w ∈ wslX5, w ∈ TW := tw_of (ids := [136, 138, 140, 142, 144, 146, 148]) (by decide +kernel)
theorem iwX6 : ∀ w ∈ wslX6, w ∈ TW := tw_of (ids := [327, 329, 331, 333, 335, 337, 339]) (by decide +kernel)
theorem iwX7 : ∀ w ∈ wslX7, w ∈ TW := tw_of (ids := [961, 963, 965, 967, 969, 971, 973, 975, 977, 979, 981, 983, 985, 987, 989, 991, 993, 995, 997, 999, 1001, 1003, 1005]) (by decide +kernel)
end
section
abbrev Mem : Type := Nat → Nat → Int32
def up2 (mm : Mem) (c i : Nat) (v : Int32) : Mem := fun a j => if a = c ∧ j = i then v else mm a j
def Kl : List Nat := [7, 8, 8, 9, 8, 8, 8, 8, 8, 8, 8, 8, 8, 8, 6, 0, 1, 5, 8, 8, 8, 8, 8, 8, 2, 8, 8, 8, 8, 8, 8, 8, 8, 8, 8, 8, 8, 8, 8, 8, 8, 8, 8, 8, 0, 1, 5, 8, 8, 8, 8, 8, 8, 2, 8, 8, 8, 8, 8, 8, 8, 8, 8, 8, 8, 8, 8, 8, 8, 8, 8, 8, 8, 4, 3, 8, 1, 5, 8, 8, 8, 8, 8, 8, 2, 8, 8, 8, 8, 8, 8, 8, 8, 8, 8, 1, 5, 8, 8, 8, 8, 8, 8, 2, 8, 8, 8, 8, 8, 8, 8, 8, 8, 8, 1, 5, 8, 8, 8, 8, 8, 8, 2, 8, 8, 8, 8, 8, 8, 8, 8, 8, 8, 10]
def Ll : List Nat := [0, 235, 470, 2, 235, 6, 6, 6, 6, 6, 48, 7, 500, 6, 0, 0, 0, 0, 6, 6, 6, 6, 24, 24, 0, 4, 12, 12, 12, 12, 12, 12, 12, 36, 36, 6, 6, 6, 48, 48, 48, 6, 6, 6, 0, 0, 0, 6, 6, 6, 6, 24, 24, 0, 4, 12, 12, 12, 12, 12, 12, 12, 36, 36, 6, 6, 6, 48, 48, 48, 6, 6, 6, 0, 0, 500, 0, 0, 6, 6, 6, 6, 24, 24, 0, 4, 12, 12, 12, 12, 12, 12, 12, 36, 36, 0, 0, 6, 6, 6, 6, 24, 24, 0, 4, 12, 12, 12, 12, 12, 12, 12, 36, 36, 0, 0, 6, 6, 6, 6, 24, 24, 0, 4, 12, 12, 12, 12, 12, 12, 12, 36, 36, 1]
def kd (c : Nat) : Nat := Kl.getD c 99
def ln (c : Nat) : Nat := Ll.getD c 0
def nfl (ci : Nat) : Nat := match ci with | 0 => 12 | 1 => 2 | 2 => 12 | 3 => 2 | 4 => 8 | 5 => 7 | 6 => 7 | 7 => 23 | _ => 0
def rfk (ci k c : Nat) : Option Nat := match ci, k with | 0, 0 => some (c + 1) | 0, 1 => some (c + 20) | 0, 2 => some (c + 21) | 0, 3 => some (c + 22) | 0, 4 => some (c + 23) | 0, 5 => some (c + 24) | 0, 6 => some (c + 25) | 0, 7 => some (c + 26) | 0, 8 => some (c + 27) | 0, 9 => some (c + 28) | 1, 0 => some (c + 1) | 1, 1 => some (c + 8) | 2, 2 => some (c + 1) | 2, 3 => some (c + 2) | 2, 4 => some (c + 3) | 2, 5 => some (c + 4) | 2, 6 => some (c + 5) | 2, 7 => some (c + 6) | 2, 8 => some (c + 7) | 2, 9 => some (c + 8) | 2, 10 => some (c + 9) | 2, 11 => some (c + 10) | 3, 0 => some (75) | 4, 0 => some (74) | 4, 1 => some (76) | 5, 1 => some (c + 1) | 5, 2 => some (c + 2) | 5, 3 => some (c + 3) | 5, 4 => some (c + 4) | 5, 5 => some (c + 5) | 5, 6 => some (c + 6) | 6, 0 => some (15) | 6, 1 => some (44) | 6, 2 => some (73) | 6, 3 => some (95) | 6, 4 => some (114) | 7, 1 => some (1) | 7, 2 => some (2) | 7, 3 => some (3) | 7, 4 => some (4) | 7, 7 => some (5) | 7, 8 => some (6) | 7, 9 => some (7) | 7, 10 => some (8) | 7, 11 => some (9) | 7, 12 => some (10) | 7, 13 => some (11) | 7, 14 => some (12) | 7, 22 => some (13) | _, _ => none
abbrev zcls : List vw_C := [(RX0, TX0, 12), (RX1, TX1, 2), (RX2, TX2, 12), (RX3, TX3, 2), (RX4, TX4, 8), (RX5, TX5, 7), (RX6, TX6, 7), (RX7, TX7, 23)]
def tyA (ci : Nat) : Nat → FieldType := match ci with | 0 => tyX0 | 1 => tyX1 | 2 => tyX2 | 3 => tyX3 | 4 => tyX4 | 5 => tyX5 | 6 => tyX6 | 7 => tyX7 | _ => fun _ => .int
/-- addresses of the cells by their ids, classes, the array classes (int, boolean, long), the texts' rows -/
abbrev Cfg : Type := (Nat → Nat) × va_G × ClassId × ClassId × ClassId × (Nat → Nat)
abbrev Lv : Type := List (Nat × Value)
abbrev Tb : Type := List (Nat × Instr × Nat × Nat)
abbrev NC : Nat := 134
def cvv (C : Cfg) : Value → Value
  | .ref a => .ref (C.1 a)
  | .null => .null
  | .int x => .int x
  | .long x => .long x
  | .float x => .float x
  | .double x => .double x
  | .retAddr x => .retAddr x
def fvv (C : Cfg) (f : Nat → Int32) (ci c k : Nat) : Value := match rfk ci k c with
  | some q => .ref (C.1 q)
  | none => .int (f k)
def fl (C : Cfg) (f : Nat → Int32) (ci c : Nat) : List Value := (List.range (nfl ci)).map (fvv C f ci c)
def celx (C : Cfg) (c : Nat) (f : Nat → Int32) : va_E :=
  if kd c < 8 then .inr (kd c, fl C f (kd c) c) else if kd c = 8 then .inl (C.2.2.1, ln c, .inl f) else if kd c = 9 then .inl (C.2.2.2.1, ln c, .inl f) else .inl (C.2.2.2.2.1, ln c, .inr (.inl (fun i => (f i).toInt64)))
def cel (C : Cfg) (mm : Mem) (c : Nat) : va_E := celx C c (mm c)
def wl (C : Cfg) (mm : Mem) : va_W := (List.range NC).map (fun c => (C.1 c, cel C mm c))
def tys (C : Cfg) : List (ClassId × FieldType) := [(C.2.2.1, .int), (C.2.2.2.1, .boolean), (C.2.2.2.2.1, .long)]
def ztx : List (Nat × String × List Int32) := [(42, "zone", [122, 111, 110, 101]), (51, "curve", [99, 117, 114, 118, 101]), (56, "resource", [114, 101, 115, 111, 117, 114, 99, 101]), (61, "offer", [111, 102, 102, 101, 114]), (66, "floor", [102, 108, 111, 111, 114]), (71, "ceiling", [99, 101, 105, 108, 105, 110, 103]), (76, "limits", [108, 105, 109, 105, 116, 115]), (130, "must", [109, 117, 115, 116]), (135, "free", [102, 114, 101, 101])]
def ztl : List Nat := ztx.map (fun q => q.2.2.length)
def ztb : List (List Int32) := ztx.map (fun q => q.2.2)
/-- the texts, and the static field that their methods read -/
def Sx (C : Cfg) (A : Nat → Prop) (U : State) (H : Heap) : Prop :=
  vk_S 9 ztl ztb (fun i => C.1 (1000 + i)) C.2.2.2.2.2 A U H ∧ (∀ i q, ztx[i]? = some q → vk_R "ZoneCapacity$Teller" q.1 q.2.1 (C.1 (1000 + i)) U) ∧ va_Z "java/lang/String" "COMPACT_STRINGS" "Z" (.int 1) A U H
theorem Sx.go {C : Cfg} {A B : Nat → Prop} {s U : State} {H H1 : Heap} (h : Sx C A s H) (hW : s.WarmedH U.vm) (hAB : ∀ q, B q → A q) (hq : ∀ a : Nat, a < H.size → ¬ A a → H1[a]? = H[a]?) : Sx C B U H1 :=
  ⟨((h.1.moved hW.alike).kept hq).narrow hAB, fun i q e => (h.2.1 i q e).warm hW, ((h.2.2.moved hW.alike).kept hq).narrow hAB⟩
def Aw (C : Cfg) : Nat → Prop := fun q => ∃ c, c < NC ∧ C.1 c = q
def Wd (C : Cfg) (mm : Mem) (U : State) : Prop := va_P C.2.1 zcls (wl C mm) U.heap ∧ va_K C.2.1 zcls (tys C) U ∧ Sx C (Aw C) U U.heap
def Dj (C : Cfg) : Prop := ∀ i j : Nat, i < NC → j < NC → C.1 i = C.1 j → i = j
def Ob (c ci : Nat) : Prop := c < NC ∧ kd c = ci
abbrev Ev : Type := Program × Launch × Env × Room × State × MethodId × Array Value × List Frame × Method × Code × (State → Prop) × Cfg × Nat × Nat × (Nat → Prop) × Option Value × Mem
def G : Ev → Nat → Nat → Lv → List Value → Mem → Prop
  | (p, l, e, R, s, m, args, below, meth, c, Q, C, kc, ks, A, _, _), nL, pc, lv, st, mm => ∀ (H : Heap) (locs : List Loc) (ls : Array Slot), va_P C.2.1 zcls (wl C mm) H → va_S A s.heap H locs → lv_has ls nL (lv.map (fun q => (q.1, cvv C q.2))) → W p l e R s m args below meth c H locs kc ks Q (F0 m pc ls (st.map (cvv C)))
def Bx : Ev → String → Tb → Nat → Option FieldType → Prop
  | (p, _, _, R, s, m, args, _, meth, c, _, C, kc, ks, A, _, _), own, tb, nL, ret => p.tables.exec = Jvm.exec ∧ (∀ q ∈ tb, decode c.code q.1 = .ok (q.2.1, q.2.2.1) ∧ q.1 + q.2.2.1 = q.2.2.2) ∧ c.maxLocals = nL ∧ s.vm.findClass own = some m.cls ∧ (∀ w ∈ TW, w.before args s = true) ∧ va_K C.2.1 zcls (tys C) s ∧ Dj C ∧ (∀ c, c < NC → A (C.1 c)) ∧ Sx C A s s.heap ∧ meth.sig.returnType = ret ∧ meth.locks = false ∧ kc ≤ R.cells ∧ ks ≤ R.slots
/-- which end the state is asked for: a method's own -/
def QC (C : Cfg) (A : Nat → Prop) (r : Option Value) (mo : Mem) : Array Value → State → Outcome → State → Prop := fun _ st oc t => oc = .returned (r.map (cvv C)) ∧ Wd C mo t ∧ va_F A st t
def Rt : Ev → Prop
  | (_, _, _, _, s, _, args, below, _, _, Q, C, kc, ks, A, res, mo) => Q = MQ below (QC C A res mo) args s kc ks A
def Rs : Ev → Option Value → Mem → Prop
  | (_, _, _, _, _, _, _, _, _, _, _, _, _, _, _, res, mo), r, mm => res = r ∧ mo = mm
/-- what is known of a method that is called: its code, its number of arguments -/
def MI (y : MethodName) (bytes : ByteArray) (maxL : Nat) (rt : Option FieldType) (n : Nat) : Prop := Cond.code y bytes maxL rt ∈ TW ∧ plainName y.cls = true ∧ (y.cls ≠ "java/lang/invoke/MethodHandle" ∧ y.cls ≠ "java/lang/invoke/VarHandle" ∧ (parseMethodDescriptor y.desc).map (fun d => d.parameters.length) = some n) ∧ Cond.initialized y.cls ∈ TW
/-- launch, configuration and room of the walk -/
def Ec : Ev → Launch → Cfg → Room → Prop
  | (_, l, _, R, _, _, _, _, _, _, _, C, _, _, _, _, _), l', C', R' => l = l' ∧ C = C' ∧ R = R'
section BXS
variable {p : Program} {l : Launch} {e : Env} {R : Room} {s : State} {m : MethodId} {args : Array Value} {below : List Frame} {meth : Method} {c : Code} {Q : State → Prop} {C : Cfg} {kc ks : Nat} {A : Nat → Prop} {res : Option Value} {mo : Mem} {own : String} {tb : Tb} {nL : Nat} {ret : Option FieldType}
variable {pc nx len : Nat} {ins : Instr} {mm : Mem} {H : Heap} {locs : List Loc} {ls : Array Slot} {rest : List Value}
theorem Bx.dec (B : Bx (p, l, e, R, s, m, args, below, meth, c, Q, C, kc, ks, A, res, mo) own tb nL ret) {i : Nat} (h : tb[i]? = some (pc, ins, len, nx)) : decode c.code pc = .ok (ins, len) ∧ pc + len = nx := by
  have h1 : ∀ q ∈ tb, decode c.code q.1 = .ok (q.2.1, q.2.2.1) ∧ q.1 + q.2.2.1 = q.2.2.2 := B.2.1
  exact h1 (pc, ins, len, nx) (List.mem_of_getElem? h)
theorem Bx.hown (B : Bx (p, l, e, R, s, m, args, below, meth, c, Q, C, kc, ks, A, res, mo) own tb nL ret) : s.vm.findClass own = some m.cls := B.2.2.2.1
theorem Bx.tw (B : Bx (p, l, e, R, s, m, args, below, meth, c, Q, C, kc, ks, A, res, mo) own tb nL ret) : ∀ w ∈ TW, w.before args s = true := B.2.2.2.2.1
theorem Bx.K (B : Bx (p, l, e, R, s, m, args, below, meth, c, Q, C, kc, ks, A, res, mo) own tb nL ret) : va_K C.2.1 zcls (tys C) s := B.2.2.2.2.2.1
theorem Bx.dj (B : Bx (p, l, e, R, s, m, args, below, meth, c, Q, C, kc, ks, A, res, mo) own tb nL ret) : Dj C := B.2.2.2.2.2.2.1
theorem Bx.aa (B : Bx (p, l, e, R, s, m, args, below, meth, c, Q, C, kc, ks, A, res, mo) own tb nL ret) : ∀ c, c < NC → A (C.1 c) := B.2.2.2.2.2.2.2.1
theorem Bx.sx (B : Bx (p, l, e, R, s, m, args, below, meth, c, Q, C, kc, ks, A, res, mo) own tb nL ret) : Sx C A s s.heap := B.2.2.2.2.2.2.2.2.1
theorem Bx.ml (B : Bx (p, l, e, R, s, m, args, below, meth, c, Q, C, kc, ks, A, res, mo) own tb nL ret) : c.maxLocals = nL := B.2.2.1
theorem Bx.rt (B : Bx (p, l, e, R, s, m, args, below, meth, c, Q, C, kc, ks, A, res, mo) own tb nL ret) : meth.sig.returnType = ret := B.2.2.2.2.2.2.2.2.2.1
theorem Bx.lk (B : Bx (p, l, e, R, s, m, args, below, meth, c, Q, C, kc, ks, A, res, mo) own tb nL ret) : meth.locks = false := B.2.2.2.2.2.2.2.2.2.2.1
theorem Bx.rm (B : Bx (p, l, e, R, s, m, args, below, meth, c, Q, C, kc, ks, A, res, mo) own tb nL ret) : kc ≤ R.cells ∧ ks ≤ R.slots := B.2.2.2.2.2.2.2.2.2.2.2
theorem cvv_cat (C : Cfg) (v : Value) : (cvv C v).category = v.category := by cases v <;> rfl
theorem lvm {C : Cfg} {lv : Lv} {j q : Nat} {v : Value} (h : lv[j]? = some (q, v)) : (lv.map (fun q => (q.1, cvv C q.2)))[j]? = some (q, cvv C v) := by
  rw [List.getElem?_map, h]
  rfl
theorem lvs {C : Cfg} {lv lv' : Lv} {js : List Nat} (h : js.filterMap (fun j => lv[j]?) = lv') : lv_pick (lv.map (fun q => (q.1, cvv C q.2))) js = lv'.map (fun q => (q.1, cvv C q.2)) := by
  subst h
  unfold lv_pick
  rw [List.map_filterMap]
  congr 1
  funext j
  rw [List.getElem?_map]
def zs1 (lv : Lv) (i : Nat) (v : Value) : Lv := (i, v) :: lv.filter (fun q => !(q.1 == i) && !(q.1 + 1 == i && q.2.category == 2))
def zs2 (lv : Lv) (i : Nat) (v : Value) : Lv := (i, v) :: lv.filter (fun q => !(q.1 == i) && (!(q.1 == i + 1) && !(q.1 + 1 == i && q.2.category == 2)))
theorem zs1_map (C : Cfg) (lv : Lv) (i : Nat) (v : Value) : (i, cvv C v) :: (lv.map (fun q => (q.1, cvv C q.2))).filter (fun q => !(q.1 == i) && !(q.1 + 1 == i && q.2.category == 2)) = (zs1 lv i v).map (fun q => (q.1, cvv C q.2)) := by
  unfold zs1
  rw [List.map_cons, List.filter_map]
  congr 3
  funext q
  simp only [Function.comp, cvv_cat]
theorem zs2_map (C : Cfg) (lv : Lv) (i : Nat) (v : Value) : (i, cvv C v) :: (lv.map (fun q => (q.1, cvv C q.2))).filter (fun q => !(q.1 == i) && (!(q.1 == i + 1) && !(q.1 + 1 == i && q.2.category == 2))) = (zs2 lv i v).map (fun q => (q.1, cvv C q.2)) := by
  unfold zs2
  rw [List.map_cons, List.filter_map]
  congr 3
  funext q
  simp only [Function.comp, cvv_cat]
theorem i32_nlt {x y : Int32} (h : ¬ x < y) : y ≤ x := Int32.not_lt.mp h
theorem i32_nlt2 {x y : Int32} (h : y ≤ x) : ¬ x < y := Int32.not_lt.mpr h
def inb (i : Int32) (n : Nat) : Bool := !(decide (i < 0) || decide (n ≤ i.toNatClampNeg))
theorem inb_in {i : Int32} {n : Nat} (h : inb i n = true) : vp_in i n := by
  unfold inb at h
  unfold vp_in
  simpa using h
theorem wl_get {C : Cfg} {mm : Mem} {q : Nat} (h : q < NC) : (wl C mm)[q]? = some (C.1 q, cel C mm q) := by
  unfold wl
  rw [List.getElem?_map, List.getElem?_range h]
  rfl
theorem wl_at {C : Cfg} {mm : Mem} {q : Nat} {x : Nat × va_E} (h : (wl C mm)[q]? = some x) : q < NC ∧ x = (C.1 q, cel C mm q) := by
  by_cases hq : q < NC
  · rw [wl_get hq] at h
    exact ⟨hq, (Option.some.inj h).symm⟩
  · unfold wl at h
    rw [List.getElem?_map, List.getElem?_eq_none (by rw [List.length_range]; omega)] at h
    cases h
theorem wl_D (B : Bx (p, l, e, R, s, m, args, below, meth, c, Q, C, kc, ks, A, res, mo) own tb nL ret) (mm : Mem) : va_D A (wl C mm) := by
  refine ⟨fun i j x y hx hy hxy => ?_, fun k x hx => ?_⟩
  · obtain ⟨h1, rfl⟩ := wl_at hx
    obtain ⟨h2, rfl⟩ := wl_at hy
    exact B.dj i j h1 h2 hxy
  · obtain ⟨h1, rfl⟩ := wl_at hx
    exact B.aa k h1
theorem cel_obj {C : Cfg} {mm : Mem} {q ci : Nat} (h : kd q = ci) (hc : ci < 8) : cel C mm q = .inr (ci, fl C (mm q) ci q) := by
  unfold cel celx
  rw [h, if_pos hc]
theorem wl_arr {C : Cfg} {mm : Mem} {q : Nat} (h : Ob q 8) : (wl C mm)[q]? = some (C.1 q, .inl (C.2.2.1, ln q, .inl (mm q))) := by
  rw [wl_get h.1]
  unfold cel celx
  rw [h.2]
  rfl
theorem wl_arz {C : Cfg} {mm : Mem} {q : Nat} (h : Ob q 9) : (wl C mm)[q]? = some (C.1 q, .inl (C.2.2.2.1, ln q, .inl (mm q))) := by
  rw [wl_get h.1]
  unfold cel celx
  rw [h.2]
  rfl
theorem wl_arl {C : Cfg} {mm : Mem} {q : Nat} (h : Ob q 10) : (wl C mm)[q]? = some (C.1 q, .inl (C.2.2.2.2.1, ln q, .inr (.inl (fun i => (mm q i).toInt64)))) := by
  rw [wl_get h.1]
  unfold cel celx
  rw [h.2]
  rfl
theorem up2_eq (mm : Mem) (q k : Nat) (v : Int32) : up2 mm q k v q = upd (mm q) k v := by
  funext j
  simp [up2, upd]
theorem up2_ne (mm : Mem) {q c : Nat} (k : Nat) (v : Int32) (h : c ≠ q) : up2 mm q k v c = mm c := by
  funext j
  simp [up2, h]
theorem cel_congr {C : Cfg} {mm mm' : Mem} {c : Nat} (h : mm' c = mm c) : cel C mm' c = cel C mm c := congrArg (celx C c) h
theorem wl_upd {C : Cfg} {mm mm' : Mem} {q : Nat} {x : va_E} (hq : q < NC) (he : cel C mm' q = x) (ho : ∀ c, c ≠ q → mm' c = mm c) : (wl C mm).set q (C.1 q, x) = wl C mm' := by
  apply List.ext_getElem?
  intro j
  by_cases hj : j = q
  · subst hj
    rw [List.getElem?_set_self (by unfold wl; rw [List.length_map, List.length_range]; exact hq), wl_get hq, he]
  · rw [List.getElem?_set_ne (Ne.symm hj)]
    by_cases hl : j < NC
    · rw [wl_get hl, wl_get hl, cel_congr (ho j hj)]
    · unfold wl
      rw [List.getElem?_map, List.getElem?_map, List.getElem?_eq_none (by rw [List.length_range]; omega), Option.map_none, Option.map_none]
theorem wl_setI {C : Cfg} {mm : Mem} {q : Nat} (h : Ob q 8) (k : Nat) (v : Int32) : (wl C mm).set q (C.1 q, .inl (C.2.2.1, ln q, .inl (upd (mm q) k v))) = wl C (up2 mm q k v) := by
  refine wl_upd h.1 ?_ (fun c hc => up2_ne mm k v hc)
  unfold cel celx
  rw [h.2, up2_eq]
  rfl
theorem wl_setZ {C : Cfg} {mm : Mem} {q : Nat} (h : Ob q 9) (k : Nat) (v : Int32) : (wl C mm).set q (C.1 q, .inl (C.2.2.2.1, ln q, .inl (upd (mm q) k v))) = wl C (up2 mm q k v) := by
  refine wl_upd h.1 ?_ (fun c hc => up2_ne mm k v hc)
  unfold cel celx
  rw [h.2, up2_eq]
  rfl
theorem wl_setL {C : Cfg} {mm : Mem} {q : Nat} (h : Ob q 10) (k : Nat) (v : Int32) : (wl C mm).set q (C.1 q, .inl (C.2.2.2.2.1, ln q, .inr (.inl (vp_updL (fun i => (mm q i).toInt64) k v.toInt64)))) = wl C (up2 mm q k v) := by
  refine wl_upd h.1 ?_ (fun c hc => up2_ne mm k v hc)
  unfold cel celx
  rw [h.2, up2_eq]
  have : (fun i => (upd (mm q) k v i).toInt64) = vp_updL (fun i => (mm q i).toInt64) k v.toInt64 := by
    funext i
    unfold upd vp_updL
    by_cases hi : i = k <;> simp [hi]
  rw [this]
  rfl
theorem fl_len (C : Cfg) (f : Nat → Int32) (ci q : Nat) : (fl C f ci q).length = nfl ci := by
  unfold fl
  rw [List.length_map, List.length_range]
theorem fl_get (C : Cfg) (f : Nat → Int32) {ci q k : Nat} (h : k < nfl ci) : (fl C f ci q)[k]? = some (fvv C f ci q k) := by
  unfold fl
  rw [List.getElem?_map, List.getElem?_range h]
  rfl
theorem wl_setF {C : Cfg} {mm : Mem} {q ci : Nat} (h : Ob q ci) (hc : ci < 8) {k : Nat} (hk : k < nfl ci) (hr : rfk ci k q = none) (v : Int32) : (wl C mm).set q (C.1 q, .inr (ci, (fl C (mm q) ci q).set k (.int v))) = wl C (up2 mm q k v) := by
  refine wl_upd h.1 ?_ (fun c hc => up2_ne mm k v hc)
  rw [cel_obj h.2 hc]
  congr 2
  apply List.ext_getElem?
  intro j
  by_cases hj : j = k
  · subst hj
    rw [List.getElem?_set_self (by rw [fl_len]; exact hk), fl_get _ _ hk]
    unfold fvv
    rw [hr]
    simp [up2]
  · rw [List.getElem?_set_ne (Ne.symm hj)]
    by_cases hl : j < nfl ci
    · rw [fl_get _ _ hl, fl_get _ _ hl]
      unfold fvv
      cases rfk ci j q with
      | some z => rfl
      | none => simp [up2, hj]
    · rw [List.getElem?_eq_none (by rw [fl_len]; omega), List.getElem?_eq_none (by rw [fl_len]; omega)]
-- the classes' tables
def zfl (ci k : Nat) : Option (String × String × String) := match zcls[ci]? with
  | some x => if k < x.2.2 then some ((x.2.1 k).1, (x.2.1 k).2.1, (x.2.1 k).2.2.1) else none
  | none => none
def zfin (ci k : Nat) : Bool := match zcls[ci]? with
  | some x => (x.2.1 k).2.2.2
  | none => true
theorem zcls_lt {ci : Nat} {x : vw_C} (h : zcls[ci]? = some x) : ci < 8 := (List.getElem?_eq_some_iff.mp h).1
theorem zcls_ok {ci : Nat} {x : vw_C} (h : zcls[ci]? = some x) : (∀ w ∈ u_ws x.1 x.2.1 x.2.2, w ∈ TW) ∧ x.2.2 = nfl ci ∧ (∀ k, k < x.2.2 → parseFieldDescriptor (x.2.1 k).2.2.1 = some (tyA ci k)) ∧ (∀ a, a < x.2.2 → ∀ b, b < x.2.2 → a ≠ b → (x.2.1 a).2.1 ≠ (x.2.1 b).2.1) := by
  have hl := zcls_lt h
  match ci, hl, h with
  | 0, _, h => cases h; exact ⟨iwX0, rfl, tyX0_ok, nmX0⟩
  | 1, _, h => cases h; exact ⟨iwX1, rfl, tyX1_ok, nmX1⟩
  | 2, _, h => cases h; exact ⟨iwX2, rfl, tyX2_ok, nmX2⟩
  | 3, _, h => cases h; exact ⟨iwX3, rfl, tyX3_ok, nmX3⟩
  | 4, _, h => cases h; exact ⟨iwX4, rfl, tyX4_ok, nmX4⟩
  | 5, _, h => cases h; exact ⟨iwX5, rfl, tyX5_ok, nmX5⟩
  | 6, _, h => cases h; exact ⟨iwX6, rfl, tyX6_ok, nmX6⟩
  | 7, _, h => cases h; exact ⟨iwX7, rfl, tyX7_ok, nmX7⟩
  | n + 8, hl, _ => omega
theorem zfl_spec {ci k : Nat} {rn nm d : String} (h : zfl ci k = some (rn, nm, d)) : ∃ x : vw_C, zcls[ci]? = some x ∧ k < x.2.2 ∧ (x.2.1 k).1 = rn ∧ (x.2.1 k).2.1 = nm ∧ (x.2.1 k).2.2.1 = d := by
  unfold zfl at h
  cases hx : zcls[ci]? with
  | none => rw [hx] at h; cases h
  | some x =>
    rw [hx] at h
    dsimp only at h
    by_cases hk : k < x.2.2
    · rw [if_pos hk] at h
      cases h
      exact ⟨x, rfl, hk, rfl, rfl, rfl⟩
    · rw [if_neg hk] at h
      cases h
theorem zgetf (B : Bx (p, l, e, R, s, m, args, below, meth, c, Q, C, kc, ks, A, res, mo) own tb nL ret) (hP : va_P C.2.1 zcls (wl C mm) H) {q ci kf n : Nat} (hq : Ob q ci) (hd : decode c.code pc = .ok (.getfield n, 3)) {rn nm d : String} (hw : Cond.fieldLink own n rn nm d ∈ TW) (hf : zfl ci kf = some (rn, nm, d)) {v : Value} (hv : fvv C (mm q) ci q kf = v) (k : W p l e R s m args below meth c H locs kc ks Q (F0 m (pc + 3) ls (v :: rest))) : W p l e R s m args below meth c H locs kc ks Q (F0 m pc ls (.ref (C.1 q) :: rest)) := by
  obtain ⟨⟨Cn, T, N⟩, hx, hk, rfl, rfl, rfl⟩ := zfl_spec hf
  obtain ⟨hws, hN, hty, hnm⟩ := zcls_ok hx
  refine va_get (C := Cn) (T := T) (N := N) (fs := fl C (mm q) ci q) B.1 rfl B.tw hws B.hown B.K hP q ?_ hx kf hk (B.tw _ hw) (fun _ h => h) ?_ hd k
  · rw [wl_get hq.1, cel_obj hq.2 (zcls_lt hx)]
  · rw [fl_get _ _ (hN ▸ hk), hv]
theorem zputf (B : Bx (p, l, e, R, s, m, args, below, meth, c, Q, C, kc, ks, A, res, mo) own tb nL ret) (hP : va_P C.2.1 zcls (wl C mm) H) (hS : va_S A s.heap H locs) {q ci kf n : Nat} (hq : Ob q ci) (hr : rfk ci kf q = none) (hd : decode c.code pc = .ok (.putfield n, 3)) {rn nm d : String} (hw : Cond.fieldLink own n rn nm d ∈ TW) (hf : zfl ci kf = some (rn, nm, d)) {ty : FieldType} (hd0 : parseFieldDescriptor d = some ty) (hfin : zfin ci kf = false) {v : Int32} (hv : narrow ty (.int v) = .int v) (hfit : fits ty (.int v) = true)
    (k : ∀ (H1 : Heap) (locs1 : List Loc), va_P C.2.1 zcls (wl C (up2 mm q kf v)) H1 → va_S A s.heap H1 locs1 → W p l e R s m args below meth c H1 locs1 kc ks Q (F0 m (pc + 3) ls rest)) : W p l e R s m args below meth c H locs kc ks Q (F0 m pc ls (.int v :: .ref (C.1 q) :: rest)) := by
  obtain ⟨⟨Cn, T, N⟩, hx, hk, rfl, rfl, rfl⟩ := zfl_spec hf
  obtain ⟨hws, hN, hty, hnm⟩ := zcls_ok hx
  have hfin' : (T kf).2.2.2 = false := by unfold zfin at hfin; rw [hx] at hfin; exact hfin
  have hc8 := zcls_lt hx
  refine va_put (C := Cn) (T := T) (N := N) (ty := ty) (fs := fl C (mm q) ci q) B.1 rfl B.tw hws (tyA ci) hty hnm B.hown B.K hP (wl_D B mm) hS q ?_ hx kf hk (B.tw _ hw) (fun _ h => h) hfin' hd0 hv hfit ?_ hd (fun H1 locs1 hP1 _ hS1 => ?_)
  · rw [wl_get hq.1, cel_obj hq.2 hc8]
  · rw [fl_len]; exact hN ▸ hk
  · rw [wl_setF hq hc8 (hN ▸ hk) hr v] at hP1
    exact k H1 locs1 hP1 hS1
-- what a method's end asks, out of the state there
theorem Wd_end (B : Bx (p, l, e, R, s, m, args, below, meth, c, Q, C, kc, ks, A, res, mo) own tb nL ret) (hP : va_P C.2.1 zcls (wl C mm) H) (hS : va_S A s.heap H locs) {t : State} (ht : t.heap = H) (hW : s.WarmedH t.vm) : Wd C mm t := by
  refine ⟨by rw [ht]; exact hP, va_K.moved hW.alike B.K, ?_⟩
  rw [ht]
  exact B.sx.go hW (fun q hq => by obtain ⟨c, h1, rfl⟩ := hq; exact B.aa c h1) hS.2.1
theorem z_iret {E : Ev} {own : String} {tb : Tb} {nL : Nat} {ty : FieldType} {pc nx : Nat} {lv : Lv} {mm : Mem} {v : Int32} (B : Bx E own tb nL (some ty)) (i : Nat) (h : tb[i]? = some (pc, .ireturn, 1, nx)) (hn : narrow ty (.int v) = .int v) (hQ : Rt E) (hr : Rs E (some (.int v)) mm) : G E nL pc lv [.int v] mm := by
  obtain ⟨p, l, e, R, s, m, args, below, meth, c, Q, C, kc, ks, A, res, mo⟩ := E
  obtain ⟨hd, -⟩ := Bx.dec B h
  obtain ⟨rfl, rfl⟩ := hr
  have hQ : Q = MQ below (QC C A _ _) args s kc ks A := hQ
  subst hQ
  intro H locs ls hP hS hl
  exact W.zret (v := v) B.1 rfl B.rt hn (fun t ht hW => ⟨rfl, Wd_end B hP hS ht hW, hS.F ht⟩) hS.2.2 hd B.lk
theorem z_lret {E : Ev} {own : String} {tb : Tb} {nL : Nat} {pc nx : Nat} {lv : Lv} {mm : Mem} {v : Int64} (B : Bx E own tb nL (some .long)) (i : Nat) (h : tb[i]? = some (pc, .lreturn, 1, nx)) (hQ : Rt E) (hr : Rs E (some (.long v)) mm) : G E nL pc lv [.long v] mm := by
  obtain ⟨p, l, e, R, s, m, args, below, meth, c, Q, C, kc, ks, A, res, mo⟩ := E
  obtain ⟨hd, -⟩ := Bx.dec B h
  obtain ⟨rfl, rfl⟩ := hr
  have hQ : Q = MQ below (QC C A _ _) args s kc ks A := hQ
  subst hQ
  intro H locs ls hP hS hl
  exact W.lret (v := v) B.1 rfl B.rt (fun t ht hW => ⟨rfl, Wd_end B hP hS ht hW, hS.F ht⟩) hS.2.2 hd B.lk
theorem z_vret {E : Ev} {own : String} {tb : Tb} {nL : Nat} {pc nx : Nat} {lv : Lv} {mm : Mem} (B : Bx E own tb nL none) (i : Nat) (h : tb[i]? = some (pc, .return_, 1, nx)) (hQ : Rt E) (hr : Rs E none mm) : G E nL pc lv [] mm := by
  obtain ⟨p, l, e, R, s, m, args, below, meth, c, Q, C, kc, ks, A, res, mo⟩ := E
  obtain ⟨hd, -⟩ := Bx.dec B h
  obtain ⟨rfl, rfl⟩ := hr
  have hQ : Q = MQ below (QC C A _ _) args s kc ks A := hQ
  subst hQ
  intro H locs ls hP hS hl
  exact W.vret B.1 rfl B.rt (fun t ht hW => ⟨rfl, Wd_end B hP hS ht hW, hS.F ht⟩) hS.2.2 hd B.lk
/-- a contract: over every world that holds mm the method ends with r, and the world holds mo -/
def Ct (l : Launch) (C : Cfg) (y : MethodName) (bytes : ByteArray) (maxL : Nat) (ret : Option FieldType) (fr lo : Nat) (av : List Value) (mm : Mem) (r : Option Value) (mo : Mem) : Prop :=
  Met l y (Cond.code y bytes maxL ret :: TW) ({ frames := fr, cells := 0, slots := 0, locals := lo }) (va_Pc (av.map (cvv C)) (Wd C mm)) (QC C (Aw C) r mo) 0 0 (Aw C)
/-- a method's body, out of G at its entry -/
theorem Ct.of {l : Launch} {C : Cfg} (hj : Dj C) {y : MethodName} {bytes : ByteArray} {nL fr lo : Nat} {ret : Option FieldType} {av : List Value} {mm mo : Mem} {r : Option Value} {tb : Tb} (hy : plainName y.cls = true) (hcode : Cond.code y bytes nL ret ∈ TW) (htb : ∀ q ∈ tb, decode bytes q.1 = .ok (q.2.1, q.2.2.1) ∧ q.1 + q.2.2.1 = q.2.2.2) (hlen : (lg_sl (av.map (fun v => match v with | .long _ => Value.long 0 | .double _ => .double 0 | _ => .null))).length ≤ nL)
    (body : ∀ E : Ev, Bx E y.cls tb nL ret → Rt E → Rs E r mo → Ec E l C ({ frames := fr, cells := 0, slots := 0, locals := lo } : Room) → G E nL 0 (lv_args 0 av) [] mm) : Ct l C y bytes nL ret fr lo av mm r mo := by
  refine Met.ofW (cc := bytes) (maxL := nL) (ret := ret) hy rfl ?_
  intro p e s m args below meth c s₁ B hml hv
  obtain ⟨rfl, hP, hK, hSx⟩ := hv
  have hts : ∀ w ∈ TW, w.before (av.map (cvv C)).toArray s = true := fun w hw => atoms_spec (ws := Cond.code y bytes nL ret :: TW) B.pre w (List.mem_cons_of_mem _ hw)
  have hB : Bx (p, l, e, ({ frames := fr, cells := 0, slots := 0, locals := lo } : Room), s, m, (av.map (cvv C)).toArray, below, meth, c, MQ below (QC C (Aw C) r mo) (av.map (cvv C)).toArray s 0 0 (Aw C), C, 0, 0, Aw C, r, mo) y.cls tb nL ret :=
    ⟨B.exec, fun q hq => by rw [B.bytes]; exact htb q hq, hml, findClass_of_methodNamed B.named, hts, hK, hj, fun c hc => ⟨c, hc, rfl⟩, hSx, B.returns, B.notSynchronized, Nat.zero_le _, Nat.zero_le _⟩
  have hG := body _ hB rfl ⟨rfl, rfl⟩ ⟨rfl, rfl, rfl⟩
  have hll : ∀ (a : List Value), (lg_sl (a.map (cvv C))).length = (lg_sl (a.map (fun v => match v with | .long _ => Value.long 0 | .double _ => .double 0 | _ => .null))).length := by
    intro a
    induction a with
    | nil => rfl
    | cons v a ih =>
      simp only [lg_sl, List.map_cons, List.flatMap_cons, List.length_append] at ih ⊢
      rw [ih]
      congr 1
      cases v <;> rfl
  have hl := lv_entry (av.map (cvv C)) (n := nL) (by rw [hll]; exact hlen)
  rw [lg_entry_eq]
  generalize (lg_sl (av.map (cvv C)) ++ List.replicate (nL - (lg_sl (av.map (cvv C))).length) Slot.unset).toArray = ls at hl ⊢
  have hmap : ∀ (a : List Value) (i : Nat), lv_args i (a.map (cvv C)) = (lv_args i a).map (fun q => (q.1, cvv C q.2)) := by
    intro a
    induction a with
    | nil => intro i; rfl
    | cons v a ih =>
      intro i
      simp only [List.map_cons, lv_args, cvv_cat, ih]
  rw [hmap] at hl
  exact hG s.heap [] ls hP va_S.rf hl
/-- a call's answer -/
theorem zcall (B : Bx (p, l, e, R, s, m, args, below, meth, c, Q, C, kc, ks, A, res, mo) own tb nL ret) {r : Option Value} {mm' : Mem} {a : Array Value} {st0 st2 : List Value} (hS : va_S A s.heap H locs) (hr : va_Run p l e R s m args below meth c H locs kc ks 0 0 (F0 m pc ls st0) st2 (QC C (Aw C) r mm' a) (Aw C))
    (k : ∀ (H1 : Heap) (locs1 : List Loc), va_P C.2.1 zcls (wl C mm') H1 → va_S A s.heap H1 locs1 → W p l e R s m args below meth c H1 locs1 kc ks Q (F0 m (pc + 3) ls ((r.map (cvv C)).toList ++ st2))) : W p l e R s m args below meth c H locs kc ks Q (F0 m pc ls st0) := by
  intro T hT X
  have hAA : ∀ q, Aw C q → A q := fun q hq => by obtain ⟨c, h1, rfl⟩ := hq; exact B.aa c h1
  obtain ⟨v, st₀, t, T', L, h0, X', hL, e1, e2, ⟨hv, hWd, hz, hk⟩, st⟩ := hr T hT X
  cases hv
  rw [h0] at hz hk
  obtain ⟨t2, a1, b1⟩ := k T'.heap (locs ++ L) (by rw [e1]; exact hWd.1)
    ⟨Nat.le_trans hS.1 (by rw [e1]; exact hz), fun q h1 h2 => by rw [e1, hk q (Nat.lt_of_lt_of_le h1 hS.1) (fun z => h2 (hAA q z))]; exact hS.2.1 q h1 h2, fun q hq => by
      rcases List.mem_append.mp hq with h | h
      · exact hS.2.2 q h
      · exact hAA _ (hL q h)⟩ T' rfl X'
  exact ⟨t2, st t2 a1, b1⟩
theorem Wd_blind {av : List Value} : FrameBlind (va_Pc av (Wd C mm)) := fun a U g mk q =>
  ⟨q.1, q.2.1, va_K.moved (u := U) (U := U.calling g mk a) (Vm.Alike.refl U.vm) q.2.2.1, vk_S.moved (u := U) (U := U.calling g mk a) (Vm.Alike.refl U.vm) q.2.2.2.1, fun i x e => (q.2.2.2.2.1 i x e).same rfl, va_Z.moved (u := U) (U := U.calling g mk a) (Vm.Alike.refl U.vm) q.2.2.2.2.2⟩
theorem Wd_call (B : Bx (p, l, e, R, s, m, args, below, meth, c, Q, C, kc, ks, A, res, mo) own tb nL ret) (hP : va_P C.2.1 zcls (wl C mm) H) (hS : va_S A s.heap H locs) (av : List Value) : ∀ U : State, U.heap = H → s.WarmedH U.vm → va_Pc (av.map (cvv C)) (Wd C mm) (av.map (cvv C)).toArray U := fun U hU hW => ⟨rfl, Wd_end B hP hS hU hW⟩
end BXS
end
section
theorem z_iadd {E : Ev} {own : String} {tb : Tb} {nL : Nat} {ret : Option FieldType} {pc nx : Nat} {lv : Lv} {st : List Value} {mm : Mem} {x y : Int32} (B : Bx E own tb nL ret) (i : Nat) (h : tb[i]? = some (pc, .iadd, 1, nx)) (k : G E nL nx lv (.int (x + y) :: st) mm) : G E nL pc lv (.int y :: .int x :: st) mm := by
  obtain ⟨p, l, e, R, s, m, args, below, meth, c, Q, C, kc, ks, A, res, mo⟩ := E
  obtain ⟨hd, hn⟩ := Bx.dec B h
  subst hn
  intro H locs ls hP hS hl
  exact lv_iadd B.1 rfl hd (k H locs ls hP hS hl)
theorem z_isub {E : Ev} {own : String} {tb : Tb} {nL : Nat} {ret : Option FieldType} {pc nx : Nat} {lv : Lv} {st : List Value} {mm : Mem} {x y : Int32} (B : Bx E own tb nL ret) (i : Nat) (h : tb[i]? = some (pc, .isub, 1, nx)) (k : G E nL nx lv (.int (x - y) :: st) mm) : G E nL pc lv (.int y :: .int x :: st) mm := by
  obtain ⟨p, l, e, R, s, m, args, below, meth, c, Q, C, kc, ks, A, res, mo⟩ := E
  obtain ⟨hd, hn⟩ := Bx.dec B h
  subst hn
  intro H locs ls hP hS hl
  exact lv_isub B.1 rfl hd (k H locs ls hP hS hl)
theorem z_imul {E : Ev} {own : String} {tb : Tb} {nL : Nat} {ret : Option FieldType} {pc nx : Nat} {lv : Lv} {st : List Value} {mm : Mem} {x y : Int32} (B : Bx E own tb nL ret) (i : Nat) (h : tb[i]? = some (pc, .imul, 1, nx)) (k : G E nL nx lv (.int (x * y) :: st) mm) : G E nL pc lv (.int y :: .int x :: st) mm := by
  obtain ⟨p, l, e, R, s, m, args, below, meth, c, Q, C, kc, ks, A, res, mo⟩ := E
  obtain ⟨hd, hn⟩ := Bx.dec B h
  subst hn
  intro H locs ls hP hS hl
  exact lv_imul B.1 rfl hd (k H locs ls hP hS hl)
theorem z_iand {E : Ev} {own : String} {tb : Tb} {nL : Nat} {ret : Option FieldType} {pc nx : Nat} {lv : Lv} {st : List Value} {mm : Mem} {x y : Int32} (B : Bx E own tb nL ret) (i : Nat) (h : tb[i]? = some (pc, .iand, 1, nx)) (k : G E nL nx lv (.int (x &&& y) :: st) mm) : G E nL pc lv (.int y :: .int x :: st) mm := by
  obtain ⟨p, l, e, R, s, m, args, below, meth, c, Q, C, kc, ks, A, res, mo⟩ := E
  obtain ⟨hd, hn⟩ := Bx.dec B h
  subst hn
  intro H locs ls hP hS hl
  exact lv_iand B.1 rfl hd (k H locs ls hP hS hl)
theorem z_ior {E : Ev} {own : String} {tb : Tb} {nL : Nat} {ret : Option FieldType} {pc nx : Nat} {lv : Lv} {st : List Value} {mm : Mem} {x y : Int32} (B : Bx E own tb nL ret) (i : Nat) (h : tb[i]? = some (pc, .ior, 1, nx)) (k : G E nL nx lv (.int (x ||| y) :: st) mm) : G E nL pc lv (.int y :: .int x :: st) mm := by
  obtain ⟨p, l, e, R, s, m, args, below, meth, c, Q, C, kc, ks, A, res, mo⟩ := E
  obtain ⟨hd, hn⟩ := Bx.dec B h
  subst hn
  intro H locs ls hP hS hl
  exact lv_ior B.1 rfl hd (k H locs ls hP hS hl)
theorem z_ishl {E : Ev} {own : String} {tb : Tb} {nL : Nat} {ret : Option FieldType} {pc nx : Nat} {lv : Lv} {st : List Value} {mm : Mem} {x y : Int32} (B : Bx E own tb nL ret) (i : Nat) (h : tb[i]? = some (pc, .ishl, 1, nx)) (k : G E nL nx lv (.int (x <<< (y &&& 31)) :: st) mm) : G E nL pc lv (.int y :: .int x :: st) mm := by
  obtain ⟨p, l, e, R, s, m, args, below, meth, c, Q, C, kc, ks, A, res, mo⟩ := E
  obtain ⟨hd, hn⟩ := Bx.dec B h
  subst hn
  intro H locs ls hP hS hl
  exact lv_ishl B.1 rfl hd (k H locs ls hP hS hl)
theorem z_ishr {E : Ev} {own : String} {tb : Tb} {nL : Nat} {ret : Option FieldType} {pc nx : Nat} {lv : Lv} {st : List Value} {mm : Mem} {x y : Int32} (B : Bx E own tb nL ret) (i : Nat) (h : tb[i]? = some (pc, .ishr, 1, nx)) (k : G E nL nx lv (.int (x >>> (y &&& 31)) :: st) mm) : G E nL pc lv (.int y :: .int x :: st) mm := by
  obtain ⟨p, l, e, R, s, m, args, below, meth, c, Q, C, kc, ks, A, res, mo⟩ := E
  obtain ⟨hd, hn⟩ := Bx.dec B h
  subst hn
  intro H locs ls hP hS hl
  exact lv_ishr B.1 rfl hd (k H locs ls hP hS hl)
theorem z_iushr {E : Ev} {own : String} {tb : Tb} {nL : Nat} {ret : Option FieldType} {pc nx : Nat} {lv : Lv} {st : List Value} {mm : Mem} {x y : Int32} (B : Bx E own tb nL ret) (i : Nat) (h : tb[i]? = some (pc, .iushr, 1, nx)) (k : G E nL nx lv (.int ((x.toUInt32 >>> (y.toUInt32 &&& Int32.toUInt32 31)).toInt32) :: st) mm) : G E nL pc lv (.int y :: .int x :: st) mm := by
  obtain ⟨p, l, e, R, s, m, args, below, meth, c, Q, C, kc, ks, A, res, mo⟩ := E
  obtain ⟨hd, hn⟩ := Bx.dec B h
  subst hn
  intro H locs ls hP hS hl
  exact lv_iushr B.1 rfl hd rfl (k H locs ls hP hS hl)
theorem z_idiv {E : Ev} {own : String} {tb : Tb} {nL : Nat} {ret : Option FieldType} {pc nx : Nat} {lv : Lv} {st : List Value} {mm : Mem} {x y : Int32} (B : Bx E own tb nL ret) (i : Nat) (h : tb[i]? = some (pc, .idiv, 1, nx)) (hy : ¬ y = 0) (k : G E nL nx lv (.int (x / y) :: st) mm) : G E nL pc lv (.int y :: .int x :: st) mm := by
  obtain ⟨p, l, e, R, s, m, args, below, meth, c, Q, C, kc, ks, A, res, mo⟩ := E
  obtain ⟨hd, hn⟩ := Bx.dec B h
  subst hn
  intro H locs ls hP hS hl
  exact lv_idiv B.1 rfl hd hy (k H locs ls hP hS hl)
theorem z_ineg {E : Ev} {own : String} {tb : Tb} {nL : Nat} {ret : Option FieldType} {pc nx : Nat} {lv : Lv} {st : List Value} {mm : Mem} {x : Int32} (B : Bx E own tb nL ret) (i : Nat) (h : tb[i]? = some (pc, .ineg, 1, nx)) (k : G E nL nx lv (.int (-x) :: st) mm) : G E nL pc lv (.int x :: st) mm := by
  obtain ⟨p, l, e, R, s, m, args, below, meth, c, Q, C, kc, ks, A, res, mo⟩ := E
  obtain ⟨hd, hn⟩ := Bx.dec B h
  subst hn
  intro H locs ls hP hS hl
  exact lv_ineg B.1 rfl hd (k H locs ls hP hS hl)
theorem z_i2l {E : Ev} {own : String} {tb : Tb} {nL : Nat} {ret : Option FieldType} {pc nx : Nat} {lv : Lv} {st : List Value} {mm : Mem} {x : Int32} (B : Bx E own tb nL ret) (i : Nat) (h : tb[i]? = some (pc, .i2l, 1, nx)) (k : G E nL nx lv (.long (x.toInt64) :: st) mm) : G E nL pc lv (.int x :: st) mm := by
  obtain ⟨p, l, e, R, s, m, args, below, meth, c, Q, C, kc, ks, A, res, mo⟩ := E
  obtain ⟨hd, hn⟩ := Bx.dec B h
  subst hn
  intro H locs ls hP hS hl
  exact lv_i2l B.1 rfl hd rfl (k H locs ls hP hS hl)
theorem z_ladd {E : Ev} {own : String} {tb : Tb} {nL : Nat} {ret : Option FieldType} {pc nx : Nat} {lv : Lv} {st : List Value} {mm : Mem} {x y : Int64} (B : Bx E own tb nL ret) (i : Nat) (h : tb[i]? = some (pc, .ladd, 1, nx)) (k : G E nL nx lv (.long (x + y) :: st) mm) : G E nL pc lv (.long y :: .long x :: st) mm := by
  obtain ⟨p, l, e, R, s, m, args, below, meth, c, Q, C, kc, ks, A, res, mo⟩ := E
  obtain ⟨hd, hn⟩ := Bx.dec B h
  subst hn
  intro H locs ls hP hS hl
  exact lv_ladd B.1 rfl hd (k H locs ls hP hS hl)
theorem z_lsub {E : Ev} {own : String} {tb : Tb} {nL : Nat} {ret : Option FieldType} {pc nx : Nat} {lv : Lv} {st : List Value} {mm : Mem} {x y : Int64} (B : Bx E own tb nL ret) (i : Nat) (h : tb[i]? = some (pc, .lsub, 1, nx)) (k : G E nL nx lv (.long (x - y) :: st) mm) : G E nL pc lv (.long y :: .long x :: st) mm := by
  obtain ⟨p, l, e, R, s, m, args, below, meth, c, Q, C, kc, ks, A, res, mo⟩ := E
  obtain ⟨hd, hn⟩ := Bx.dec B h
  subst hn
  intro H locs ls hP hS hl
  exact lv_lsub B.1 rfl hd (k H locs ls hP hS hl)
theorem z_lmul {E : Ev} {own : String} {tb : Tb} {nL : Nat} {ret : Option FieldType} {pc nx : Nat} {lv : Lv} {st : List Value} {mm : Mem} {x y : Int64} (B : Bx E own tb nL ret) (i : Nat) (h : tb[i]? = some (pc, .lmul, 1, nx)) (k : G E nL nx lv (.long (x * y) :: st) mm) : G E nL pc lv (.long y :: .long x :: st) mm := by
  obtain ⟨p, l, e, R, s, m, args, below, meth, c, Q, C, kc, ks, A, res, mo⟩ := E
  obtain ⟨hd, hn⟩ := Bx.dec B h
  subst hn
  intro H locs ls hP hS hl
  exact lv_lmul B.1 rfl hd (k H locs ls hP hS hl)
theorem z_lcmp {E : Ev} {own : String} {tb : Tb} {nL : Nat} {ret : Option FieldType} {pc nx : Nat} {lv : Lv} {st : List Value} {mm : Mem} {x y : Int64} (B : Bx E own tb nL ret) (i : Nat) (h : tb[i]? = some (pc, .lcmp, 1, nx)) (k : G E nL nx lv (.int (lg_cmp x y) :: st) mm) : G E nL pc lv (.long y :: .long x :: st) mm := by
  obtain ⟨p, l, e, R, s, m, args, below, meth, c, Q, C, kc, ks, A, res, mo⟩ := E
  obtain ⟨hd, hn⟩ := Bx.dec B h
  subst hn
  intro H locs ls hP hS hl
  exact W.lcmp B.1 rfl hd (k H locs ls hP hS hl)
theorem z_iconst {E : Ev} {own : String} {tb : Tb} {nL : Nat} {ret : Option FieldType} {pc nx : Nat} {lv : Lv} {st : List Value} {mm : Mem} {n : Int} (v : Int32) (B : Bx E own tb nL ret) (i : Nat) (h : tb[i]? = some (pc, .iconst n, 1, nx)) (hv : Int32.ofInt n = v) (k : G E nL nx lv (.int v :: st) mm) : G E nL pc lv st mm := by
  obtain ⟨p, l, e, R, s, m, args, below, meth, c, Q, C, kc, ks, A, res, mo⟩ := E
  obtain ⟨hd, hn⟩ := Bx.dec B h
  subst hn
  intro H locs ls hP hS hl
  exact lv_iconst B.1 rfl hd hv (k H locs ls hP hS hl)
theorem z_bipush {E : Ev} {own : String} {tb : Tb} {nL : Nat} {ret : Option FieldType} {pc nx : Nat} {lv : Lv} {st : List Value} {mm : Mem} {n : Int} (v : Int32) (B : Bx E own tb nL ret) (i : Nat) (h : tb[i]? = some (pc, .bipush n, 2, nx)) (hv : (Int8.ofInt n).toInt32 = v) (k : G E nL nx lv (.int v :: st) mm) : G E nL pc lv st mm := by
  obtain ⟨p, l, e, R, s, m, args, below, meth, c, Q, C, kc, ks, A, res, mo⟩ := E
  obtain ⟨hd, hn⟩ := Bx.dec B h
  subst hn
  intro H locs ls hP hS hl
  exact lv_bipush B.1 rfl hd hv (k H locs ls hP hS hl)
theorem z_sipush {E : Ev} {own : String} {tb : Tb} {nL : Nat} {ret : Option FieldType} {pc nx : Nat} {lv : Lv} {st : List Value} {mm : Mem} {n : Int} (v : Int32) (B : Bx E own tb nL ret) (i : Nat) (h : tb[i]? = some (pc, .sipush n, 3, nx)) (hv : (Int16.ofInt n).toInt32 = v) (k : G E nL nx lv (.int v :: st) mm) : G E nL pc lv st mm := by
  obtain ⟨p, l, e, R, s, m, args, below, meth, c, Q, C, kc, ks, A, res, mo⟩ := E
  obtain ⟨hd, hn⟩ := Bx.dec B h
  subst hn
  intro H locs ls hP hS hl
  exact lv_sipush B.1 rfl hd hv (k H locs ls hP hS hl)
theorem z_lconst {E : Ev} {own : String} {tb : Tb} {nL : Nat} {ret : Option FieldType} {pc nx : Nat} {lv : Lv} {st : List Value} {mm : Mem} {n : Fin 2} (v : Int64) (B : Bx E own tb nL ret) (i : Nat) (h : tb[i]? = some (pc, .lconst n, 1, nx)) (hv : Int64.ofNat (n : Nat) = v) (k : G E nL nx lv (.long v :: st) mm) : G E nL pc lv st mm := by
  obtain ⟨p, l, e, R, s, m, args, below, meth, c, Q, C, kc, ks, A, res, mo⟩ := E
  obtain ⟨hd, hn⟩ := Bx.dec B h
  subst hn
  intro H locs ls hP hS hl
  exact lv_lconst B.1 rfl hd hv (k H locs ls hP hS hl)
theorem z_ldc {E : Ev} {own : String} {tb : Tb} {nL : Nat} {ret : Option FieldType} {pc nx : Nat} {lv : Lv} {st : List Value} {mm : Mem} {n : Nat} (v : Int32) (B : Bx E own tb nL ret) (i : Nat) (h : tb[i]? = some (pc, .ldc n, 2, nx)) (hw : Cond.constant own n v ∈ TW) (k : G E nL nx lv (.int v :: st) mm) : G E nL pc lv st mm := by
  obtain ⟨p, l, e, R, s, m, args, below, meth, c, Q, C, kc, ks, A, res, mo⟩ := E
  obtain ⟨hd, hn⟩ := Bx.dec B h
  subst hn
  intro H locs ls hP hS hl
  exact lv_ldc B.1 rfl B.hown (B.tw _ hw) hd (k H locs ls hP hS hl)
theorem z_ldc2 {E : Ev} {own : String} {tb : Tb} {nL : Nat} {ret : Option FieldType} {pc nx : Nat} {lv : Lv} {st : List Value} {mm : Mem} {n : Nat} (v : Int64) (B : Bx E own tb nL ret) (i : Nat) (h : tb[i]? = some (pc, .ldc2_w n, 3, nx)) (hw : Cond.constantLong own n v ∈ TW) (k : G E nL nx lv (.long v :: st) mm) : G E nL pc lv st mm := by
  obtain ⟨p, l, e, R, s, m, args, below, meth, c, Q, C, kc, ks, A, res, mo⟩ := E
  obtain ⟨hd, hn⟩ := Bx.dec B h
  subst hn
  intro H locs ls hP hS hl
  exact lv_ldc2 B.1 rfl B.hown (B.tw _ hw) hd (k H locs ls hP hS hl)
theorem z_iload_n {E : Ev} {own : String} {tb : Tb} {nL : Nat} {ret : Option FieldType} {pc nx : Nat} {lv : Lv} {st : List Value} {mm : Mem} {x : Int32} {kk : Fin 4} (B : Bx E own tb nL ret) (i : Nat) (h : tb[i]? = some (pc, .iload_n kk, 1, nx)) (q j : Nat) (hq : (kk : Nat) = q) (hj : lv[j]? = some (q, .int x)) (k : G E nL nx lv (.int x :: st) mm) : G E nL pc lv st mm := by
  obtain ⟨p, l, e, R, s, m, args, below, meth, c, Q, C, kc, ks, A, res, mo⟩ := E
  obtain ⟨hd, hn⟩ := Bx.dec B h
  subst hn
  intro H locs ls hP hS hl
  exact lv_iload_n B.1 rfl hd hq (lv_at hl j (lvm hj)) (k H locs ls hP hS hl)
theorem z_iload {E : Ev} {own : String} {tb : Tb} {nL : Nat} {ret : Option FieldType} {pc nx : Nat} {lv : Lv} {st : List Value} {mm : Mem} {x : Int32} {q : Nat} (B : Bx E own tb nL ret) (i : Nat) (h : tb[i]? = some (pc, .iload q, 2, nx)) (j : Nat) (hj : lv[j]? = some (q, .int x)) (k : G E nL nx lv (.int x :: st) mm) : G E nL pc lv st mm := by
  obtain ⟨p, l, e, R, s, m, args, below, meth, c, Q, C, kc, ks, A, res, mo⟩ := E
  obtain ⟨hd, hn⟩ := Bx.dec B h
  subst hn
  intro H locs ls hP hS hl
  exact lv_iload B.1 rfl hd (lv_at hl j (lvm hj)) (k H locs ls hP hS hl)
theorem z_lload_n {E : Ev} {own : String} {tb : Tb} {nL : Nat} {ret : Option FieldType} {pc nx : Nat} {lv : Lv} {st : List Value} {mm : Mem} {x : Int64} {kk : Fin 4} (B : Bx E own tb nL ret) (i : Nat) (h : tb[i]? = some (pc, .lload_n kk, 1, nx)) (q j : Nat) (hq : (kk : Nat) = q) (hj : lv[j]? = some (q, .long x)) (k : G E nL nx lv (.long x :: st) mm) : G E nL pc lv st mm := by
  obtain ⟨p, l, e, R, s, m, args, below, meth, c, Q, C, kc, ks, A, res, mo⟩ := E
  obtain ⟨hd, hn⟩ := Bx.dec B h
  subst hn
  intro H locs ls hP hS hl
  exact lv_lload_n B.1 rfl hd hq (lv_at hl j (lvm hj)) (k H locs ls hP hS hl)
theorem z_lload {E : Ev} {own : String} {tb : Tb} {nL : Nat} {ret : Option FieldType} {pc nx : Nat} {lv : Lv} {st : List Value} {mm : Mem} {x : Int64} {q : Nat} (B : Bx E own tb nL ret) (i : Nat) (h : tb[i]? = some (pc, .lload q, 2, nx)) (j : Nat) (hj : lv[j]? = some (q, .long x)) (k : G E nL nx lv (.long x :: st) mm) : G E nL pc lv st mm := by
  obtain ⟨p, l, e, R, s, m, args, below, meth, c, Q, C, kc, ks, A, res, mo⟩ := E
  obtain ⟨hd, hn⟩ := Bx.dec B h
  subst hn
  intro H locs ls hP hS hl
  exact lv_lload B.1 rfl hd (lv_at hl j (lvm hj)) (k H locs ls hP hS hl)
theorem z_aload_n {E : Ev} {own : String} {tb : Tb} {nL : Nat} {ret : Option FieldType} {pc nx : Nat} {lv : Lv} {st : List Value} {mm : Mem} {x : Nat} {kk : Fin 4} (B : Bx E own tb nL ret) (i : Nat) (h : tb[i]? = some (pc, .aload_n kk, 1, nx)) (q j : Nat) (hq : (kk : Nat) = q) (hj : lv[j]? = some (q, .ref x)) (k : G E nL nx lv (.ref x :: st) mm) : G E nL pc lv st mm := by
  obtain ⟨p, l, e, R, s, m, args, below, meth, c, Q, C, kc, ks, A, res, mo⟩ := E
  obtain ⟨hd, hn⟩ := Bx.dec B h
  subst hn
  intro H locs ls hP hS hl
  exact lv_aload_n B.1 rfl hd hq (lv_at hl j (lvm hj)) (k H locs ls hP hS hl)
theorem z_aload {E : Ev} {own : String} {tb : Tb} {nL : Nat} {ret : Option FieldType} {pc nx : Nat} {lv : Lv} {st : List Value} {mm : Mem} {x : Nat} {q : Nat} (B : Bx E own tb nL ret) (i : Nat) (h : tb[i]? = some (pc, .aload q, 2, nx)) (j : Nat) (hj : lv[j]? = some (q, .ref x)) (k : G E nL nx lv (.ref x :: st) mm) : G E nL pc lv st mm := by
  obtain ⟨p, l, e, R, s, m, args, below, meth, c, Q, C, kc, ks, A, res, mo⟩ := E
  obtain ⟨hd, hn⟩ := Bx.dec B h
  subst hn
  intro H locs ls hP hS hl
  exact lv_aload B.1 rfl hd (lv_at hl j (lvm hj)) (k H locs ls hP hS hl)
theorem z_istore_n {E : Ev} {own : String} {tb : Tb} {nL : Nat} {ret : Option FieldType} {pc nx : Nat} {lv : Lv} {st : List Value} {mm : Mem} {x : Int32} {kk : Fin 4} (lv' : Lv) (B : Bx E own tb nL ret) (i : Nat) (h : tb[i]? = some (pc, .istore_n kk, 1, nx)) (q : Nat) (hq : (kk : Nat) = q) (hn : q < nL) (hl' : zs1 lv q (.int x) = lv') (k : G E nL nx lv' st mm) : G E nL pc lv (.int x :: st) mm := by
  subst hl'
  obtain ⟨p, l, e, R, s, m, args, below, meth, c, Q, C, kc, ks, A, res, mo⟩ := E
  obtain ⟨hd, hn⟩ := Bx.dec B h
  subst hn
  intro H locs ls hP hS hl
  exact lv_istore_n B.1 rfl hd hq hl hn (zs1_map C lv q (.int x)) (fun ls' hl' => k H locs ls' hP hS hl')
theorem z_istore {E : Ev} {own : String} {tb : Tb} {nL : Nat} {ret : Option FieldType} {pc nx : Nat} {lv : Lv} {st : List Value} {mm : Mem} {x : Int32} {q : Nat} (lv' : Lv) (B : Bx E own tb nL ret) (i : Nat) (h : tb[i]? = some (pc, .istore q, 2, nx)) (hn : q < nL) (hl' : zs1 lv q (.int x) = lv') (k : G E nL nx lv' st mm) : G E nL pc lv (.int x :: st) mm := by
  subst hl'
  obtain ⟨p, l, e, R, s, m, args, below, meth, c, Q, C, kc, ks, A, res, mo⟩ := E
  obtain ⟨hd, hn⟩ := Bx.dec B h
  subst hn
  intro H locs ls hP hS hl
  exact lv_istore B.1 rfl hd hl hn (zs1_map C lv q (.int x)) (fun ls' hl' => k H locs ls' hP hS hl')
theorem z_astore_n {E : Ev} {own : String} {tb : Tb} {nL : Nat} {ret : Option FieldType} {pc nx : Nat} {lv : Lv} {st : List Value} {mm : Mem} {x : Nat} {kk : Fin 4} (lv' : Lv) (B : Bx E own tb nL ret) (i : Nat) (h : tb[i]? = some (pc, .astore_n kk, 1, nx)) (q : Nat) (hq : (kk : Nat) = q) (hn : q < nL) (hl' : zs1 lv q (.ref x) = lv') (k : G E nL nx lv' st mm) : G E nL pc lv (.ref x :: st) mm := by
  subst hl'
  obtain ⟨p, l, e, R, s, m, args, below, meth, c, Q, C, kc, ks, A, res, mo⟩ := E
  obtain ⟨hd, hn⟩ := Bx.dec B h
  subst hn
  intro H locs ls hP hS hl
  exact lv_astore_n B.1 rfl hd hq hl hn (zs1_map C lv q (.ref x)) (fun ls' hl' => k H locs ls' hP hS hl')
theorem z_astore {E : Ev} {own : String} {tb : Tb} {nL : Nat} {ret : Option FieldType} {pc nx : Nat} {lv : Lv} {st : List Value} {mm : Mem} {x : Nat} {q : Nat} (lv' : Lv) (B : Bx E own tb nL ret) (i : Nat) (h : tb[i]? = some (pc, .astore q, 2, nx)) (hn : q < nL) (hl' : zs1 lv q (.ref x) = lv') (k : G E nL nx lv' st mm) : G E nL pc lv (.ref x :: st) mm := by
  subst hl'
  obtain ⟨p, l, e, R, s, m, args, below, meth, c, Q, C, kc, ks, A, res, mo⟩ := E
  obtain ⟨hd, hn⟩ := Bx.dec B h
  subst hn
  intro H locs ls hP hS hl
  exact lv_astore B.1 rfl hd hl hn (zs1_map C lv q (.ref x)) (fun ls' hl' => k H locs ls' hP hS hl')
theorem z_lstore_n {E : Ev} {own : String} {tb : Tb} {nL : Nat} {ret : Option FieldType} {pc nx : Nat} {lv : Lv} {st : List Value} {mm : Mem} {x : Int64} {kk : Fin 4} (lv' : Lv) (B : Bx E own tb nL ret) (i : Nat) (h : tb[i]? = some (pc, .lstore_n kk, 1, nx)) (q : Nat) (hq : (kk : Nat) = q) (hn : q + 1 < nL) (hl' : zs2 lv q (.long x) = lv') (k : G E nL nx lv' st mm) : G E nL pc lv (.long x :: st) mm := by
  subst hl'
  obtain ⟨p, l, e, R, s, m, args, below, meth, c, Q, C, kc, ks, A, res, mo⟩ := E
  obtain ⟨hd, hn⟩ := Bx.dec B h
  subst hn
  intro H locs ls hP hS hl
  exact lv_lstore_n B.1 rfl hd hq hl hn (zs2_map C lv q (.long x)) (fun ls' hl' => k H locs ls' hP hS hl')
theorem z_lstore {E : Ev} {own : String} {tb : Tb} {nL : Nat} {ret : Option FieldType} {pc nx : Nat} {lv : Lv} {st : List Value} {mm : Mem} {x : Int64} {q : Nat} (lv' : Lv) (B : Bx E own tb nL ret) (i : Nat) (h : tb[i]? = some (pc, .lstore q, 2, nx)) (hn : q + 1 < nL) (hl' : zs2 lv q (.long x) = lv') (k : G E nL nx lv' st mm) : G E nL pc lv (.long x :: st) mm := by
  subst hl'
  obtain ⟨p, l, e, R, s, m, args, below, meth, c, Q, C, kc, ks, A, res, mo⟩ := E
  obtain ⟨hd, hn⟩ := Bx.dec B h
  subst hn
  intro H locs ls hP hS hl
  exact lv_lstore B.1 rfl hd hl hn (zs2_map C lv q (.long x)) (fun ls' hl' => k H locs ls' hP hS hl')
theorem z_iinc {E : Ev} {own : String} {tb : Tb} {nL : Nat} {ret : Option FieldType} {pc nx : Nat} {lv : Lv} {st : List Value} {mm : Mem} {x : Int32} {q : Nat} {n : Int} (v : Int32) (lv' : Lv) (B : Bx E own tb nL ret) (i : Nat) (h : tb[i]? = some (pc, .iinc q n, 3, nx)) (j : Nat) (hj : lv[j]? = some (q, .int x)) (hv : x + Int32.ofInt n = v) (hn : q < nL) (hl' : zs1 lv q (.int v) = lv') (k : G E nL nx lv' st mm) : G E nL pc lv st mm := by
  subst hl'
  obtain ⟨p, l, e, R, s, m, args, below, meth, c, Q, C, kc, ks, A, res, mo⟩ := E
  obtain ⟨hd, hn⟩ := Bx.dec B h
  subst hn
  intro H locs ls hP hS hl
  exact lv_iinc B.1 rfl hd hl (lvm hj) hv hn (zs1_map C lv q (.int v)) (fun ls' hl' => k H locs ls' hP hS hl')
theorem z_dup {E : Ev} {own : String} {tb : Tb} {nL : Nat} {ret : Option FieldType} {pc nx : Nat} {lv : Lv} {st : List Value} {mm : Mem} {v : Value} (B : Bx E own tb nL ret) (i : Nat) (h : tb[i]? = some (pc, .dup, 1, nx)) (hv : v.category = 1) (k : G E nL nx lv (v :: v :: st) mm) : G E nL pc lv (v :: st) mm := by
  obtain ⟨p, l, e, R, s, m, args, below, meth, c, Q, C, kc, ks, A, res, mo⟩ := E
  obtain ⟨hd, hn⟩ := Bx.dec B h
  subst hn
  intro H locs ls hP hS hl
  exact lv_dup B.1 rfl hd ((cvv_cat C v).trans hv) (k H locs ls hP hS hl)
theorem z_pop {E : Ev} {own : String} {tb : Tb} {nL : Nat} {ret : Option FieldType} {pc nx : Nat} {lv : Lv} {st : List Value} {mm : Mem} {v : Value} (B : Bx E own tb nL ret) (i : Nat) (h : tb[i]? = some (pc, .pop, 1, nx)) (hv : v.category = 1) (k : G E nL nx lv st mm) : G E nL pc lv (v :: st) mm := by
  obtain ⟨p, l, e, R, s, m, args, below, meth, c, Q, C, kc, ks, A, res, mo⟩ := E
  obtain ⟨hd, hn⟩ := Bx.dec B h
  subst hn
  intro H locs ls hP hS hl
  exact lv_pop B.1 rfl hd ((cvv_cat C v).trans hv) (k H locs ls hP hS hl)
theorem z_dup2 {E : Ev} {own : String} {tb : Tb} {nL : Nat} {ret : Option FieldType} {pc nx : Nat} {lv : Lv} {st : List Value} {mm : Mem} {v w : Value} (B : Bx E own tb nL ret) (i : Nat) (h : tb[i]? = some (pc, .dup2, 1, nx)) (hv : v.category = 1) (hw : w.category = 1) (k : G E nL nx lv (v :: w :: v :: w :: st) mm) : G E nL pc lv (v :: w :: st) mm := by
  obtain ⟨p, l, e, R, s, m, args, below, meth, c, Q, C, kc, ks, A, res, mo⟩ := E
  obtain ⟨hd, hn⟩ := Bx.dec B h
  subst hn
  intro H locs ls hP hS hl
  exact lv_dup2_11 B.1 rfl hd ((cvv_cat C v).trans hv) ((cvv_cat C w).trans hw) (k H locs ls hP hS hl)
theorem z_goto {E : Ev} {own : String} {tb : Tb} {nL : Nat} {ret : Option FieldType} {pc nx : Nat} {lv : Lv} {st : List Value} {mm : Mem} {off : Int} (B : Bx E own tb nL ret) (i : Nat) (h : tb[i]? = some (pc, .goto off, 3, nx)) (tgt : Nat) (ht : (pc : Int) + off = (tgt : Int)) (k : G E nL tgt lv st mm) : G E nL pc lv st mm := by
  obtain ⟨p, l, e, R, s, m, args, below, meth, c, Q, C, kc, ks, A, res, mo⟩ := E
  obtain ⟨hd, hn⟩ := Bx.dec B h
  subst hn
  intro H locs ls hP hS hl
  exact lv_goto B.1 rfl hd ht (k H locs ls hP hS hl)
theorem z_if_eq_t {E : Ev} {own : String} {tb : Tb} {nL : Nat} {ret : Option FieldType} {pc nx : Nat} {lv : Lv} {st : List Value} {mm : Mem} {x : Int32} {off : Int} (B : Bx E own tb nL ret) (i : Nat) (h : tb[i]? = some (pc, .ifCond .eq off, 3, nx)) (tgt : Nat) (ht : (pc : Int) + off = (tgt : Int)) (hc : x = 0) (k : G E nL tgt lv st mm) : G E nL pc lv (.int x :: st) mm := by
  obtain ⟨p, l, e, R, s, m, args, below, meth, c, Q, C, kc, ks, A, res, mo⟩ := E
  obtain ⟨hd, hn⟩ := Bx.dec B h
  subst hn
  intro H locs ls hP hS hl
  exact lv_if_eq B.1 rfl hd ht (fun _ => k H locs ls hP hS hl) (fun q => absurd (hc) q)
theorem z_if_eq_f {E : Ev} {own : String} {tb : Tb} {nL : Nat} {ret : Option FieldType} {pc nx : Nat} {lv : Lv} {st : List Value} {mm : Mem} {x : Int32} {off : Int} (B : Bx E own tb nL ret) (i : Nat) (h : tb[i]? = some (pc, .ifCond .eq off, 3, nx)) (tgt : Nat) (ht : (pc : Int) + off = (tgt : Int)) (hc : ¬ x = 0) (k : G E nL nx lv st mm) : G E nL pc lv (.int x :: st) mm := by
  obtain ⟨p, l, e, R, s, m, args, below, meth, c, Q, C, kc, ks, A, res, mo⟩ := E
  obtain ⟨hd, hn⟩ := Bx.dec B h
  subst hn
  intro H locs ls hP hS hl
  exact lv_if_eq B.1 rfl hd ht (fun q => absurd q (hc)) (fun _ => k H locs ls hP hS hl)
theorem z_icmp_eq_t {E : Ev} {own : String} {tb : Tb} {nL : Nat} {ret : Option FieldType} {pc nx : Nat} {lv : Lv} {st : List Value} {mm : Mem} {x y : Int32} {off : Int} (B : Bx E own tb nL ret) (i : Nat) (h : tb[i]? = some (pc, .if_icmp .eq off, 3, nx)) (tgt : Nat) (ht : (pc : Int) + off = (tgt : Int)) (hc : x = y) (k : G E nL tgt lv st mm) : G E nL pc lv (.int y :: .int x :: st) mm := by
  obtain ⟨p, l, e, R, s, m, args, below, meth, c, Q, C, kc, ks, A, res, mo⟩ := E
  obtain ⟨hd, hn⟩ := Bx.dec B h
  subst hn
  intro H locs ls hP hS hl
  exact lv_icmp_eq B.1 rfl hd ht (fun _ => k H locs ls hP hS hl) (fun q => absurd (hc) q)
theorem z_icmp_eq_f {E : Ev} {own : String} {tb : Tb} {nL : Nat} {ret : Option FieldType} {pc nx : Nat} {lv : Lv} {st : List Value} {mm : Mem} {x y : Int32} {off : Int} (B : Bx E own tb nL ret) (i : Nat) (h : tb[i]? = some (pc, .if_icmp .eq off, 3, nx)) (tgt : Nat) (ht : (pc : Int) + off = (tgt : Int)) (hc : ¬ x = y) (k : G E nL nx lv st mm) : G E nL pc lv (.int y :: .int x :: st) mm := by
  obtain ⟨p, l, e, R, s, m, args, below, meth, c, Q, C, kc, ks, A, res, mo⟩ := E
  obtain ⟨hd, hn⟩ := Bx.dec B h
  subst hn
  intro H locs ls hP hS hl
  exact lv_icmp_eq B.1 rfl hd ht (fun q => absurd q (hc)) (fun _ => k H locs ls hP hS hl)
theorem z_if_ne_t {E : Ev} {own : String} {tb : Tb} {nL : Nat} {ret : Option FieldType} {pc nx : Nat} {lv : Lv} {st : List Value} {mm : Mem} {x : Int32} {off : Int} (B : Bx E own tb nL ret) (i : Nat) (h : tb[i]? = some (pc, .ifCond .ne off, 3, nx)) (tgt : Nat) (ht : (pc : Int) + off = (tgt : Int)) (hc : ¬ x = 0) (k : G E nL tgt lv st mm) : G E nL pc lv (.int x :: st) mm := by
  obtain ⟨p, l, e, R, s, m, args, below, meth, c, Q, C, kc, ks, A, res, mo⟩ := E
  obtain ⟨hd, hn⟩ := Bx.dec B h
  subst hn
  intro H locs ls hP hS hl
  exact lv_if_ne B.1 rfl hd ht (fun _ => k H locs ls hP hS hl) (fun q => absurd q hc)
theorem z_if_ne_f {E : Ev} {own : String} {tb : Tb} {nL : Nat} {ret : Option FieldType} {pc nx : Nat} {lv : Lv} {st : List Value} {mm : Mem} {x : Int32} {off : Int} (B : Bx E own tb nL ret) (i : Nat) (h : tb[i]? = some (pc, .ifCond .ne off, 3, nx)) (tgt : Nat) (ht : (pc : Int) + off = (tgt : Int)) (hc : x = 0) (k : G E nL nx lv st mm) : G E nL pc lv (.int x :: st) mm := by
  obtain ⟨p, l, e, R, s, m, args, below, meth, c, Q, C, kc, ks, A, res, mo⟩ := E
  obtain ⟨hd, hn⟩ := Bx.dec B h
  subst hn
  intro H locs ls hP hS hl
  exact lv_if_ne B.1 rfl hd ht (fun q => absurd q (fun z => z hc)) (fun _ => k H locs ls hP hS hl)
theorem z_icmp_ne_t {E : Ev} {own : String} {tb : Tb} {nL : Nat} {ret : Option FieldType} {pc nx : Nat} {lv : Lv} {st : List Value} {mm : Mem} {x y : Int32} {off : Int} (B : Bx E own tb nL ret) (i : Nat) (h : tb[i]? = some (pc, .if_icmp .ne off, 3, nx)) (tgt : Nat) (ht : (pc : Int) + off = (tgt : Int)) (hc : ¬ x = y) (k : G E nL tgt lv st mm) : G E nL pc lv (.int y :: .int x :: st) mm := by
  obtain ⟨p, l, e, R, s, m, args, below, meth, c, Q, C, kc, ks, A, res, mo⟩ := E
  obtain ⟨hd, hn⟩ := Bx.dec B h
  subst hn
  intro H locs ls hP hS hl
  exact lv_icmp_ne B.1 rfl hd ht (fun _ => k H locs ls hP hS hl) (fun q => absurd q hc)
theorem z_icmp_ne_f {E : Ev} {own : String} {tb : Tb} {nL : Nat} {ret : Option FieldType} {pc nx : Nat} {lv : Lv} {st : List Value} {mm : Mem} {x y : Int32} {off : Int} (B : Bx E own tb nL ret) (i : Nat) (h : tb[i]? = some (pc, .if_icmp .ne off, 3, nx)) (tgt : Nat) (ht : (pc : Int) + off = (tgt : Int)) (hc : x = y) (k : G E nL nx lv st mm) : G E nL pc lv (.int y :: .int x :: st) mm := by
  obtain ⟨p, l, e, R, s, m, args, below, meth, c, Q, C, kc, ks, A, res, mo⟩ := E
  obtain ⟨hd, hn⟩ := Bx.dec B h
  subst hn
  intro H locs ls hP hS hl
  exact lv_icmp_ne B.1 rfl hd ht (fun q => absurd q (fun z => z hc)) (fun _ => k H locs ls hP hS hl)
theorem z_if_lt_t {E : Ev} {own : String} {tb : Tb} {nL : Nat} {ret : Option FieldType} {pc nx : Nat} {lv : Lv} {st : List Value} {mm : Mem} {x : Int32} {off : Int} (B : Bx E own tb nL ret) (i : Nat) (h : tb[i]? = some (pc, .ifCond .lt off, 3, nx)) (tgt : Nat) (ht : (pc : Int) + off = (tgt : Int)) (hc : x < 0) (k : G E nL tgt lv st mm) : G E nL pc lv (.int x :: st) mm := by
  obtain ⟨p, l, e, R, s, m, args, below, meth, c, Q, C, kc, ks, A, res, mo⟩ := E
  obtain ⟨hd, hn⟩ := Bx.dec B h
  subst hn
  intro H locs ls hP hS hl
  exact lv_if_lt B.1 rfl hd ht (fun _ => k H locs ls hP hS hl) (fun q => absurd (hc) q)
theorem z_if_lt_f {E : Ev} {own : String} {tb : Tb} {nL : Nat} {ret : Option FieldType} {pc nx : Nat} {lv : Lv} {st : List Value} {mm : Mem} {x : Int32} {off : Int} (B : Bx E own tb nL ret) (i : Nat) (h : tb[i]? = some (pc, .ifCond .lt off, 3, nx)) (tgt : Nat) (ht : (pc : Int) + off = (tgt : Int)) (hc : ¬ x < 0) (k : G E nL nx lv st mm) : G E nL pc lv (.int x :: st) mm := by
  obtain ⟨p, l, e, R, s, m, args, below, meth, c, Q, C, kc, ks, A, res, mo⟩ := E
  obtain ⟨hd, hn⟩ := Bx.dec B h
  subst hn
  intro H locs ls hP hS hl
  exact lv_if_lt B.1 rfl hd ht (fun q => absurd q (hc)) (fun _ => k H locs ls hP hS hl)
theorem z_icmp_lt_t {E : Ev} {own : String} {tb : Tb} {nL : Nat} {ret : Option FieldType} {pc nx : Nat} {lv : Lv} {st : List Value} {mm : Mem} {x y : Int32} {off : Int} (B : Bx E own tb nL ret) (i : Nat) (h : tb[i]? = some (pc, .if_icmp .lt off, 3, nx)) (tgt : Nat) (ht : (pc : Int) + off = (tgt : Int)) (hc : x < y) (k : G E nL tgt lv st mm) : G E nL pc lv (.int y :: .int x :: st) mm := by
  obtain ⟨p, l, e, R, s, m, args, below, meth, c, Q, C, kc, ks, A, res, mo⟩ := E
  obtain ⟨hd, hn⟩ := Bx.dec B h
  subst hn
  intro H locs ls hP hS hl
  exact lv_icmp_lt B.1 rfl hd ht (fun _ => k H locs ls hP hS hl) (fun q => absurd (hc) q)
theorem z_icmp_lt_f {E : Ev} {own : String} {tb : Tb} {nL : Nat} {ret : Option FieldType} {pc nx : Nat} {lv : Lv} {st : List Value} {mm : Mem} {x y : Int32} {off : Int} (B : Bx E own tb nL ret) (i : Nat) (h : tb[i]? = some (pc, .if_icmp .lt off, 3, nx)) (tgt : Nat) (ht : (pc : Int) + off = (tgt : Int)) (hc : ¬ x < y) (k : G E nL nx lv st mm) : G E nL pc lv (.int y :: .int x :: st) mm := by
  obtain ⟨p, l, e, R, s, m, args, below, meth, c, Q, C, kc, ks, A, res, mo⟩ := E
  obtain ⟨hd, hn⟩ := Bx.dec B h
  subst hn
  intro H locs ls hP hS hl
  exact lv_icmp_lt B.1 rfl hd ht (fun q => absurd q (hc)) (fun _ => k H locs ls hP hS hl)
theorem z_if_ge_t {E : Ev} {own : String} {tb : Tb} {nL : Nat} {ret : Option FieldType} {pc nx : Nat} {lv : Lv} {st : List Value} {mm : Mem} {x : Int32} {off : Int} (B : Bx E own tb nL ret) (i : Nat) (h : tb[i]? = some (pc, .ifCond .ge off, 3, nx)) (tgt : Nat) (ht : (pc : Int) + off = (tgt : Int)) (hc : ¬ x < 0) (k : G E nL tgt lv st mm) : G E nL pc lv (.int x :: st) mm := by
  obtain ⟨p, l, e, R, s, m, args, below, meth, c, Q, C, kc, ks, A, res, mo⟩ := E
  obtain ⟨hd, hn⟩ := Bx.dec B h
  subst hn
  intro H locs ls hP hS hl
  exact lv_if_ge B.1 rfl hd ht (fun _ => k H locs ls hP hS hl) (fun q => absurd (i32_nlt hc) q)
theorem z_if_ge_f {E : Ev} {own : String} {tb : Tb} {nL : Nat} {ret : Option FieldType} {pc nx : Nat} {lv : Lv} {st : List Value} {mm : Mem} {x : Int32} {off : Int} (B : Bx E own tb nL ret) (i : Nat) (h : tb[i]? = some (pc, .ifCond .ge off, 3, nx)) (tgt : Nat) (ht : (pc : Int) + off = (tgt : Int)) (hc : x < 0) (k : G E nL nx lv st mm) : G E nL pc lv (.int x :: st) mm := by
  obtain ⟨p, l, e, R, s, m, args, below, meth, c, Q, C, kc, ks, A, res, mo⟩ := E
  obtain ⟨hd, hn⟩ := Bx.dec B h
  subst hn
  intro H locs ls hP hS hl
  exact lv_if_ge B.1 rfl hd ht (fun q => absurd q (fun z => absurd hc (i32_nlt2 z))) (fun _ => k H locs ls hP hS hl)
theorem z_icmp_ge_t {E : Ev} {own : String} {tb : Tb} {nL : Nat} {ret : Option FieldType} {pc nx : Nat} {lv : Lv} {st : List Value} {mm : Mem} {x y : Int32} {off : Int} (B : Bx E own tb nL ret) (i : Nat) (h : tb[i]? = some (pc, .if_icmp .ge off, 3, nx)) (tgt : Nat) (ht : (pc : Int) + off = (tgt : Int)) (hc : ¬ x < y) (k : G E nL tgt lv st mm) : G E nL pc lv (.int y :: .int x :: st) mm := by
  obtain ⟨p, l, e, R, s, m, args, below, meth, c, Q, C, kc, ks, A, res, mo⟩ := E
  obtain ⟨hd, hn⟩ := Bx.dec B h
  subst hn
  intro H locs ls hP hS hl
  exact lv_icmp_ge B.1 rfl hd ht (fun _ => k H locs ls hP hS hl) (fun q => absurd (i32_nlt hc) q)
theorem z_icmp_ge_f {E : Ev} {own : String} {tb : Tb} {nL : Nat} {ret : Option FieldType} {pc nx : Nat} {lv : Lv} {st : List Value} {mm : Mem} {x y : Int32} {off : Int} (B : Bx E own tb nL ret) (i : Nat) (h : tb[i]? = some (pc, .if_icmp .ge off, 3, nx)) (tgt : Nat) (ht : (pc : Int) + off = (tgt : Int)) (hc : x < y) (k : G E nL nx lv st mm) : G E nL pc lv (.int y :: .int x :: st) mm := by
  obtain ⟨p, l, e, R, s, m, args, below, meth, c, Q, C, kc, ks, A, res, mo⟩ := E
  obtain ⟨hd, hn⟩ := Bx.dec B h
  subst hn
  intro H locs ls hP hS hl
  exact lv_icmp_ge B.1 rfl hd ht (fun q => absurd q (fun z => absurd hc (i32_nlt2 z))) (fun _ => k H locs ls hP hS hl)
theorem z_if_gt_t {E : Ev} {own : String} {tb : Tb} {nL : Nat} {ret : Option FieldType} {pc nx : Nat} {lv : Lv} {st : List Value} {mm : Mem} {x : Int32} {off : Int} (B : Bx E own tb nL ret) (i : Nat) (h : tb[i]? = some (pc, .ifCond .gt off, 3, nx)) (tgt : Nat) (ht : (pc : Int) + off = (tgt : Int)) (hc : 0 < x) (k : G E nL tgt lv st mm) : G E nL pc lv (.int x :: st) mm := by
  obtain ⟨p, l, e, R, s, m, args, below, meth, c, Q, C, kc, ks, A, res, mo⟩ := E
  obtain ⟨hd, hn⟩ := Bx.dec B h
  subst hn
  intro H locs ls hP hS hl
  exact lv_if_gt B.1 rfl hd ht (fun _ => k H locs ls hP hS hl) (fun q => absurd (hc) q)
theorem z_if_gt_f {E : Ev} {own : String} {tb : Tb} {nL : Nat} {ret : Option FieldType} {pc nx : Nat} {lv : Lv} {st : List Value} {mm : Mem} {x : Int32} {off : Int} (B : Bx E own tb nL ret) (i : Nat) (h : tb[i]? = some (pc, .ifCond .gt off, 3, nx)) (tgt : Nat) (ht : (pc : Int) + off = (tgt : Int)) (hc : ¬ 0 < x) (k : G E nL nx lv st mm) : G E nL pc lv (.int x :: st) mm := by
  obtain ⟨p, l, e, R, s, m, args, below, meth, c, Q, C, kc, ks, A, res, mo⟩ := E
  obtain ⟨hd, hn⟩ := Bx.dec B h
  subst hn
  intro H locs ls hP hS hl
  exact lv_if_gt B.1 rfl hd ht (fun q => absurd q (hc)) (fun _ => k H locs ls hP hS hl)
theorem z_icmp_gt_t {E : Ev} {own : String} {tb : Tb} {nL : Nat} {ret : Option FieldType} {pc nx : Nat} {lv : Lv} {st : List Value} {mm : Mem} {x y : Int32} {off : Int} (B : Bx E own tb nL ret) (i : Nat) (h : tb[i]? = some (pc, .if_icmp .gt off, 3, nx)) (tgt : Nat) (ht : (pc : Int) + off = (tgt : Int)) (hc : y < x) (k : G E nL tgt lv st mm) : G E nL pc lv (.int y :: .int x :: st) mm := by
  obtain ⟨p, l, e, R, s, m, args, below, meth, c, Q, C, kc, ks, A, res, mo⟩ := E
  obtain ⟨hd, hn⟩ := Bx.dec B h
  subst hn
  intro H locs ls hP hS hl
  exact lv_icmp_gt B.1 rfl hd ht (fun _ => k H locs ls hP hS hl) (fun q => absurd (hc) q)
theorem z_icmp_gt_f {E : Ev} {own : String} {tb : Tb} {nL : Nat} {ret : Option FieldType} {pc nx : Nat} {lv : Lv} {st : List Value} {mm : Mem} {x y : Int32} {off : Int} (B : Bx E own tb nL ret) (i : Nat) (h : tb[i]? = some (pc, .if_icmp .gt off, 3, nx)) (tgt : Nat) (ht : (pc : Int) + off = (tgt : Int)) (hc : ¬ y < x) (k : G E nL nx lv st mm) : G E nL pc lv (.int y :: .int x :: st) mm := by
  obtain ⟨p, l, e, R, s, m, args, below, meth, c, Q, C, kc, ks, A, res, mo⟩ := E
  obtain ⟨hd, hn⟩ := Bx.dec B h
  subst hn
  intro H locs ls hP hS hl
  exact lv_icmp_gt B.1 rfl hd ht (fun q => absurd q (hc)) (fun _ => k H locs ls hP hS hl)
theorem z_if_le_t {E : Ev} {own : String} {tb : Tb} {nL : Nat} {ret : Option FieldType} {pc nx : Nat} {lv : Lv} {st : List Value} {mm : Mem} {x : Int32} {off : Int} (B : Bx E own tb nL ret) (i : Nat) (h : tb[i]? = some (pc, .ifCond .le off, 3, nx)) (tgt : Nat) (ht : (pc : Int) + off = (tgt : Int)) (hc : ¬ 0 < x) (k : G E nL tgt lv st mm) : G E nL pc lv (.int x :: st) mm := by
  obtain ⟨p, l, e, R, s, m, args, below, meth, c, Q, C, kc, ks, A, res, mo⟩ := E
  obtain ⟨hd, hn⟩ := Bx.dec B h
  subst hn
  intro H locs ls hP hS hl
  exact lv_if_le B.1 rfl hd ht (fun _ => k H locs ls hP hS hl) (fun q => absurd (i32_nlt hc) q)
theorem z_if_le_f {E : Ev} {own : String} {tb : Tb} {nL : Nat} {ret : Option FieldType} {pc nx : Nat} {lv : Lv} {st : List Value} {mm : Mem} {x : Int32} {off : Int} (B : Bx E own tb nL ret) (i : Nat) (h : tb[i]? = some (pc, .ifCond .le off, 3, nx)) (tgt : Nat) (ht : (pc : Int) + off = (tgt : Int)) (hc : 0 < x) (k : G E nL nx lv st mm) : G E nL pc lv (.int x :: st) mm := by
  obtain ⟨p, l, e, R, s, m, args, below, meth, c, Q, C, kc, ks, A, res, mo⟩ := E
  obtain ⟨hd, hn⟩ := Bx.dec B h
  subst hn
  intro H locs ls hP hS hl
  exact lv_if_le B.1 rfl hd ht (fun q => absurd q (fun z => absurd hc (i32_nlt2 z))) (fun _ => k H locs ls hP hS hl)
theorem z_icmp_le_t {E : Ev} {own : String} {tb : Tb} {nL : Nat} {ret : Option FieldType} {pc nx : Nat} {lv : Lv} {st : List Value} {mm : Mem} {x y : Int32} {off : Int} (B : Bx E own tb nL ret) (i : Nat) (h : tb[i]? = some (pc, .if_icmp .le off, 3, nx)) (tgt : Nat) (ht : (pc : Int) + off = (tgt : Int)) (hc : ¬ y < x) (k : G E nL tgt lv st mm) : G E nL pc lv (.int y :: .int x :: st) mm := by
  obtain ⟨p, l, e, R, s, m, args, below, meth, c, Q, C, kc, ks, A, res, mo⟩ := E
  obtain ⟨hd, hn⟩ := Bx.dec B h
  subst hn
  intro H locs ls hP hS hl
  exact lv_icmp_le B.1 rfl hd ht (fun _ => k H locs ls hP hS hl) (fun q => absurd (i32_nlt hc) q)
theorem z_icmp_le_f {E : Ev} {own : String} {tb : Tb} {nL : Nat} {ret : Option FieldType} {pc nx : Nat} {lv : Lv} {st : List Value} {mm : Mem} {x y : Int32} {off : Int} (B : Bx E own tb nL ret) (i : Nat) (h : tb[i]? = some (pc, .if_icmp .le off, 3, nx)) (tgt : Nat) (ht : (pc : Int) + off = (tgt : Int)) (hc : y < x) (k : G E nL nx lv st mm) : G E nL pc lv (.int y :: .int x :: st) mm := by
  obtain ⟨p, l, e, R, s, m, args, below, meth, c, Q, C, kc, ks, A, res, mo⟩ := E
  obtain ⟨hd, hn⟩ := Bx.dec B h
  subst hn
  intro H locs ls hP hS hl
  exact lv_icmp_le B.1 rfl hd ht (fun q => absurd q (fun z => absurd hc (i32_nlt2 z))) (fun _ => k H locs ls hP hS hl)
theorem z_ifnonnull {E : Ev} {own : String} {tb : Tb} {nL : Nat} {ret : Option FieldType} {pc nx : Nat} {lv : Lv} {st : List Value} {mm : Mem} {x : Nat} {off : Int} (B : Bx E own tb nL ret) (i : Nat) (h : tb[i]? = some (pc, .ifnonnull off, 3, nx)) (tgt : Nat) (ht : (pc : Int) + off = (tgt : Int)) (k : G E nL tgt lv st mm) : G E nL pc lv (.ref x :: st) mm := by
  obtain ⟨p, l, e, R, s, m, args, below, meth, c, Q, C, kc, ks, A, res, mo⟩ := E
  obtain ⟨hd, hn⟩ := Bx.dec B h
  subst hn
  intro H locs ls hP hS hl
  exact lv_ifnonnull B.1 rfl hd ht (k H locs ls hP hS hl)
theorem z_ifnull {E : Ev} {own : String} {tb : Tb} {nL : Nat} {ret : Option FieldType} {pc nx : Nat} {lv : Lv} {st : List Value} {mm : Mem} {x : Nat} {off : Int} (B : Bx E own tb nL ret) (i : Nat) (h : tb[i]? = some (pc, .ifnull off, 3, nx)) (k : G E nL nx lv st mm) : G E nL pc lv (.ref x :: st) mm := by
  obtain ⟨p, l, e, R, s, m, args, below, meth, c, Q, C, kc, ks, A, res, mo⟩ := E
  obtain ⟨hd, hn⟩ := Bx.dec B h
  subst hn
  intro H locs ls hP hS hl
  exact lv_ifnull B.1 rfl hd (k H locs ls hP hS hl)
theorem z_tswi {E : Ev} {own : String} {tb : Tb} {nL : Nat} {ret : Option FieldType} {pc nx : Nat} {lv : Lv} {st : List Value} {mm : Mem} {dflt lo hi : Int} {offs : Array Int} {len : Nat} {x : Int32} (B : Bx E own tb nL ret) (i : Nat) (h : tb[i]? = some (pc, .tableswitch dflt lo hi offs, len, nx)) (n : Int) (off : Int) (tgt : Nat) (hx : x.toInt = n) (h1 : lo ≤ n ∧ n ≤ hi) (ho : offs[(n - lo).toNat]? = some off) (ht : (pc : Int) + off = (tgt : Int)) (k : G E nL tgt lv st mm) : G E nL pc lv (.int x :: st) mm := by
  obtain ⟨p, l, e, R, s, m, args, below, meth, c, Q, C, kc, ks, A, res, mo⟩ := E
  obtain ⟨hd, hn⟩ := Bx.dec B h
  subst hn
  intro H locs ls hP hS hl
  subst hx
  exact lv_tableIn B.1 rfl hd (by omega) (by omega) ho ht (k H locs ls hP hS hl)
theorem z_tswo {E : Ev} {own : String} {tb : Tb} {nL : Nat} {ret : Option FieldType} {pc nx : Nat} {lv : Lv} {st : List Value} {mm : Mem} {dflt lo hi : Int} {offs : Array Int} {len : Nat} {x : Int32} (B : Bx E own tb nL ret) (i : Nat) (h : tb[i]? = some (pc, .tableswitch dflt lo hi offs, len, nx)) (tgt : Nat) (hx : x.toInt < lo ∨ hi < x.toInt) (ht : (pc : Int) + dflt = (tgt : Int)) (k : G E nL tgt lv st mm) : G E nL pc lv (.int x :: st) mm := by
  obtain ⟨p, l, e, R, s, m, args, below, meth, c, Q, C, kc, ks, A, res, mo⟩ := E
  obtain ⟨hd, hn⟩ := Bx.dec B h
  subst hn
  intro H locs ls hP hS hl
  exact lv_tableOut B.1 rfl hd hx ht (k H locs ls hP hS hl)
theorem z_geti {E : Ev} {own : String} {tb : Tb} {nL : Nat} {ret : Option FieldType} {pc nx : Nat} {lv : Lv} {st : List Value} {mm : Mem} {n j0 : Nat} (ci kf q : Nat) (B : Bx E own tb nL ret) (i : Nat) (h : tb[i]? = some (pc, .getfield n, 3, nx)) (hq : Ob q ci) (hr : rfk ci kf q = none) {rn nm d : String} (hw : Cond.fieldLink own n rn nm d ∈ TW) (hf : zfl ci kf = some (rn, nm, d)) (k : G E nL nx lv (.int (mm q kf) :: st) mm) : G E nL pc lv (.ref q :: st) mm := by
  obtain ⟨p, l, e, R, s, m, args, below, meth, c, Q, C, kc, ks, A, res, mo⟩ := E
  obtain ⟨hd, hn⟩ := Bx.dec B h
  subst hn
  intro H locs ls hP hS hl
  exact zgetf B hP hq hd hw hf (v := .int (mm q kf)) (by unfold fvv; rw [hr]) (k H locs ls hP hS hl)
theorem z_getr {E : Ev} {own : String} {tb : Tb} {nL : Nat} {ret : Option FieldType} {pc nx : Nat} {lv : Lv} {st : List Value} {mm : Mem} {n j0 : Nat} (ci kf q : Nat) {q2 : Nat} (B : Bx E own tb nL ret) (i : Nat) (h : tb[i]? = some (pc, .getfield n, 3, nx)) (hq : Ob q ci) (hr : rfk ci kf q = some q2) {rn nm d : String} (hw : Cond.fieldLink own n rn nm d ∈ TW) (hf : zfl ci kf = some (rn, nm, d)) (k : G E nL nx lv (.ref q2 :: st) mm) : G E nL pc lv (.ref q :: st) mm := by
  obtain ⟨p, l, e, R, s, m, args, below, meth, c, Q, C, kc, ks, A, res, mo⟩ := E
  obtain ⟨hd, hn⟩ := Bx.dec B h
  subst hn
  intro H locs ls hP hS hl
  exact zgetf B hP hq hd hw hf (v := .ref (C.1 q2)) (by unfold fvv; rw [hr]) (k H locs ls hP hS hl)
theorem z_puti {E : Ev} {own : String} {tb : Tb} {nL : Nat} {ret : Option FieldType} {pc nx : Nat} {lv : Lv} {st : List Value} {mm : Mem} {n j0 : Nat} (ci kf q : Nat) {v : Int32} (B : Bx E own tb nL ret) (i : Nat) (h : tb[i]? = some (pc, .putfield n, 3, nx)) (hq : Ob q ci) (hr : rfk ci kf q = none) {rn nm d : String} (hw : Cond.fieldLink own n rn nm d ∈ TW) (hf : zfl ci kf = some (rn, nm, d)) {ty : FieldType} (hd0 : parseFieldDescriptor d = some ty) (hfin : zfin ci kf = false) (hv : narrow ty (.int v) = .int v) (hfit : fits ty (.int v) = true) (k : G E nL nx lv st (up2 mm q kf v)) : G E nL pc lv (.int v :: .ref q :: st) mm := by
  obtain ⟨p, l, e, R, s, m, args, below, meth, c, Q, C, kc, ks, A, res, mo⟩ := E
  obtain ⟨hd, hn⟩ := Bx.dec B h
  subst hn
  intro H locs ls hP hS hl
  exact zputf B hP hS hq hr hd hw hf hd0 hfin hv hfit (fun H1 locs1 hP1 hS1 => k H1 locs1 ls hP1 hS1 hl)
theorem z_iald {E : Ev} {own : String} {tb : Tb} {nL : Nat} {ret : Option FieldType} {pc nx : Nat} {lv : Lv} {st : List Value} {mm : Mem} {q : Nat} {x : Int32} (B : Bx E own tb nL ret) (i : Nat) (h : tb[i]? = some (pc, .iaload, 1, nx)) (hq : Ob q 8) (hx : inb x (ln q) = true) (k : G E nL nx lv (.int (mm q x.toNatClampNeg) :: st) mm) : G E nL pc lv (.int x :: .ref q :: st) mm := by
  obtain ⟨p, l, e, R, s, m, args, below, meth, c, Q, C, kc, ks, A, res, mo⟩ := E
  obtain ⟨hd, hn⟩ := Bx.dec B h
  subst hn
  intro H locs ls hP hS hl
  exact va_iald B.1 rfl B.K hP q 0 (wl_arr hq) rfl (inb_in hx) hd (k H locs ls hP hS hl)
theorem z_zald {E : Ev} {own : String} {tb : Tb} {nL : Nat} {ret : Option FieldType} {pc nx : Nat} {lv : Lv} {st : List Value} {mm : Mem} {q : Nat} {x : Int32} (B : Bx E own tb nL ret) (i : Nat) (h : tb[i]? = some (pc, .baload, 1, nx)) (hq : Ob q 9) (hx : inb x (ln q) = true) (k : G E nL nx lv (.int (mm q x.toNatClampNeg) :: st) mm) : G E nL pc lv (.int x :: .ref q :: st) mm := by
  obtain ⟨p, l, e, R, s, m, args, below, meth, c, Q, C, kc, ks, A, res, mo⟩ := E
  obtain ⟨hd, hn⟩ := Bx.dec B h
  subst hn
  intro H locs ls hP hS hl
  exact va_zald B.1 rfl B.K hP q 1 (wl_arz hq) rfl (inb_in hx) hd (k H locs ls hP hS hl)
theorem z_lald {E : Ev} {own : String} {tb : Tb} {nL : Nat} {ret : Option FieldType} {pc nx : Nat} {lv : Lv} {st : List Value} {mm : Mem} {q : Nat} {x : Int32} (B : Bx E own tb nL ret) (i : Nat) (h : tb[i]? = some (pc, .laload, 1, nx)) (hq : Ob q 10) (hx : inb x (ln q) = true) (k : G E nL nx lv (.long (mm q x.toNatClampNeg).toInt64 :: st) mm) : G E nL pc lv (.int x :: .ref q :: st) mm := by
  obtain ⟨p, l, e, R, s, m, args, below, meth, c, Q, C, kc, ks, A, res, mo⟩ := E
  obtain ⟨hd, hn⟩ := Bx.dec B h
  subst hn
  intro H locs ls hP hS hl
  exact va_lald B.1 rfl B.K hP q 2 (wl_arl hq) rfl (inb_in hx) hd (k H locs ls hP hS hl)
theorem z_iast {E : Ev} {own : String} {tb : Tb} {nL : Nat} {ret : Option FieldType} {pc nx : Nat} {lv : Lv} {st : List Value} {mm : Mem} {q : Nat} {x v : Int32} (B : Bx E own tb nL ret) (i : Nat) (h : tb[i]? = some (pc, .iastore, 1, nx)) (hq : Ob q 8) (hx : inb x (ln q) = true) (k : G E nL nx lv st (up2 mm q x.toNatClampNeg v)) : G E nL pc lv (.int v :: .int x :: .ref q :: st) mm := by
  obtain ⟨p, l, e, R, s, m, args, below, meth, c, Q, C, kc, ks, A, res, mo⟩ := E
  obtain ⟨hd, hn⟩ := Bx.dec B h
  subst hn
  intro H locs ls hP hS hl
  exact va_iast B.1 rfl B.K hP (wl_D B mm) hS q 0 (wl_arr hq) rfl (inb_in hx) hd (fun H1 locs1 hP1 _ hS1 => k H1 locs1 ls (wl_setI hq _ _ ▸ hP1) hS1 hl)
theorem z_zast {E : Ev} {own : String} {tb : Tb} {nL : Nat} {ret : Option FieldType} {pc nx : Nat} {lv : Lv} {st : List Value} {mm : Mem} {q : Nat} {x v : Int32} (B : Bx E own tb nL ret) (i : Nat) (h : tb[i]? = some (pc, .bastore, 1, nx)) (hq : Ob q 9) (hx : inb x (ln q) = true) (hv : vp_nar .boolean v = v) (k : G E nL nx lv st (up2 mm q x.toNatClampNeg v)) : G E nL pc lv (.int v :: .int x :: .ref q :: st) mm := by
  obtain ⟨p, l, e, R, s, m, args, below, meth, c, Q, C, kc, ks, A, res, mo⟩ := E
  obtain ⟨hd, hn⟩ := Bx.dec B h
  subst hn
  intro H locs ls hP hS hl
  exact va_zast B.1 rfl B.K hP (wl_D B mm) hS q 1 (wl_arz hq) rfl (inb_in hx) hd (fun H1 locs1 hP1 _ hS1 => k H1 locs1 ls (wl_setZ hq _ _ ▸ hv ▸ hP1) hS1 hl)
theorem z_last {E : Ev} {own : String} {tb : Tb} {nL : Nat} {ret : Option FieldType} {pc nx : Nat} {lv : Lv} {st : List Value} {mm : Mem} {q : Nat} {x v : Int32} (B : Bx E own tb nL ret) (i : Nat) (h : tb[i]? = some (pc, .lastore, 1, nx)) (hq : Ob q 10) (hx : inb x (ln q) = true) (k : G E nL nx lv st (up2 mm q x.toNatClampNeg v)) : G E nL pc lv (.long v.toInt64 :: .int x :: .ref q :: st) mm := by
  obtain ⟨p, l, e, R, s, m, args, below, meth, c, Q, C, kc, ks, A, res, mo⟩ := E
  obtain ⟨hd, hn⟩ := Bx.dec B h
  subst hn
  intro H locs ls hP hS hl
  exact va_last B.1 rfl B.K hP (wl_D B mm) hS q 2 (wl_arl hq) rfl (inb_in hx) hd (fun H1 locs1 hP1 _ hS1 => k H1 locs1 ls (wl_setL hq _ _ ▸ hP1) hS1 hl)
theorem z_alen {E : Ev} {own : String} {tb : Tb} {nL : Nat} {ret : Option FieldType} {pc nx : Nat} {lv : Lv} {st : List Value} {mm : Mem} {q : Nat} (B : Bx E own tb nL ret) (i : Nat) (h : tb[i]? = some (pc, .arraylength, 1, nx)) (hq : Ob q 8) (k : G E nL nx lv (.int (nI (ln q)) :: st) mm) : G E nL pc lv (.ref q :: st) mm := by
  obtain ⟨p, l, e, R, s, m, args, below, meth, c, Q, C, kc, ks, A, res, mo⟩ := E
  obtain ⟨hd, hn⟩ := Bx.dec B h
  subst hn
  intro H locs ls hP hS hl
  exact va_alen B.1 rfl B.K hP q 0 (wl_arr hq) (ty := .int) rfl rfl hd (k H locs ls hP hS hl)
theorem z_top {E : Ev} {nL pc : Nat} {lv : Lv} {st : List Value} {mm : Mem} {x y : Int32} (e : x = y) (k : G E nL pc lv (.int x :: st) mm) : G E nL pc lv (.int y :: st) mm := e ▸ k
theorem z_topl {E : Ev} {nL pc : Nat} {lv : Lv} {st : List Value} {mm : Mem} {x y : Int64} (e : x = y) (k : G E nL pc lv (.long x :: st) mm) : G E nL pc lv (.long y :: st) mm := e ▸ k
theorem z_mem {E : Ev} {nL pc : Nat} {lv : Lv} {st : List Value} {mm mm' : Mem} (e : mm = mm') (k : G E nL pc lv st mm) : G E nL pc lv st mm' := e ▸ k
theorem z_sub {E : Ev} {nL pc : Nat} {lv : Lv} {st : List Value} {mm : Mem} (lv' : Lv) (js : List Nat) (hj : js.filterMap (fun j => lv[j]?) = lv') (k : G E nL pc lv' st mm) : G E nL pc lv st mm := by
  obtain ⟨p, l, e, R, s, m, args, below, meth, c, Q, C, kc, ks, A, res, mo⟩ := E
  intro H locs ls hP hS hl
  exact k H locs ls hP hS (lv_sub hl js (lvs hj))
theorem z_callS {E : Ev} {own : String} {tb : Tb} {nL : Nat} {ret : Option FieldType} {pc nx : Nat} {lv : Lv} {st : List Value} {mm : Mem} {l : Launch} {C : Cfg} {R : Room} {y : MethodName} {bytes : ByteArray} {maxL n fr lo idx : Nat} {rt : Option FieldType} {r : Option Value} {mm2 : Mem} (as rest st2 : List Value) (X : Ec E l C R) (B : Bx E own tb nL ret) (i : Nat) (h : tb[i]? = some (pc, .invokestatic idx, 3, nx)) (hM : MI y bytes maxL rt n) (hw : Cond.methodLink own idx y ∈ TW ∧ Cond.static y ∈ TW) (hc : Ct l C y bytes maxL rt fr lo as mm r mm2) (hR : fr + 1 ≤ R.frames ∧ 8 + (maxL + 11) + lo ≤ R.locals) (hn : as.length = n) (hst : st = as.reverse ++ rest) (hW : (rest.map fun v => v.category).sum ≤ 8) (h2 : st2 = r.toList ++ rest) (k : G E nL nx lv st2 mm2) : G E nL pc lv st mm := by
  obtain ⟨p, l', e, R', s, m, args, below, meth, c, Q, C', kc, ks, A, res, mo⟩ := E
  obtain ⟨rfl, rfl, rfl⟩ := X
  obtain ⟨hd, hnx⟩ := Bx.dec B h
  obtain ⟨rfl, rfl⟩ := hnx
  subst hst
  subst h2
  intro H locs ls hP hS hl
  have hrl : (rest.map (cvv C')).map (fun v => v.category) = rest.map (fun v => v.category) := by rw [List.map_map]; congr 1; funext v; exact cvv_cat C' v
  have hk : ∀ (H1 : Heap) (locs1 : List Loc), va_P C'.2.1 zcls (wl C' mm2) H1 → va_S A s.heap H1 locs1 → W p l' e R' s m args below meth c H1 locs1 kc ks Q (F0 m (pc + 3) ls ((r.map (cvv C')).toList ++ rest.map (cvv C'))) := by
    intro H1 locs1 hP1 hS1
    have := k H1 locs1 ls hP1 hS1 hl
    rw [List.map_append] at this
    cases r <;> exact this
  refine zcall B hS (va_runS (As := as.map (cvv C')) (rest := rest.map (cvv C')) ⟨B.1, rfl, B.ml, B.hown, B.tw⟩ hc ⟨callB_of n B.tw (tw_good hM.1) rfl rfl rfl (B.tw _ hM.2.2.2) (B.tw _ hw.1) hM.2.2.1 hR, B.tw _ hw.2⟩ ⟨Wd_blind, Wd_call B hP hS as⟩ rfl (by rw [List.length_map]; exact hn) hl.1 (by rw [List.map_append, List.map_reverse]) (lv_room (by rw [hrl]; exact hW)) hd B.rm) hk
theorem z_callN {E : Ev} {own : String} {tb : Tb} {nL : Nat} {ret : Option FieldType} {pc nx : Nat} {lv : Lv} {st : List Value} {mm : Mem} {l : Launch} {C : Cfg} {R : Room} {y : MethodName} {bytes : ByteArray} {maxL n fr lo idx : Nat} {rt : Option FieldType} {r : Option Value} {mm2 : Mem} {host : String} (as rest st2 : List Value) (X : Ec E l C R) (B : Bx E own tb nL ret) (i : Nat) (h : tb[i]? = some (pc, .invokestatic idx, 3, nx)) (hM : MI y bytes maxL rt n) (hw : Cond.methodLinkNest own idx y host ∈ TW ∧ Cond.static y ∈ TW) (hc : Ct l C y bytes maxL rt fr lo as mm r mm2) (hR : fr + 1 ≤ R.frames ∧ 8 + (maxL + 11) + lo ≤ R.locals) (hn : as.length = n) (hst : st = as.reverse ++ rest) (hW : (rest.map fun v => v.category).sum ≤ 8) (h2 : st2 = r.toList ++ rest) (k : G E nL nx lv st2 mm2) : G E nL pc lv st mm := by
  obtain ⟨p, l', e, R', s, m, args, below, meth, c, Q, C', kc, ks, A, res, mo⟩ := E
  obtain ⟨rfl, rfl, rfl⟩ := X
  obtain ⟨hd, hnx⟩ := Bx.dec B h
  obtain ⟨rfl, rfl⟩ := hnx
  subst hst
  subst h2
  intro H locs ls hP hS hl
  have hrl : (rest.map (cvv C')).map (fun v => v.category) = rest.map (fun v => v.category) := by rw [List.map_map]; congr 1; funext v; exact cvv_cat C' v
  have hk : ∀ (H1 : Heap) (locs1 : List Loc), va_P C'.2.1 zcls (wl C' mm2) H1 → va_S A s.heap H1 locs1 → W p l' e R' s m args below meth c H1 locs1 kc ks Q (F0 m (pc + 3) ls ((r.map (cvv C')).toList ++ rest.map (cvv C'))) := by
    intro H1 locs1 hP1 hS1
    have := k H1 locs1 ls hP1 hS1 hl
    rw [List.map_append] at this
    cases r <;> exact this
  refine zcall B hS (va_runSN (As := as.map (cvv C')) (rest := rest.map (cvv C')) ⟨B.1, rfl, B.ml, B.hown, B.tw⟩ hc ⟨va_cnB n B.tw (tw_good hM.1) rfl rfl rfl (va_Nw.of rfl (B.tw _ hw.1)) (B.tw _ hM.2.2.2) hM.2.2.1 hR, B.tw _ hw.2, trivial⟩ ⟨Wd_blind, Wd_call B hP hS as⟩ rfl (by rw [List.length_map]; exact hn) hl.1 (by rw [List.map_append, List.map_reverse]) (lv_room (by rw [hrl]; exact hW)) hd B.rm) hk
theorem z_callV {E : Ev} {own : String} {tb : Tb} {nL : Nat} {ret : Option FieldType} {pc nx : Nat} {lv : Lv} {st : List Value} {mm : Mem} {l : Launch} {C : Cfg} {R : Room} {y : MethodName} {bytes : ByteArray} {maxL n fr lo idx : Nat} {rt : Option FieldType} {r : Option Value} {mm2 : Mem} {x : vw_C} (q ci : Nat) (as rest st2 : List Value) (X : Ec E l C R) (B : Bx E own tb nL ret) (i : Nat) (h : tb[i]? = some (pc, .invokevirtual idx, 3, nx)) (hq : Ob q ci) (hx : zcls[ci]? = some x) (hxc : x.1 = y.cls) (hM : MI y bytes maxL rt n) (hw : Cond.methodLink own idx y ∈ TW ∧ Cond.instanceMethod y ∈ TW ∧ Cond.selects y.cls y y ∈ TW) (hc : Ct l C y bytes maxL rt fr lo (.ref q :: as) mm r mm2) (hR : fr + 1 ≤ R.frames ∧ 8 + (maxL + 11) + lo ≤ R.locals) (hn : as.length = n) (hst : st = as.reverse ++ .ref q :: rest) (hW : (rest.map fun v => v.category).sum ≤ 8) (h2 : st2 = r.toList ++ rest) (k : G E nL nx lv st2 mm2) : G E nL pc lv st mm := by
  obtain ⟨p, l', e, R', s, m, args, below, meth, c, Q, C', kc, ks, A, res, mo⟩ := E
  obtain ⟨rfl, rfl, rfl⟩ := X
  obtain ⟨hd, hnx⟩ := Bx.dec B h
  obtain ⟨rfl, rfl⟩ := hnx
  subst hst
  subst h2
  intro H locs ls hP hS hl
  have hrl : (rest.map (cvv C')).map (fun v => v.category) = rest.map (fun v => v.category) := by rw [List.map_map]; congr 1; funext v; exact cvv_cat C' v
  have hk : ∀ (H1 : Heap) (locs1 : List Loc), va_P C'.2.1 zcls (wl C' mm2) H1 → va_S A s.heap H1 locs1 → W p l' e R' s m args below meth c H1 locs1 kc ks Q (F0 m (pc + 3) ls ((r.map (cvv C')).toList ++ rest.map (cvv C'))) := by
    intro H1 locs1 hP1 hS1
    have := k H1 locs1 ls hP1 hS1 hl
    rw [List.map_append] at this
    cases r <;> exact this
  have hrec : ∃ cell : Cell, H[C'.1 q]? = some cell ∧ cell.vm.isStatics = false ∧ s.vm.findClass y.cls = some cell.cls := by
    rw [← hxc]
    exact va_recv B.K hP hx (by rw [wl_get hq.1, cel_obj hq.2 (zcls_lt hx)])
  refine zcall B hS (va_runV (C := y.cls) (b := C'.1 q) (As := as.map (cvv C')) (rest := rest.map (cvv C')) ⟨B.1, rfl, B.ml, B.hown, B.tw⟩ hc ⟨callB_of n B.tw (tw_good hM.1) rfl rfl rfl (B.tw _ hM.2.2.2) (B.tw _ hw.1) hM.2.2.1 hR, B.tw _ hw.2.1, B.tw _ hw.2.2⟩ ⟨Wd_blind, hrec, Wd_call B hP hS (.ref q :: as)⟩ rfl (by rw [List.length_map]; exact hn) hl.1 (by rw [List.map_append, List.map_reverse]; rfl) (lv_room (by rw [hrl]; exact hW)) hd B.rm) hk
theorem z_mmax {E : Ev} {own : String} {tb : Tb} {nL : Nat} {ret : Option FieldType} {pc nx : Nat} {lv : Lv} {st : List Value} {mm : Mem} {l : Launch} {C : Cfg} {R : Room} {x y : Int32} {idx : Nat} (X : Ec E l C R) (B : Bx E own tb nL ret) (i : Nat) (h : tb[i]? = some (pc, .invokestatic idx, 3, nx)) (hw : Cond.methodLink own idx Lib.Math.max.name ∈ TW ∧ Cond.static Lib.Math.max.name ∈ TW ∧ Cond.initialized "java/lang/Math" ∈ TW ∧ Cond.code Lib.Math.max.name Lib.Math.max.code 2 (some .int) ∈ TW) (hR : 1 ≤ R.frames ∧ 21 ≤ R.locals) (hW : (st.map fun v => v.category).sum ≤ 8) (k : G E nL nx lv (.int (if x < y then y else x) :: st) mm) : G E nL pc lv (.int y :: .int x :: st) mm := by
  obtain ⟨p, l', e, R', s, m, args, below, meth, c, Q, C', kc, ks, A, res, mo⟩ := E
  obtain ⟨rfl, rfl, rfl⟩ := X
  obtain ⟨hd, hnx⟩ := Bx.dec B h
  obtain ⟨rfl, rfl⟩ := hnx
  intro H locs ls hP hS hl
  have hrl : (st.map (cvv C')).map (fun v => v.category) = st.map (fun v => v.category) := by rw [List.map_map]; congr 1; funext v; exact cvv_cat C' v
  exact va_mmax B.1 rfl (by rw [B.ml]; exact hl.1.symm) B.hown (B.tw _ hw.1) (B.tw _ hw.2.1) (B.tw _ hw.2.2.1) (B.tw _ hw.2.2.2) hR.1 (by rw [hrl]; omega) B.rm.1 B.rm.2 hd (k H locs ls hP hS hl)
theorem z_mmin {E : Ev} {own : String} {tb : Tb} {nL : Nat} {ret : Option FieldType} {pc nx : Nat} {lv : Lv} {st : List Value} {mm : Mem} {l : Launch} {C : Cfg} {R : Room} {x y : Int32} {idx : Nat} (X : Ec E l C R) (B : Bx E own tb nL ret) (i : Nat) (h : tb[i]? = some (pc, .invokestatic idx, 3, nx)) (hw : Cond.methodLink own idx Lib.Math.min.name ∈ TW ∧ Cond.static Lib.Math.min.name ∈ TW ∧ Cond.initialized "java/lang/Math" ∈ TW ∧ Cond.code Lib.Math.min.name Lib.Math.min.code 2 (some .int) ∈ TW) (hR : 1 ≤ R.frames ∧ 21 ≤ R.locals) (hW : (st.map fun v => v.category).sum ≤ 8) (k : G E nL nx lv (.int (if y < x then y else x) :: st) mm) : G E nL pc lv (.int y :: .int x :: st) mm := by
  obtain ⟨p, l', e, R', s, m, args, below, meth, c, Q, C', kc, ks, A, res, mo⟩ := E
  obtain ⟨rfl, rfl, rfl⟩ := X
  obtain ⟨hd, hnx⟩ := Bx.dec B h
  obtain ⟨rfl, rfl⟩ := hnx
  intro H locs ls hP hS hl
  have hrl : (st.map (cvv C')).map (fun v => v.category) = st.map (fun v => v.category) := by rw [List.map_map]; congr 1; funext v; exact cvv_cat C' v
  exact va_mmin B.1 rfl (by rw [B.ml]; exact hl.1.symm) B.hown (B.tw _ hw.1) (B.tw _ hw.2.1) (B.tw _ hw.2.2.1) (B.tw _ hw.2.2.2) hR.1 (by rw [hrl]; omega) B.rm.1 B.rm.2 hd (k H locs ls hP hS hl)
end
