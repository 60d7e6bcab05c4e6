section
-- ===== PART A: goes FIRST, ahead of the names: the tables' words, and 'selects' of the private methods out of them =====
/-- a private method of a class that the tables say can be made, by its rows of tables_1 -/
def lw_okq (q : MethodName × Nat) : Prop := (q.1.cls ≠ "java/lang/invoke/MethodHandle" ∧ q.1.cls ≠ "java/lang/invoke/VarHandle") ∧ Cond.instantiable q.1.cls q.2 ∈ tables_1 ∧ Cond.privateMethod q.1 ∈ tables_1 ∧ Cond.instanceMethod q.1 ∈ tables_1
theorem lw_p0 : lw_okq (⟨"ZoneCapacity$Teller", "advance", "()V"⟩, 8) := ⟨⟨by decide +kernel, by decide +kernel⟩, List.mem_of_getElem? (i := 197) (by decide +kernel), List.mem_of_getElem? (i := 313) (by decide +kernel), List.mem_of_getElem? (i := 314) (by decide +kernel)⟩
theorem lw_p1 : lw_okq (⟨"ZoneCapacity$Teller", "tellStatement", "()Z"⟩, 8) := ⟨⟨by decide +kernel, by decide +kernel⟩, List.mem_of_getElem? (i := 197) (by decide +kernel), List.mem_of_getElem? (i := 329) (by decide +kernel), List.mem_of_getElem? (i := 330) (by decide +kernel)⟩
theorem lw_p2 : lw_okq (⟨"ZoneCapacity$Teller", "isWord", "(Ljava/lang/String;)Z"⟩, 8) := ⟨⟨by decide +kernel, by decide +kernel⟩, List.mem_of_getElem? (i := 197) (by decide +kernel), List.mem_of_getElem? (i := 334) (by decide +kernel), List.mem_of_getElem? (i := 335) (by decide +kernel)⟩
theorem lw_p3 : lw_okq (⟨"ZoneCapacity$Teller", "tellZone", "()Z"⟩, 8) := ⟨⟨by decide +kernel, by decide +kernel⟩, List.mem_of_getElem? (i := 197) (by decide +kernel), List.mem_of_getElem? (i := 386) (by decide +kernel), List.mem_of_getElem? (i := 387) (by decide +kernel)⟩
theorem lw_p4 : lw_okq (⟨"ZoneCapacity$Teller", "blame", "(II)Z"⟩, 8) := ⟨⟨by decide +kernel, by decide +kernel⟩, List.mem_of_getElem? (i := 197) (by decide +kernel), List.mem_of_getElem? (i := 390) (by decide +kernel), List.mem_of_getElem? (i := 391) (by decide +kernel)⟩
theorem lw_p5 : lw_okq (⟨"ZoneCapacity$Teller", "takeNumber", "(II)Z"⟩, 8) := ⟨⟨by decide +kernel, by decide +kernel⟩, List.mem_of_getElem? (i := 197) (by decide +kernel), List.mem_of_getElem? (i := 394) (by decide +kernel), List.mem_of_getElem? (i := 395) (by decide +kernel)⟩
theorem lw_p6 : lw_okq (⟨"ZoneCapacity$Teller", "takeEnd", "()Z"⟩, 8) := ⟨⟨by decide +kernel, by decide +kernel⟩, List.mem_of_getElem? (i := 197) (by decide +kernel), List.mem_of_getElem? (i := 403) (by decide +kernel), List.mem_of_getElem? (i := 404) (by decide +kernel)⟩
theorem lw_p7 : lw_okq (⟨"ZoneCapacity$Teller", "tellCurve", "()Z"⟩, 8) := ⟨⟨by decide +kernel, by decide +kernel⟩, List.mem_of_getElem? (i := 197) (by decide +kernel), List.mem_of_getElem? (i := 408) (by decide +kernel), List.mem_of_getElem? (i := 409) (by decide +kernel)⟩
theorem lw_p8 : lw_okq (⟨"ZoneCapacity$Teller", "tellResource", "()Z"⟩, 8) := ⟨⟨by decide +kernel, by decide +kernel⟩, List.mem_of_getElem? (i := 197) (by decide +kernel), List.mem_of_getElem? (i := 430) (by decide +kernel), List.mem_of_getElem? (i := 431) (by decide +kernel)⟩
theorem lw_p9 : lw_okq (⟨"ZoneCapacity$Teller", "takeWord", "(Ljava/lang/String;)Z"⟩, 8) := ⟨⟨by decide +kernel, by decide +kernel⟩, List.mem_of_getElem? (i := 197) (by decide +kernel), List.mem_of_getElem? (i := 435) (by decide +kernel), List.mem_of_getElem? (i := 436) (by decide +kernel)⟩
theorem lw_p10 : lw_okq (⟨"ZoneCapacity$Teller", "tellOffer", "()Z"⟩, 8) := ⟨⟨by decide +kernel, by decide +kernel⟩, List.mem_of_getElem? (i := 197) (by decide +kernel), List.mem_of_getElem? (i := 446) (by decide +kernel), List.mem_of_getElem? (i := 447) (by decide +kernel)⟩
theorem lw_p11 : lw_okq (⟨"ZoneCapacity$Teller", "tellFloor", "()Z"⟩, 8) := ⟨⟨by decide +kernel, by decide +kernel⟩, List.mem_of_getElem? (i := 197) (by decide +kernel), List.mem_of_getElem? (i := 468) (by decide +kernel), List.mem_of_getElem? (i := 469) (by decide +kernel)⟩
theorem lw_p12 : lw_okq (⟨"ZoneCapacity$Teller", "tellCeiling", "()Z"⟩, 8) := ⟨⟨by decide +kernel, by decide +kernel⟩, List.mem_of_getElem? (i := 197) (by decide +kernel), List.mem_of_getElem? (i := 474) (by decide +kernel), List.mem_of_getElem? (i := 475) (by decide +kernel)⟩
theorem lw_p13 : lw_okq (⟨"ZoneCapacity$Teller", "tellLimits", "()Z"⟩, 8) := ⟨⟨by decide +kernel, by decide +kernel⟩, List.mem_of_getElem? (i := 197) (by decide +kernel), List.mem_of_getElem? (i := 479) (by decide +kernel), List.mem_of_getElem? (i := 480) (by decide +kernel)⟩
theorem lw_p14 : lw_okq (⟨"ZoneCapacity$Auction", "readLines", "()V"⟩, 12) := ⟨⟨by decide +kernel, by decide +kernel⟩, List.mem_of_getElem? (i := 27) (by decide +kernel), List.mem_of_getElem? (i := 613) (by decide +kernel), List.mem_of_getElem? (i := 614) (by decide +kernel)⟩
theorem lw_p15 : lw_okq (⟨"ZoneCapacity$Auction", "fillLevels", "(II[I)V"⟩, 12) := ⟨⟨by decide +kernel, by decide +kernel⟩, List.mem_of_getElem? (i := 27) (by decide +kernel), List.mem_of_getElem? (i := 620) (by decide +kernel), List.mem_of_getElem? (i := 621) (by decide +kernel)⟩
def lw_privs_1 : List (MethodName × Nat) := [(⟨"ZoneCapacity$Teller", "advance", "()V"⟩, 8), (⟨"ZoneCapacity$Teller", "tellStatement", "()Z"⟩, 8), (⟨"ZoneCapacity$Teller", "isWord", "(Ljava/lang/String;)Z"⟩, 8), (⟨"ZoneCapacity$Teller", "tellZone", "()Z"⟩, 8), (⟨"ZoneCapacity$Teller", "blame", "(II)Z"⟩, 8), (⟨"ZoneCapacity$Teller", "takeNumber", "(II)Z"⟩, 8), (⟨"ZoneCapacity$Teller", "takeEnd", "()Z"⟩, 8), (⟨"ZoneCapacity$Teller", "tellCurve", "()Z"⟩, 8), (⟨"ZoneCapacity$Teller", "tellResource", "()Z"⟩, 8), (⟨"ZoneCapacity$Teller", "takeWord", "(Ljava/lang/String;)Z"⟩, 8), (⟨"ZoneCapacity$Teller", "tellOffer", "()Z"⟩, 8), (⟨"ZoneCapacity$Teller", "tellFloor", "()Z"⟩, 8), (⟨"ZoneCapacity$Teller", "tellCeiling", "()Z"⟩, 8), (⟨"ZoneCapacity$Teller", "tellLimits", "()Z"⟩, 8), (⟨"ZoneCapacity$Auction", "readLines", "()V"⟩, 12), (⟨"ZoneCapacity$Auction", "fillLevels", "(II[I)V"⟩, 12)]
theorem lw_r1 : ∀ q ∈ lw_privs_1, lw_okq q := List.forall_mem_cons.mpr ⟨lw_p0, List.forall_mem_cons.mpr ⟨lw_p1, List.forall_mem_cons.mpr ⟨lw_p2, List.forall_mem_cons.mpr ⟨lw_p3, List.forall_mem_cons.mpr ⟨lw_p4, List.forall_mem_cons.mpr ⟨lw_p5, List.forall_mem_cons.mpr ⟨lw_p6, List.forall_mem_cons.mpr ⟨lw_p7, List.forall_mem_cons.mpr ⟨lw_p8, List.forall_mem_cons.mpr ⟨lw_p9, List.forall_mem_cons.mpr ⟨lw_p10, List.forall_mem_cons.mpr ⟨lw_p11, List.forall_mem_cons.mpr ⟨lw_p12, List.forall_mem_cons.mpr ⟨lw_p13, List.forall_mem_cons.mpr ⟨lw_p14, List.forall_mem_cons.mpr ⟨lw_p15, fun _ h => absurd h List.not_mem_nil⟩⟩⟩⟩⟩⟩⟩⟩⟩⟩⟩⟩⟩⟩⟩⟩
theorem lw_p16 : lw_okq (⟨"ZoneCapacity$Auction", "unitsBelow", "(II)I"⟩, 12) := ⟨⟨by decide +kernel, by decide +kernel⟩, List.mem_of_getElem? (i := 27) (by decide +kernel), List.mem_of_getElem? (i := 626) (by decide +kernel), List.mem_of_getElem? (i := 627) (by decide +kernel)⟩
theorem lw_p17 : lw_okq (⟨"ZoneCapacity$Auction", "readTop", "()V"⟩, 12) := ⟨⟨by decide +kernel, by decide +kernel⟩, List.mem_of_getElem? (i := 27) (by decide +kernel), List.mem_of_getElem? (i := 644) (by decide +kernel), List.mem_of_getElem? (i := 645) (by decide +kernel)⟩
theorem lw_p18 : lw_okq (⟨"ZoneCapacity$Auction", "leastPrice", "(II)I"⟩, 12) := ⟨⟨by decide +kernel, by decide +kernel⟩, List.mem_of_getElem? (i := 27) (by decide +kernel), List.mem_of_getElem? (i := 653) (by decide +kernel), List.mem_of_getElem? (i := 654) (by decide +kernel)⟩
theorem lw_p19 : lw_okq (⟨"ZoneCapacity$Auction", "part", "(I)V"⟩, 12) := ⟨⟨by decide +kernel, by decide +kernel⟩, List.mem_of_getElem? (i := 27) (by decide +kernel), List.mem_of_getElem? (i := 657) (by decide +kernel), List.mem_of_getElem? (i := 658) (by decide +kernel)⟩
theorem lw_p20 : lw_okq (⟨"ZoneCapacity$Auction", "partToLines", "(III)I"⟩, 12) := ⟨⟨by decide +kernel, by decide +kernel⟩, List.mem_of_getElem? (i := 27) (by decide +kernel), List.mem_of_getElem? (i := 661) (by decide +kernel), List.mem_of_getElem? (i := 662) (by decide +kernel)⟩
theorem lw_p21 : lw_okq (⟨"ZoneCapacity$Auction", "partToInner", "(III)I"⟩, 12) := ⟨⟨by decide +kernel, by decide +kernel⟩, List.mem_of_getElem? (i := 27) (by decide +kernel), List.mem_of_getElem? (i := 666) (by decide +kernel), List.mem_of_getElem? (i := 667) (by decide +kernel)⟩
theorem lw_p22 : lw_okq (⟨"ZoneCapacity", "isNarrow", "(II)Z"⟩, 7) := ⟨⟨by decide +kernel, by decide +kernel⟩, List.mem_of_getElem? (i := 19) (by decide +kernel), List.mem_of_getElem? (i := 759) (by decide +kernel), List.mem_of_getElem? (i := 760) (by decide +kernel)⟩
theorem lw_p23 : lw_okq (⟨"ZoneCapacity", "gainAt", "(III)J"⟩, 7) := ⟨⟨by decide +kernel, by decide +kernel⟩, List.mem_of_getElem? (i := 19) (by decide +kernel), List.mem_of_getElem? (i := 775) (by decide +kernel), List.mem_of_getElem? (i := 776) (by decide +kernel)⟩
theorem lw_p24 : lw_okq (⟨"java/lang/Throwable", "fillInStackTrace", "(I)Ljava/lang/Throwable;"⟩, 6) := ⟨⟨by decide +kernel, by decide +kernel⟩, List.mem_of_getElem? (i := 827) (by decide +kernel), List.mem_of_getElem? (i := 825) (by decide +kernel), List.mem_of_getElem? (i := 826) (by decide +kernel)⟩
theorem lw_p25 : lw_okq (⟨"ZoneCapacityModel", "isZone", "(I)Z"⟩, 23) := ⟨⟨by decide +kernel, by decide +kernel⟩, List.mem_of_getElem? (i := 863) (by decide +kernel), List.mem_of_getElem? (i := 948) (by decide +kernel), List.mem_of_getElem? (i := 949) (by decide +kernel)⟩
theorem lw_p26 : lw_okq (⟨"ZoneCapacityModel", "ofZone", "(II)I"⟩, 23) := ⟨⟨by decide +kernel, by decide +kernel⟩, List.mem_of_getElem? (i := 863) (by decide +kernel), List.mem_of_getElem? (i := 962) (by decide +kernel), List.mem_of_getElem? (i := 963) (by decide +kernel)⟩
theorem lw_p27 : lw_okq (⟨"ZoneCapacityModel", "canPoint", "(III)Z"⟩, 23) := ⟨⟨by decide +kernel, by decide +kernel⟩, List.mem_of_getElem? (i := 863) (by decide +kernel), List.mem_of_getElem? (i := 966) (by decide +kernel), List.mem_of_getElem? (i := 967) (by decide +kernel)⟩
theorem lw_p28 : lw_okq (⟨"ZoneCapacityModel", "pointUnits", "(II)I"⟩, 23) := ⟨⟨by decide +kernel, by decide +kernel⟩, List.mem_of_getElem? (i := 863) (by decide +kernel), List.mem_of_getElem? (i := 970) (by decide +kernel), List.mem_of_getElem? (i := 971) (by decide +kernel)⟩
theorem lw_p29 : lw_okq (⟨"ZoneCapacityModel", "pointPrice", "(II)I"⟩, 23) := ⟨⟨by decide +kernel, by decide +kernel⟩, List.mem_of_getElem? (i := 863) (by decide +kernel), List.mem_of_getElem? (i := 974) (by decide +kernel), List.mem_of_getElem? (i := 975) (by decide +kernel)⟩
theorem lw_p30 : lw_okq (⟨"ZoneCapacityModel", "addPoint", "(III)V"⟩, 23) := ⟨⟨by decide +kernel, by decide +kernel⟩, List.mem_of_getElem? (i := 863) (by decide +kernel), List.mem_of_getElem? (i := 978) (by decide +kernel), List.mem_of_getElem? (i := 979) (by decide +kernel)⟩
theorem lw_p31 : lw_okq (⟨"ZoneCapacityModel", "addResource", "(IIIIII)I"⟩, 23) := ⟨⟨by decide +kernel, by decide +kernel⟩, List.mem_of_getElem? (i := 863) (by decide +kernel), List.mem_of_getElem? (i := 986) (by decide +kernel), List.mem_of_getElem? (i := 987) (by decide +kernel)⟩
def lw_privs_2 : List (MethodName × Nat) := [(⟨"ZoneCapacity$Auction", "unitsBelow", "(II)I"⟩, 12), (⟨"ZoneCapacity$Auction", "readTop", "()V"⟩, 12), (⟨"ZoneCapacity$Auction", "leastPrice", "(II)I"⟩, 12), (⟨"ZoneCapacity$Auction", "part", "(I)V"⟩, 12), (⟨"ZoneCapacity$Auction", "partToLines", "(III)I"⟩, 12), (⟨"ZoneCapacity$Auction", "partToInner", "(III)I"⟩, 12), (⟨"ZoneCapacity", "isNarrow", "(II)Z"⟩, 7), (⟨"ZoneCapacity", "gainAt", "(III)J"⟩, 7), (⟨"java/lang/Throwable", "fillInStackTrace", "(I)Ljava/lang/Throwable;"⟩, 6), (⟨"ZoneCapacityModel", "isZone", "(I)Z"⟩, 23), (⟨"ZoneCapacityModel", "ofZone", "(II)I"⟩, 23), (⟨"ZoneCapacityModel", "canPoint", "(III)Z"⟩, 23), (⟨"ZoneCapacityModel", "pointUnits", "(II)I"⟩, 23), (⟨"ZoneCapacityModel", "pointPrice", "(II)I"⟩, 23), (⟨"ZoneCapacityModel", "addPoint", "(III)V"⟩, 23), (⟨"ZoneCapacityModel", "addResource", "(IIIIII)I"⟩, 23)]
theorem lw_r2 : ∀ q ∈ lw_privs_2, lw_okq q := List.forall_mem_cons.mpr ⟨lw_p16, List.forall_mem_cons.mpr ⟨lw_p17, List.forall_mem_cons.mpr ⟨lw_p18, List.forall_mem_cons.mpr ⟨lw_p19, List.forall_mem_cons.mpr ⟨lw_p20, List.forall_mem_cons.mpr ⟨lw_p21, List.forall_mem_cons.mpr ⟨lw_p22, List.forall_mem_cons.mpr ⟨lw_p23, List.forall_mem_cons.mpr ⟨lw_p24, List.forall_mem_cons.mpr ⟨lw_p25, List.forall_mem_cons.mpr ⟨lw_p26, List.forall_mem_cons.mpr ⟨lw_p27, List.forall_mem_cons.mpr ⟨lw_p28, List.forall_mem_cons.mpr ⟨lw_p29, List.forall_mem_cons.mpr ⟨lw_p30, List.forall_mem_cons.mpr ⟨lw_p31, fun _ h => absurd h List.not_mem_nil⟩⟩⟩⟩⟩⟩⟩⟩⟩⟩⟩⟩⟩⟩⟩⟩
theorem lw_p32 : lw_okq (⟨"ZoneCapacityModel", "isResource", "(I)Z"⟩, 23) := ⟨⟨by decide +kernel, by decide +kernel⟩, List.mem_of_getElem? (i := 863) (by decide +kernel), List.mem_of_getElem? (i := 994) (by decide +kernel), List.mem_of_getElem? (i := 995) (by decide +kernel)⟩
theorem lw_p33 : lw_okq (⟨"ZoneCapacityModel", "ofResource", "(II)I"⟩, 23) := ⟨⟨by decide +kernel, by decide +kernel⟩, List.mem_of_getElem? (i := 863) (by decide +kernel), List.mem_of_getElem? (i := 998) (by decide +kernel), List.mem_of_getElem? (i := 999) (by decide +kernel)⟩
theorem lw_p34 : lw_okq (⟨"ZoneCapacityModel", "stepped", "(I)I"⟩, 23) := ⟨⟨by decide +kernel, by decide +kernel⟩, List.mem_of_getElem? (i := 863) (by decide +kernel), List.mem_of_getElem? (i := 1002) (by decide +kernel), List.mem_of_getElem? (i := 1003) (by decide +kernel)⟩
theorem lw_p35 : lw_okq (⟨"ZoneCapacityModel", "lineUnits", "(II)I"⟩, 23) := ⟨⟨by decide +kernel, by decide +kernel⟩, List.mem_of_getElem? (i := 863) (by decide +kernel), List.mem_of_getElem? (i := 1006) (by decide +kernel), List.mem_of_getElem? (i := 1007) (by decide +kernel)⟩
theorem lw_p36 : lw_okq (⟨"ZoneCapacityModel", "addStep", "(III)V"⟩, 23) := ⟨⟨by decide +kernel, by decide +kernel⟩, List.mem_of_getElem? (i := 863) (by decide +kernel), List.mem_of_getElem? (i := 1010) (by decide +kernel), List.mem_of_getElem? (i := 1011) (by decide +kernel)⟩
theorem lw_p37 : lw_okq (⟨"ZoneCapacityModel", "placeOf", "(III)I"⟩, 23) := ⟨⟨by decide +kernel, by decide +kernel⟩, List.mem_of_getElem? (i := 863) (by decide +kernel), List.mem_of_getElem? (i := 1022) (by decide +kernel), List.mem_of_getElem? (i := 1023) (by decide +kernel)⟩
theorem lw_p38 : lw_okq (⟨"ZoneCapacityModel", "wanted", "(I)I"⟩, 23) := ⟨⟨by decide +kernel, by decide +kernel⟩, List.mem_of_getElem? (i := 863) (by decide +kernel), List.mem_of_getElem? (i := 1042) (by decide +kernel), List.mem_of_getElem? (i := 1043) (by decide +kernel)⟩
theorem lw_p39 : lw_okq (⟨"ZoneCapacityModel", "isLine", "(II)Z"⟩, 23) := ⟨⟨by decide +kernel, by decide +kernel⟩, List.mem_of_getElem? (i := 863) (by decide +kernel), List.mem_of_getElem? (i := 1054) (by decide +kernel), List.mem_of_getElem? (i := 1055) (by decide +kernel)⟩
theorem lw_p40 : lw_okq (⟨"ZoneCapacityModel", "lineIts", "(II)I"⟩, 23) := ⟨⟨by decide +kernel, by decide +kernel⟩, List.mem_of_getElem? (i := 863) (by decide +kernel), List.mem_of_getElem? (i := 1058) (by decide +kernel), List.mem_of_getElem? (i := 1059) (by decide +kernel)⟩
theorem lw_p41 : lw_okq (⟨"ZoneCapacityModel", "worthOf", "(II)I"⟩, 23) := ⟨⟨by decide +kernel, by decide +kernel⟩, List.mem_of_getElem? (i := 863) (by decide +kernel), List.mem_of_getElem? (i := 1066) (by decide +kernel), List.mem_of_getElem? (i := 1067) (by decide +kernel)⟩
theorem lw_p42 : lw_okq (⟨"ZoneCapacityModel", "wantedAt", "(II)I"⟩, 23) := ⟨⟨by decide +kernel, by decide +kernel⟩, List.mem_of_getElem? (i := 863) (by decide +kernel), List.mem_of_getElem? (i := 1074) (by decide +kernel), List.mem_of_getElem? (i := 1075) (by decide +kernel)⟩
theorem lw_p43 : lw_okq (⟨"ZoneCapacityModel", "laysLevels", "(II)V"⟩, 23) := ⟨⟨by decide +kernel, by decide +kernel⟩, List.mem_of_getElem? (i := 863) (by decide +kernel), List.mem_of_getElem? (i := 1083) (by decide +kernel), List.mem_of_getElem? (i := 1084) (by decide +kernel)⟩
theorem lw_p44 : lw_okq (⟨"ZoneCapacityModel", "offered", "(IIZ)I"⟩, 23) := ⟨⟨by decide +kernel, by decide +kernel⟩, List.mem_of_getElem? (i := 863) (by decide +kernel), List.mem_of_getElem? (i := 1087) (by decide +kernel), List.mem_of_getElem? (i := 1088) (by decide +kernel)⟩
theorem lw_p45 : lw_okq (⟨"ZoneCapacityModel", "cut", "(II)I"⟩, 23) := ⟨⟨by decide +kernel, by decide +kernel⟩, List.mem_of_getElem? (i := 863) (by decide +kernel), List.mem_of_getElem? (i := 1091) (by decide +kernel), List.mem_of_getElem? (i := 1092) (by decide +kernel)⟩
theorem lw_p46 : lw_okq (⟨"ZoneCapacityModel", "clearsAll", "()V"⟩, 23) := ⟨⟨by decide +kernel, by decide +kernel⟩, List.mem_of_getElem? (i := 863) (by decide +kernel), List.mem_of_getElem? (i := 1099) (by decide +kernel), List.mem_of_getElem? (i := 1100) (by decide +kernel)⟩
theorem lw_p47 : lw_okq (⟨"ZoneCapacityModel", "clears", "()V"⟩, 23) := ⟨⟨by decide +kernel, by decide +kernel⟩, List.mem_of_getElem? (i := 863) (by decide +kernel), List.mem_of_getElem? (i := 1103) (by decide +kernel), List.mem_of_getElem? (i := 1104) (by decide +kernel)⟩
def lw_privs_3 : List (MethodName × Nat) := [(⟨"ZoneCapacityModel", "isResource", "(I)Z"⟩, 23), (⟨"ZoneCapacityModel", "ofResource", "(II)I"⟩, 23), (⟨"ZoneCapacityModel", "stepped", "(I)I"⟩, 23), (⟨"ZoneCapacityModel", "lineUnits", "(II)I"⟩, 23), (⟨"ZoneCapacityModel", "addStep", "(III)V"⟩, 23), (⟨"ZoneCapacityModel", "placeOf", "(III)I"⟩, 23), (⟨"ZoneCapacityModel", "wanted", "(I)I"⟩, 23), (⟨"ZoneCapacityModel", "isLine", "(II)Z"⟩, 23), (⟨"ZoneCapacityModel", "lineIts", "(II)I"⟩, 23), (⟨"ZoneCapacityModel", "worthOf", "(II)I"⟩, 23), (⟨"ZoneCapacityModel", "wantedAt", "(II)I"⟩, 23), (⟨"ZoneCapacityModel", "laysLevels", "(II)V"⟩, 23), (⟨"ZoneCapacityModel", "offered", "(IIZ)I"⟩, 23), (⟨"ZoneCapacityModel", "cut", "(II)I"⟩, 23), (⟨"ZoneCapacityModel", "clearsAll", "()V"⟩, 23), (⟨"ZoneCapacityModel", "clears", "()V"⟩, 23)]
theorem lw_r3 : ∀ q ∈ lw_privs_3, lw_okq q := List.forall_mem_cons.mpr ⟨lw_p32, List.forall_mem_cons.mpr ⟨lw_p33, List.forall_mem_cons.mpr ⟨lw_p34, List.forall_mem_cons.mpr ⟨lw_p35, List.forall_mem_cons.mpr ⟨lw_p36, List.forall_mem_cons.mpr ⟨lw_p37, List.forall_mem_cons.mpr ⟨lw_p38, List.forall_mem_cons.mpr ⟨lw_p39, List.forall_mem_cons.mpr ⟨lw_p40, List.forall_mem_cons.mpr ⟨lw_p41, List.forall_mem_cons.mpr ⟨lw_p42, List.forall_mem_cons.mpr ⟨lw_p43, List.forall_mem_cons.mpr ⟨lw_p44, List.forall_mem_cons.mpr ⟨lw_p45, List.forall_mem_cons.mpr ⟨lw_p46, List.forall_mem_cons.mpr ⟨lw_p47, fun _ h => absurd h List.not_mem_nil⟩⟩⟩⟩⟩⟩⟩⟩⟩⟩⟩⟩⟩⟩⟩⟩
theorem lw_p48 : lw_okq (⟨"ZoneCapacityModel", "priceOf", "(I)I"⟩, 23) := ⟨⟨by decide +kernel, by decide +kernel⟩, List.mem_of_getElem? (i := 863) (by decide +kernel), List.mem_of_getElem? (i := 1107) (by decide +kernel), List.mem_of_getElem? (i := 1108) (by decide +kernel)⟩
theorem lw_p49 : lw_okq (⟨"ZoneCapacityModel", "leastPrice", "(II)I"⟩, 23) := ⟨⟨by decide +kernel, by decide +kernel⟩, List.mem_of_getElem? (i := 863) (by decide +kernel), List.mem_of_getElem? (i := 1111) (by decide +kernel), List.mem_of_getElem? (i := 1112) (by decide +kernel)⟩
theorem lw_p50 : lw_okq (⟨"ZoneCapacityModel", "takesOwn", "(II)I"⟩, 23) := ⟨⟨by decide +kernel, by decide +kernel⟩, List.mem_of_getElem? (i := 863) (by decide +kernel), List.mem_of_getElem? (i := 1115) (by decide +kernel), List.mem_of_getElem? (i := 1116) (by decide +kernel)⟩
theorem lw_p51 : lw_okq (⟨"ZoneCapacityModel", "takenOf", "(I)I"⟩, 23) := ⟨⟨by decide +kernel, by decide +kernel⟩, List.mem_of_getElem? (i := 863) (by decide +kernel), List.mem_of_getElem? (i := 1131) (by decide +kernel), List.mem_of_getElem? (i := 1132) (by decide +kernel)⟩
theorem lw_p52 : lw_okq (⟨"ZoneCapacityModel", "surplusNow", "()J"⟩, 23) := ⟨⟨by decide +kernel, by decide +kernel⟩, List.mem_of_getElem? (i := 863) (by decide +kernel), List.mem_of_getElem? (i := 1143) (by decide +kernel), List.mem_of_getElem? (i := 1144) (by decide +kernel)⟩
theorem lw_p53 : lw_okq (⟨"ZoneCapacityModel", "paidTo", "(I)J"⟩, 23) := ⟨⟨by decide +kernel, by decide +kernel⟩, List.mem_of_getElem? (i := 863) (by decide +kernel), List.mem_of_getElem? (i := 1156) (by decide +kernel), List.mem_of_getElem? (i := 1157) (by decide +kernel)⟩
theorem lw_p54 : lw_okq (⟨"ZoneCapacityModel", "gainOf", "(III)J"⟩, 23) := ⟨⟨by decide +kernel, by decide +kernel⟩, List.mem_of_getElem? (i := 863) (by decide +kernel), List.mem_of_getElem? (i := 1188) (by decide +kernel), List.mem_of_getElem? (i := 1189) (by decide +kernel)⟩
theorem lw_p55 : lw_okq (⟨"ZoneCapacityModel", "offersAll", "(IZ)V"⟩, 23) := ⟨⟨by decide +kernel, by decide +kernel⟩, List.mem_of_getElem? (i := 863) (by decide +kernel), List.mem_of_getElem? (i := 1192) (by decide +kernel), List.mem_of_getElem? (i := 1193) (by decide +kernel)⟩
theorem lw_p56 : lw_okq (⟨"ZoneCapacityModel", "four", "(I)V"⟩, 23) := ⟨⟨by decide +kernel, by decide +kernel⟩, List.mem_of_getElem? (i := 863) (by decide +kernel), List.mem_of_getElem? (i := 1204) (by decide +kernel), List.mem_of_getElem? (i := 1205) (by decide +kernel)⟩
theorem lw_p57 : lw_okq (⟨"ZoneCapacityModel", "here", "()I"⟩, 23) := ⟨⟨by decide +kernel, by decide +kernel⟩, List.mem_of_getElem? (i := 863) (by decide +kernel), List.mem_of_getElem? (i := 1216) (by decide +kernel), List.mem_of_getElem? (i := 1217) (by decide +kernel)⟩
theorem lw_p58 : lw_okq (⟨"ZoneCapacityModel", "readStatement", "()Z"⟩, 23) := ⟨⟨by decide +kernel, by decide +kernel⟩, List.mem_of_getElem? (i := 863) (by decide +kernel), List.mem_of_getElem? (i := 1220) (by decide +kernel), List.mem_of_getElem? (i := 1221) (by decide +kernel)⟩
theorem lw_p59 : lw_okq (⟨"ZoneCapacityModel", "isWord", "()Z"⟩, 23) := ⟨⟨by decide +kernel, by decide +kernel⟩, List.mem_of_getElem? (i := 863) (by decide +kernel), List.mem_of_getElem? (i := 1224) (by decide +kernel), List.mem_of_getElem? (i := 1225) (by decide +kernel)⟩
theorem lw_p60 : lw_okq (⟨"ZoneCapacityModel", "fails", "(II)Z"⟩, 23) := ⟨⟨by decide +kernel, by decide +kernel⟩, List.mem_of_getElem? (i := 863) (by decide +kernel), List.mem_of_getElem? (i := 1228) (by decide +kernel), List.mem_of_getElem? (i := 1229) (by decide +kernel)⟩
theorem lw_p61 : lw_okq (⟨"ZoneCapacityModel", "readWord", "()J"⟩, 23) := ⟨⟨by decide +kernel, by decide +kernel⟩, List.mem_of_getElem? (i := 863) (by decide +kernel), List.mem_of_getElem? (i := 1232) (by decide +kernel), List.mem_of_getElem? (i := 1233) (by decide +kernel)⟩
theorem lw_p62 : lw_okq (⟨"ZoneCapacityModel", "readZone", "(I)Z"⟩, 23) := ⟨⟨by decide +kernel, by decide +kernel⟩, List.mem_of_getElem? (i := 863) (by decide +kernel), List.mem_of_getElem? (i := 1240) (by decide +kernel), List.mem_of_getElem? (i := 1241) (by decide +kernel)⟩
theorem lw_p63 : lw_okq (⟨"ZoneCapacityModel", "number", "(III)Z"⟩, 23) := ⟨⟨by decide +kernel, by decide +kernel⟩, List.mem_of_getElem? (i := 863) (by decide +kernel), List.mem_of_getElem? (i := 1244) (by decide +kernel), List.mem_of_getElem? (i := 1245) (by decide +kernel)⟩
def lw_privs_4 : List (MethodName × Nat) := [(⟨"ZoneCapacityModel", "priceOf", "(I)I"⟩, 23), (⟨"ZoneCapacityModel", "leastPrice", "(II)I"⟩, 23), (⟨"ZoneCapacityModel", "takesOwn", "(II)I"⟩, 23), (⟨"ZoneCapacityModel", "takenOf", "(I)I"⟩, 23), (⟨"ZoneCapacityModel", "surplusNow", "()J"⟩, 23), (⟨"ZoneCapacityModel", "paidTo", "(I)J"⟩, 23), (⟨"ZoneCapacityModel", "gainOf", "(III)J"⟩, 23), (⟨"ZoneCapacityModel", "offersAll", "(IZ)V"⟩, 23), (⟨"ZoneCapacityModel", "four", "(I)V"⟩, 23), (⟨"ZoneCapacityModel", "here", "()I"⟩, 23), (⟨"ZoneCapacityModel", "readStatement", "()Z"⟩, 23), (⟨"ZoneCapacityModel", "isWord", "()Z"⟩, 23), (⟨"ZoneCapacityModel", "fails", "(II)Z"⟩, 23), (⟨"ZoneCapacityModel", "readWord", "()J"⟩, 23), (⟨"ZoneCapacityModel", "readZone", "(I)Z"⟩, 23), (⟨"ZoneCapacityModel", "number", "(III)Z"⟩, 23)]
theorem lw_r4 : ∀ q ∈ lw_privs_4, lw_okq q := List.forall_mem_cons.mpr ⟨lw_p48, List.forall_mem_cons.mpr ⟨lw_p49, List.forall_mem_cons.mpr ⟨lw_p50, List.forall_mem_cons.mpr ⟨lw_p51, List.forall_mem_cons.mpr ⟨lw_p52, List.forall_mem_cons.mpr ⟨lw_p53, List.forall_mem_cons.mpr ⟨lw_p54, List.forall_mem_cons.mpr ⟨lw_p55, List.forall_mem_cons.mpr ⟨lw_p56, List.forall_mem_cons.mpr ⟨lw_p57, List.forall_mem_cons.mpr ⟨lw_p58, List.forall_mem_cons.mpr ⟨lw_p59, List.forall_mem_cons.mpr ⟨lw_p60, List.forall_mem_cons.mpr ⟨lw_p61, List.forall_mem_cons.mpr ⟨lw_p62, List.forall_mem_cons.mpr ⟨lw_p63, fun _ h => absurd h List.not_mem_nil⟩⟩⟩⟩⟩⟩⟩⟩⟩⟩⟩⟩⟩⟩⟩⟩
theorem lw_p64 : lw_okq (⟨"ZoneCapacityModel", "isDigit", "()Z"⟩, 23) := ⟨⟨by decide +kernel, by decide +kernel⟩, List.mem_of_getElem? (i := 863) (by decide +kernel), List.mem_of_getElem? (i := 1248) (by decide +kernel), List.mem_of_getElem? (i := 1249) (by decide +kernel)⟩
theorem lw_p65 : lw_okq (⟨"ZoneCapacityModel", "ends", "()Z"⟩, 23) := ⟨⟨by decide +kernel, by decide +kernel⟩, List.mem_of_getElem? (i := 863) (by decide +kernel), List.mem_of_getElem? (i := 1252) (by decide +kernel), List.mem_of_getElem? (i := 1253) (by decide +kernel)⟩
theorem lw_p66 : lw_okq (⟨"ZoneCapacityModel", "readCurve", "()Z"⟩, 23) := ⟨⟨by decide +kernel, by decide +kernel⟩, List.mem_of_getElem? (i := 863) (by decide +kernel), List.mem_of_getElem? (i := 1258) (by decide +kernel), List.mem_of_getElem? (i := 1259) (by decide +kernel)⟩
theorem lw_p67 : lw_okq (⟨"ZoneCapacityModel", "readResource", "(I)Z"⟩, 23) := ⟨⟨by decide +kernel, by decide +kernel⟩, List.mem_of_getElem? (i := 863) (by decide +kernel), List.mem_of_getElem? (i := 1263) (by decide +kernel), List.mem_of_getElem? (i := 1264) (by decide +kernel)⟩
theorem lw_p68 : lw_okq (⟨"ZoneCapacityModel", "readOffer", "(I)Z"⟩, 23) := ⟨⟨by decide +kernel, by decide +kernel⟩, List.mem_of_getElem? (i := 863) (by decide +kernel), List.mem_of_getElem? (i := 1270) (by decide +kernel), List.mem_of_getElem? (i := 1271) (by decide +kernel)⟩
theorem lw_p69 : lw_okq (⟨"ZoneCapacityModel", "readSet", "(III)Z"⟩, 23) := ⟨⟨by decide +kernel, by decide +kernel⟩, List.mem_of_getElem? (i := 863) (by decide +kernel), List.mem_of_getElem? (i := 1275) (by decide +kernel), List.mem_of_getElem? (i := 1276) (by decide +kernel)⟩
def lw_privs_5 : List (MethodName × Nat) := [(⟨"ZoneCapacityModel", "isDigit", "()Z"⟩, 23), (⟨"ZoneCapacityModel", "ends", "()Z"⟩, 23), (⟨"ZoneCapacityModel", "readCurve", "()Z"⟩, 23), (⟨"ZoneCapacityModel", "readResource", "(I)Z"⟩, 23), (⟨"ZoneCapacityModel", "readOffer", "(I)Z"⟩, 23), (⟨"ZoneCapacityModel", "readSet", "(III)Z"⟩, 23)]
theorem lw_r5 : ∀ q ∈ lw_privs_5, lw_okq q := List.forall_mem_cons.mpr ⟨lw_p64, List.forall_mem_cons.mpr ⟨lw_p65, List.forall_mem_cons.mpr ⟨lw_p66, List.forall_mem_cons.mpr ⟨lw_p67, List.forall_mem_cons.mpr ⟨lw_p68, List.forall_mem_cons.mpr ⟨lw_p69, fun _ h => absurd h List.not_mem_nil⟩⟩⟩⟩⟩⟩
def lw_privs : List (MethodName × Nat) := lw_privs_1 ++ (lw_privs_2 ++ (lw_privs_3 ++ (lw_privs_4 ++ (lw_privs_5))))
def lw_tbl : List Cond := k2_sels lw_privs ++ tables_1
theorem lw_privs_ok : ∀ q ∈ lw_privs, lw_okq q := by
  show ∀ q ∈ lw_privs_1 ++ (lw_privs_2 ++ (lw_privs_3 ++ (lw_privs_4 ++ (lw_privs_5)))), lw_okq q
  exact List.forall_mem_append.mpr ⟨lw_r1, List.forall_mem_append.mpr ⟨lw_r2, List.forall_mem_append.mpr ⟨lw_r3, List.forall_mem_append.mpr ⟨lw_r4, lw_r5⟩⟩⟩⟩
end
section
def RX0 : String := "ZoneCapacity$Auction"
def TX0 : u_T := fun k => match k with
  | 0 => ("ZoneCapacity$Auction", "market", "LZoneCapacity$Market;", true)
  | 1 => ("ZoneCapacity$Auction", "prices", "[I", true)
  | 2 => ("ZoneCapacity$Auction", "nets", "[I", true)
  | 3 => ("ZoneCapacity$Auction", "servedUnits", "[I", true)
  | 4 => ("ZoneCapacity$Auction", "takenUnits", "[I", true)
  | 5 => ("ZoneCapacity$Auction", "units", "[I", true)
  | 6 => ("ZoneCapacity$Auction", "its", "[I", true)
  | 7 => ("ZoneCapacity$Auction", "levels", "[I", true)
  | 8 => ("ZoneCapacity$Auction", "lows", "[I", true)
  | 9 => ("ZoneCapacity$Auction", "highs", "[I", true)
  | 10 => ("ZoneCapacity$Auction", "filledAt", "I", false)
  | _ => ("ZoneCapacity$Auction", "top", "I", false)
def tyX0 : Nat → FieldType := fun k => match k with
  | 0 => .object "ZoneCapacity$Market"
  | 1 => .array .int
  | 2 => .array .int
  | 3 => .array .int
  | 4 => .array .int
  | 5 => .array .int
  | 6 => .array .int
  | 7 => .array .int
  | 8 => .array .int
  | 9 => .array .int
  | 10 => .int
  | _ => .int
theorem nmX0 : ∀ a, a < 12 → ∀ b, b < 12 → a ≠ b → (TX0 a).2.1 ≠ (TX0 b).2.1 := by decide +kernel
theorem tyX0_ok : ∀ k, k < 12 → parseFieldDescriptor (TX0 k).2.2.1 = some (tyX0 k) := by decide +kernel
abbrev cX0_init : ByteArray := prog_2_method_1_code
def yX0_init : MethodName := ⟨RX0, "<init>", "()V"⟩
abbrev cX0_clear : ByteArray := prog_2_method_2_code
def yX0_clear : MethodName := ⟨RX0, "clear", "()V"⟩
abbrev cX0_levelOf : ByteArray := prog_2_method_3_code
def yX0_levelOf : MethodName := ⟨RX0, "levelOf", "(II)I"⟩
abbrev cX0_readLines : ByteArray := prog_2_method_4_code
def yX0_readLines : MethodName := ⟨RX0, "readLines", "()V"⟩
abbrev cX0_readTop : ByteArray := prog_2_method_5_code
def yX0_readTop : MethodName := ⟨RX0, "readTop", "()V"⟩
abbrev cX0_fillLevels : ByteArray := prog_2_method_6_code
def yX0_fillLevels : MethodName := ⟨RX0, "fillLevels", "(II[I)V"⟩
abbrev cX0_unitsBelow : ByteArray := prog_2_method_7_code
def yX0_unitsBelow : MethodName := ⟨RX0, "unitsBelow", "(II)I"⟩
abbrev cX0_leastPrice : ByteArray := prog_2_method_8_code
def yX0_leastPrice : MethodName := ⟨RX0, "leastPrice", "(II)I"⟩
abbrev cX0_part : ByteArray := prog_2_method_9_code
def yX0_part : MethodName := ⟨RX0, "part", "(I)V"⟩
abbrev cX0_partToLines : ByteArray := prog_2_method_10_code
def yX0_partToLines : MethodName := ⟨RX0, "partToLines", "(III)I"⟩
abbrev cX0_partToInner : ByteArray := prog_2_method_11_code
def yX0_partToInner : MethodName := ⟨RX0, "partToInner", "(III)I"⟩
abbrev cX0_takenOf : ByteArray := prog_2_method_12_code
def yX0_takenOf : MethodName := ⟨RX0, "takenOf", "(I)I"⟩
abbrev cX0_boundOf : ByteArray := prog_2_method_13_code
def yX0_boundOf : MethodName := ⟨RX0, "boundOf", "(I)I"⟩
abbrev cX0_surplusOfAll : ByteArray := prog_2_method_14_code
def yX0_surplusOfAll : MethodName := ⟨RX0, "surplusOfAll", "()J"⟩
abbrev cX0_rentOf : ByteArray := prog_2_method_15_code
def yX0_rentOf : MethodName := ⟨RX0, "rentOf", "(I)J"⟩
abbrev cX0_paidTo : ByteArray := prog_2_method_16_code
def yX0_paidTo : MethodName := ⟨RX0, "paidTo", "(I)J"⟩
abbrev cX0_paidToOwner : ByteArray := prog_2_method_17_code
def yX0_paidToOwner : MethodName := ⟨RX0, "paidToOwner", "(I)J"⟩
def RX1 : String := "ZoneCapacity$Market"
def TX1 : u_T := fun k => match k with
  | 0 => ("ZoneCapacity$Market", "zones", "LZoneCapacity$Zones;", true)
  | _ => ("ZoneCapacity$Market", "offers", "LZoneCapacity$Offers;", true)
def tyX1 : Nat → FieldType := fun k => match k with
  | 0 => .object "ZoneCapacity$Zones"
  | _ => .object "ZoneCapacity$Offers"
theorem nmX1 : ∀ a, a < 2 → ∀ b, b < 2 → a ≠ b → (TX1 a).2.1 ≠ (TX1 b).2.1 := by decide +kernel
theorem tyX1_ok : ∀ k, k < 2 → parseFieldDescriptor (TX1 k).2.2.1 = some (tyX1 k) := by decide +kernel
abbrev cX1_init : ByteArray := prog_3_method_1_code
def yX1_init : MethodName := ⟨RX1, "<init>", "()V"⟩
abbrev cX1_copyFrom : ByteArray := prog_3_method_2_code
def yX1_copyFrom : MethodName := ⟨RX1, "copyFrom", "(LZoneCapacity$Market;)V"⟩
def RX2 : String := "ZoneCapacity$Offers"
def TX2 : u_T := fun k => match k with
  | 0 => ("ZoneCapacity$Offers", "many", "I", false)
  | 1 => ("ZoneCapacity$Offers", "ceiling", "I", false)
  | 2 => ("ZoneCapacity$Offers", "floors", "[I", true)
  | 3 => ("ZoneCapacity$Offers", "zones", "[I", true)
  | 4 => ("ZoneCapacity$Offers", "sizes", "[I", true)
  | 5 => ("ZoneCapacity$Offers", "kinds", "[I", true)
  | 6 => ("ZoneCapacity$Offers", "owners", "[I", true)
  | 7 => ("ZoneCapacity$Offers", "must", "[I", true)
  | 8 => ("ZoneCapacity$Offers", "free", "[I", true)
  | 9 => ("ZoneCapacity$Offers", "steps", "[I", true)
  | 10 => ("ZoneCapacity$Offers", "stepUnits", "[I", true)
  | _ => ("ZoneCapacity$Offers", "stepPrices", "[I", true)
def tyX2 : Nat → FieldType := fun k => match k with
  | 0 => .int
  | 1 => .int
  | 2 => .array .int
  | 3 => .array .int
  | 4 => .array .int
  | 5 => .array .int
  | 6 => .array .int
  | 7 => .array .int
  | 8 => .array .int
  | 9 => .array .int
  | 10 => .array .int
  | _ => .array .int
theorem nmX2 : ∀ a, a < 12 → ∀ b, b < 12 → a ≠ b → (TX2 a).2.1 ≠ (TX2 b).2.1 := by decide +kernel
theorem tyX2_ok : ∀ k, k < 12 → parseFieldDescriptor (TX2 k).2.2.1 = some (tyX2 k) := by decide +kernel
abbrev cX2_init : ByteArray := prog_4_method_1_code
def yX2_init : MethodName := ⟨RX2, "<init>", "()V"⟩
abbrev cX2_copyFrom : ByteArray := prog_4_method_2_code
def yX2_copyFrom : MethodName := ⟨RX2, "copyFrom", "(LZoneCapacity$Offers;)V"⟩
abbrev cX2_has : ByteArray := prog_4_method_3_code
def yX2_has : MethodName := ⟨RX2, "has", "(I)Z"⟩
abbrev cX2_add : ByteArray := prog_4_method_4_code
def yX2_add : MethodName := ⟨RX2, "add", "(IIIIZZ)I"⟩
abbrev cX2_addStep : ByteArray := prog_4_method_5_code
def yX2_addStep : MethodName := ⟨RX2, "addStep", "(III)I"⟩
abbrev cX2_dropSteps : ByteArray := prog_4_method_6_code
def yX2_dropSteps : MethodName := ⟨RX2, "dropSteps", "(I)I"⟩
abbrev cX2_lastPrice : ByteArray := prog_4_method_7_code
def yX2_lastPrice : MethodName := ⟨RX2, "lastPrice", "(I)I"⟩
abbrev cX2_rest : ByteArray := prog_4_method_8_code
def yX2_rest : MethodName := ⟨RX2, "rest", "(I)I"⟩
abbrev cX2_changeCeiling : ByteArray := prog_4_method_9_code
def yX2_changeCeiling : MethodName := ⟨RX2, "changeCeiling", "(I)Z"⟩
abbrev cX2_dropFloors : ByteArray := prog_4_method_10_code
def yX2_dropFloors : MethodName := ⟨RX2, "dropFloors", "()V"⟩
abbrev cX2_silence : ByteArray := prog_4_method_11_code
def yX2_silence : MethodName := ⟨RX2, "silence", "(I)V"⟩
abbrev cX2_silenceOwner : ByteArray := prog_4_method_12_code
def yX2_silenceOwner : MethodName := ⟨RX2, "silenceOwner", "(I)V"⟩
abbrev cX2_bitsIn : ByteArray := prog_4_method_13_code
def yX2_bitsIn : MethodName := ⟨RX2, "bitsIn", "(I)I"⟩
abbrev cX2_hasLine : ByteArray := prog_4_method_14_code
def yX2_hasLine : MethodName := ⟨RX2, "hasLine", "(II)Z"⟩
abbrev cX2_unitsOf : ByteArray := prog_4_method_15_code
def yX2_unitsOf : MethodName := ⟨RX2, "unitsOf", "(II)I"⟩
abbrev cX2_itsOf : ByteArray := prog_4_method_16_code
def yX2_itsOf : MethodName := ⟨RX2, "itsOf", "(II)I"⟩
def RX3 : String := "ZoneCapacity$Tape"
def TX3 : u_T := fun k => match k with
  | 0 => ("ZoneCapacity$Tape", "bytes", "[I", true)
  | _ => ("ZoneCapacity$Tape", "length", "I", false)
def tyX3 : Nat → FieldType := fun k => match k with
  | 0 => .array .int
  | _ => .int
theorem nmX3 : ∀ a, a < 2 → ∀ b, b < 2 → a ≠ b → (TX3 a).2.1 ≠ (TX3 b).2.1 := by decide +kernel
theorem tyX3_ok : ∀ k, k < 2 → parseFieldDescriptor (TX3 k).2.2.1 = some (tyX3 k) := by decide +kernel
abbrev cX3_init : ByteArray := prog_5_method_1_code
def yX3_init : MethodName := ⟨RX3, "<init>", "()V"⟩
abbrev cX3_append : ByteArray := prog_5_method_2_code
def yX3_append : MethodName := ⟨RX3, "append", "(I)V"⟩
def RX4 : String := "ZoneCapacity$Teller"
def TX4 : u_T := fun k => match k with
  | 0 => ("ZoneCapacity$Teller", "tape", "LZoneCapacity$Tape;", true)
  | 1 => ("ZoneCapacity$Teller", "draft", "LZoneCapacity$Market;", true)
  | 2 => ("ZoneCapacity$Teller", "fault", "I", false)
  | 3 => ("ZoneCapacity$Teller", "token", "I", false)
  | 4 => ("ZoneCapacity$Teller", "place", "I", false)
  | 5 => ("ZoneCapacity$Teller", "number", "I", false)
  | 6 => ("ZoneCapacity$Teller", "next", "I", false)
  | _ => ("ZoneCapacity$Teller", "got", "I", false)
def tyX4 : Nat → FieldType := fun k => match k with
  | 0 => .object "ZoneCapacity$Tape"
  | 1 => .object "ZoneCapacity$Market"
  | 2 => .int
  | 3 => .int
  | 4 => .int
  | 5 => .int
  | 6 => .int
  | _ => .int
theorem nmX4 : ∀ a, a < 8 → ∀ b, b < 8 → a ≠ b → (TX4 a).2.1 ≠ (TX4 b).2.1 := by decide +kernel
theorem tyX4_ok : ∀ k, k < 8 → parseFieldDescriptor (TX4 k).2.2.1 = some (tyX4 k) := by decide +kernel
abbrev cX4_init : ByteArray := prog_6_method_1_code
def yX4_init : MethodName := ⟨RX4, "<init>", "()V"⟩
abbrev cX4_tellAll : ByteArray := prog_6_method_2_code
def yX4_tellAll : MethodName := ⟨RX4, "tellAll", "()I"⟩
abbrev cX4_tellStatement : ByteArray := prog_6_method_3_code
def yX4_tellStatement : MethodName := ⟨RX4, "tellStatement", "()Z"⟩
abbrev cX4_tellZone : ByteArray := prog_6_method_4_code
def yX4_tellZone : MethodName := ⟨RX4, "tellZone", "()Z"⟩
abbrev cX4_tellCurve : ByteArray := prog_6_method_5_code
def yX4_tellCurve : MethodName := ⟨RX4, "tellCurve", "()Z"⟩
abbrev cX4_tellResource : ByteArray := prog_6_method_6_code
def yX4_tellResource : MethodName := ⟨RX4, "tellResource", "()Z"⟩
abbrev cX4_tellOffer : ByteArray := prog_6_method_7_code
def yX4_tellOffer : MethodName := ⟨RX4, "tellOffer", "()Z"⟩
abbrev cX4_tellFloor : ByteArray := prog_6_method_8_code
def yX4_tellFloor : MethodName := ⟨RX4, "tellFloor", "()Z"⟩
abbrev cX4_tellCeiling : ByteArray := prog_6_method_9_code
def yX4_tellCeiling : MethodName := ⟨RX4, "tellCeiling", "()Z"⟩
abbrev cX4_tellLimits : ByteArray := prog_6_method_10_code
def yX4_tellLimits : MethodName := ⟨RX4, "tellLimits", "()Z"⟩
abbrev cX4_takeNumber : ByteArray := prog_6_method_11_code
def yX4_takeNumber : MethodName := ⟨RX4, "takeNumber", "(II)Z"⟩
abbrev cX4_takeWord : ByteArray := prog_6_method_12_code
def yX4_takeWord : MethodName := ⟨RX4, "takeWord", "(Ljava/lang/String;)Z"⟩
abbrev cX4_takeEnd : ByteArray := prog_6_method_13_code
def yX4_takeEnd : MethodName := ⟨RX4, "takeEnd", "()Z"⟩
abbrev cX4_blame : ByteArray := prog_6_method_14_code
def yX4_blame : MethodName := ⟨RX4, "blame", "(II)Z"⟩
abbrev cX4_isWord : ByteArray := prog_6_method_15_code
def yX4_isWord : MethodName := ⟨RX4, "isWord", "(Ljava/lang/String;)Z"⟩
abbrev cX4_advance : ByteArray := prog_6_method_16_code
def yX4_advance : MethodName := ⟨RX4, "advance", "()V"⟩
abbrev cX4_isBlank : ByteArray := prog_6_method_17_code
def yX4_isBlank : MethodName := ⟨RX4, "isBlank", "(I)Z"⟩
abbrev cX4_isLetter : ByteArray := prog_6_method_18_code
def yX4_isLetter : MethodName := ⟨RX4, "isLetter", "(I)Z"⟩
abbrev cX4_isDigit : ByteArray := prog_6_method_19_code
def yX4_isDigit : MethodName := ⟨RX4, "isDigit", "(I)Z"⟩
def RX5 : String := "ZoneCapacity$Zones"
def TX5 : u_T := fun k => match k with
  | 0 => ("ZoneCapacity$Zones", "many", "I", false)
  | 1 => ("ZoneCapacity$Zones", "outer", "[I", true)
  | 2 => ("ZoneCapacity$Zones", "in", "[I", true)
  | 3 => ("ZoneCapacity$Zones", "out", "[I", true)
  | 4 => ("ZoneCapacity$Zones", "points", "[I", true)
  | 5 => ("ZoneCapacity$Zones", "pointUnits", "[I", true)
  | _ => ("ZoneCapacity$Zones", "pointPrices", "[I", true)
def tyX5 : Nat → FieldType := fun k => match k with
  | 0 => .int
  | 1 => .array .int
  | 2 => .array .int
  | 3 => .array .int
  | 4 => .array .int
  | 5 => .array .int
  | _ => .array .int
theorem nmX5 : ∀ a, a < 7 → ∀ b, b < 7 → a ≠ b → (TX5 a).2.1 ≠ (TX5 b).2.1 := by decide +kernel
theorem tyX5_ok : ∀ k, k < 7 → parseFieldDescriptor (TX5 k).2.2.1 = some (tyX5 k) := by decide +kernel
abbrev cX5_init : ByteArray := prog_7_method_1_code
def yX5_init : MethodName := ⟨RX5, "<init>", "()V"⟩
abbrev cX5_copyFrom : ByteArray := prog_7_method_2_code
def yX5_copyFrom : MethodName := ⟨RX5, "copyFrom", "(LZoneCapacity$Zones;)V"⟩
abbrev cX5_has : ByteArray := prog_7_method_3_code
def yX5_has : MethodName := ⟨RX5, "has", "(I)Z"⟩
abbrev cX5_hasInner : ByteArray := prog_7_method_4_code
def yX5_hasInner : MethodName := ⟨RX5, "hasInner", "(I)Z"⟩
abbrev cX5_add : ByteArray := prog_7_method_5_code
def yX5_add : MethodName := ⟨RX5, "add", "(III)I"⟩
abbrev cX5_addPoint : ByteArray := prog_7_method_6_code
def yX5_addPoint : MethodName := ⟨RX5, "addPoint", "(III)I"⟩
abbrev cX5_dropPoints : ByteArray := prog_7_method_7_code
def yX5_dropPoints : MethodName := ⟨RX5, "dropPoints", "(I)I"⟩
abbrev cX5_wanted : ByteArray := prog_7_method_8_code
def yX5_wanted : MethodName := ⟨RX5, "wanted", "(I)I"⟩
abbrev cX5_firstPrice : ByteArray := prog_7_method_9_code
def yX5_firstPrice : MethodName := ⟨RX5, "firstPrice", "(I)I"⟩
abbrev cX5_lastPrice : ByteArray := prog_7_method_10_code
def yX5_lastPrice : MethodName := ⟨RX5, "lastPrice", "(I)I"⟩
abbrev cX5_worthOf : ByteArray := prog_7_method_11_code
def yX5_worthOf : MethodName := ⟨RX5, "worthOf", "(II)I"⟩
abbrev cX5_fallen : ByteArray := prog_7_method_12_code
def yX5_fallen : MethodName := ⟨RX5, "fallen", "(III)I"⟩
abbrev cX5_worthOfFirst : ByteArray := prog_7_method_13_code
def yX5_worthOfFirst : MethodName := ⟨RX5, "worthOfFirst", "(II)J"⟩
abbrev cX5_wantedFrom : ByteArray := prog_7_method_14_code
def yX5_wantedFrom : MethodName := ⟨RX5, "wantedFrom", "(II)I"⟩
abbrev cX5_wantedBetween : ByteArray := prog_7_method_15_code
def yX5_wantedBetween : MethodName := ⟨RX5, "wantedBetween", "(IIII)I"⟩
abbrev cX5_cut : ByteArray := prog_7_method_16_code
def yX5_cut : MethodName := ⟨RX5, "cut", "(II)I"⟩
def RX6 : String := "ZoneCapacity"
def TX6 : u_T := fun k => match k with
  | 0 => ("ZoneCapacity", "now", "LZoneCapacity$Auction;", true)
  | 1 => ("ZoneCapacity", "trial", "LZoneCapacity$Auction;", true)
  | 2 => ("ZoneCapacity", "teller", "LZoneCapacity$Teller;", true)
  | 3 => ("ZoneCapacity", "firstKept", "LZoneCapacity$Market;", true)
  | 4 => ("ZoneCapacity", "secondKept", "LZoneCapacity$Market;", true)
  | 5 => ("ZoneCapacity", "firstIsKept", "Z", false)
  | _ => ("ZoneCapacity", "secondIsKept", "Z", false)
def tyX6 : Nat → FieldType := fun k => match k with
  | 0 => .object "ZoneCapacity$Auction"
  | 1 => .object "ZoneCapacity$Auction"
  | 2 => .object "ZoneCapacity$Teller"
  | 3 => .object "ZoneCapacity$Market"
  | 4 => .object "ZoneCapacity$Market"
  | 5 => .boolean
  | _ => .boolean
theorem nmX6 : ∀ a, a < 7 → ∀ b, b < 7 → a ≠ b → (TX6 a).2.1 ≠ (TX6 b).2.1 := by decide +kernel
theorem tyX6_ok : ∀ k, k < 7 → parseFieldDescriptor (TX6 k).2.2.1 = some (tyX6 k) := by decide +kernel
abbrev cX6_init : ByteArray := prog_1_method_1_code
def yX6_init : MethodName := ⟨RX6, "<init>", "()V"⟩
abbrev cX6_feed : ByteArray := prog_1_method_2_code
def yX6_feed : MethodName := ⟨RX6, "feed", "(IIIII)I"⟩
abbrev cX6_end : ByteArray := prog_1_method_3_code
def yX6_end : MethodName := ⟨RX6, "end", "(I)Z"⟩
abbrev cX6_tell : ByteArray := prog_1_method_4_code
def yX6_tell : MethodName := ⟨RX6, "tell", "()I"⟩
abbrev cX6_fault : ByteArray := prog_1_method_5_code
def yX6_fault : MethodName := ⟨RX6, "fault", "()I"⟩
abbrev cX6_zone : ByteArray := prog_1_method_6_code
def yX6_zone : MethodName := ⟨RX6, "zone", "(III)I"⟩
abbrev cX6_point : ByteArray := prog_1_method_7_code
def yX6_point : MethodName := ⟨RX6, "point", "(III)I"⟩
abbrev cX6_resource : ByteArray := prog_1_method_8_code
def yX6_resource : MethodName := ⟨RX6, "resource", "(IIIIZ)I"⟩
abbrev cX6_step : ByteArray := prog_1_method_9_code
def yX6_step : MethodName := ⟨RX6, "step", "(III)I"⟩
abbrev cX6_drop : ByteArray := prog_1_method_10_code
def yX6_drop : MethodName := ⟨RX6, "drop", "(IZ)I"⟩
abbrev cX6_set : ByteArray := prog_1_method_11_code
def yX6_set : MethodName := ⟨RX6, "set", "(III)Z"⟩
abbrev cX6_keep : ByteArray := prog_1_method_12_code
def yX6_keep : MethodName := ⟨RX6, "keep", "(I)Z"⟩
abbrev cX6_back : ByteArray := prog_1_method_13_code
def yX6_back : MethodName := ⟨RX6, "back", "(I)Z"⟩
abbrev cX6_count : ByteArray := prog_1_method_14_code
def yX6_count : MethodName := ⟨RX6, "count", "(I)I"⟩
abbrev cX6_zoneOf : ByteArray := prog_1_method_15_code
def yX6_zoneOf : MethodName := ⟨RX6, "zoneOf", "(II)I"⟩
abbrev cX6_resourceOf : ByteArray := prog_1_method_16_code
def yX6_resourceOf : MethodName := ⟨RX6, "resourceOf", "(II)I"⟩
abbrev cX6_line : ByteArray := prog_1_method_17_code
def yX6_line : MethodName := ⟨RX6, "line", "(IIZ)I"⟩
abbrev cX6_worth : ByteArray := prog_1_method_18_code
def yX6_worth : MethodName := ⟨RX6, "worth", "(II)I"⟩
abbrev cX6_wants : ByteArray := prog_1_method_19_code
def yX6_wants : MethodName := ⟨RX6, "wants", "(II)I"⟩
abbrev cX6_level : ByteArray := prog_1_method_20_code
def yX6_level : MethodName := ⟨RX6, "level", "(IIZ)I"⟩
abbrev cX6_price : ByteArray := prog_1_method_21_code
def yX6_price : MethodName := ⟨RX6, "price", "(I)I"⟩
abbrev cX6_net : ByteArray := prog_1_method_22_code
def yX6_net : MethodName := ⟨RX6, "net", "(I)I"⟩
abbrev cX6_served : ByteArray := prog_1_method_23_code
def yX6_served : MethodName := ⟨RX6, "served", "(I)I"⟩
abbrev cX6_taken : ByteArray := prog_1_method_24_code
def yX6_taken : MethodName := ⟨RX6, "taken", "(II)I"⟩
abbrev cX6_binds : ByteArray := prog_1_method_25_code
def yX6_binds : MethodName := ⟨RX6, "binds", "(I)I"⟩
abbrev cX6_surplus : ByteArray := prog_1_method_26_code
def yX6_surplus : MethodName := ⟨RX6, "surplus", "()J"⟩
abbrev cX6_rent : ByteArray := prog_1_method_27_code
def yX6_rent : MethodName := ⟨RX6, "rent", "(I)J"⟩
abbrev cX6_paid : ByteArray := prog_1_method_28_code
def yX6_paid : MethodName := ⟨RX6, "paid", "(I)J"⟩
abbrev cX6_charged : ByteArray := prog_1_method_29_code
def yX6_charged : MethodName := ⟨RX6, "charged", "(I)J"⟩
abbrev cX6_without : ByteArray := prog_1_method_30_code
def yX6_without : MethodName := ⟨RX6, "without", "(II)I"⟩
abbrev cX6_pivotal : ByteArray := prog_1_method_31_code
def yX6_pivotal : MethodName := ⟨RX6, "pivotal", "(II)I"⟩
abbrev cX6_wider : ByteArray := prog_1_method_32_code
def yX6_wider : MethodName := ⟨RX6, "wider", "(IIZ)J"⟩
abbrev cX6_needs : ByteArray := prog_1_method_33_code
def yX6_needs : MethodName := ⟨RX6, "needs", "(I)I"⟩
abbrev cX6_freely : ByteArray := prog_1_method_34_code
def yX6_freely : MethodName := ⟨RX6, "freely", "(I)I"⟩
abbrev cX6_gain : ByteArray := prog_1_method_35_code
def yX6_gain : MethodName := ⟨RX6, "gain", "(III)J"⟩
abbrev cX6_best : ByteArray := prog_1_method_36_code
def yX6_best : MethodName := ⟨RX6, "best", "(II)I"⟩
abbrev cX6_isNarrow : ByteArray := prog_1_method_37_code
def yX6_isNarrow : MethodName := ⟨RX6, "isNarrow", "(II)Z"⟩
abbrev cX6_gainAt : ByteArray := prog_1_method_38_code
def yX6_gainAt : MethodName := ⟨RX6, "gainAt", "(III)J"⟩
abbrev cX6_at : ByteArray := prog_1_method_39_code
def yX6_at : MethodName := ⟨RX6, "at", "([II)I"⟩
abbrev cX6_put : ByteArray := prog_1_method_40_code
def yX6_put : MethodName := ⟨RX6, "put", "([III)V"⟩
abbrev cX6_change : ByteArray := prog_1_method_41_code
def yX6_change : MethodName := ⟨RX6, "change", "([III)Z"⟩
abbrev cX6_copyRow : ByteArray := prog_1_method_42_code
def yX6_copyRow : MethodName := ⟨RX6, "copyRow", "([I[I)V"⟩
abbrev cX6_within : ByteArray := prog_1_method_43_code
def yX6_within : MethodName := ⟨RX6, "within", "(III)Z"⟩
def RX7 : String := "ZoneCapacityModel"
def TX7 : u_T := fun k => match k with
  | 0 => ("ZoneCapacityModel", "raised", "I", false)
  | 1 => ("ZoneCapacityModel", "w", "[I", true)
  | 2 => ("ZoneCapacityModel", "kept", "[I", true)
  | 3 => ("ZoneCapacityModel", "isKept", "[Z", true)
  | 4 => ("ZoneCapacityModel", "draft", "[I", true)
  | 5 => ("ZoneCapacityModel", "gone", "I", false)
  | 6 => ("ZoneCapacityModel", "noFloors", "Z", false)
  | 7 => ("ZoneCapacityModel", "low", "[I", true)
  | 8 => ("ZoneCapacityModel", "high", "[I", true)
  | 9 => ("ZoneCapacityModel", "prices", "[I", true)
  | 10 => ("ZoneCapacityModel", "nets", "[I", true)
  | 11 => ("ZoneCapacityModel", "serves", "[I", true)
  | 12 => ("ZoneCapacityModel", "takes", "[I", true)
  | 13 => ("ZoneCapacityModel", "hadSteps", "[I", true)
  | 14 => ("ZoneCapacityModel", "tape", "[I", true)
  | 15 => ("ZoneCapacityModel", "taped", "I", false)
  | 16 => ("ZoneCapacityModel", "fault", "I", false)
  | 17 => ("ZoneCapacityModel", "at", "I", false)
  | 18 => ("ZoneCapacityModel", "wrong", "I", false)
  | 19 => ("ZoneCapacityModel", "value", "I", false)
  | 20 => ("ZoneCapacityModel", "place", "I", false)
  | 21 => ("ZoneCapacityModel", "statements", "I", false)
  | _ => ("ZoneCapacityModel", "told", "[I", true)
def tyX7 : Nat → FieldType := fun k => match k with
  | 0 => .int
  | 1 => .array .int
  | 2 => .array .int
  | 3 => .array .boolean
  | 4 => .array .int
  | 5 => .int
  | 6 => .boolean
  | 7 => .array .int
  | 8 => .array .int
  | 9 => .array .int
  | 10 => .array .int
  | 11 => .array .int
  | 12 => .array .int
  | 13 => .array .int
  | 14 => .array .int
  | 15 => .int
  | 16 => .int
  | 17 => .int
  | 18 => .int
  | 19 => .int
  | 20 => .int
  | 21 => .int
  | _ => .array .int
theorem nmX7 : ∀ a, a < 23 → ∀ b, b < 23 → a ≠ b → (TX7 a).2.1 ≠ (TX7 b).2.1 := by decide +kernel
theorem tyX7_ok : ∀ k, k < 23 → parseFieldDescriptor (TX7 k).2.2.1 = some (tyX7 k) := by decide +kernel
abbrev cX7_init : ByteArray := prog_9_method_1_code
def yX7_init : MethodName := ⟨RX7, "<init>", "()V"⟩
abbrev cX7_thrown : ByteArray := prog_9_method_2_code
def yX7_thrown : MethodName := ⟨RX7, "thrown", "()I"⟩
abbrev cX7_in : ByteArray := prog_9_method_3_code
def yX7_in : MethodName := ⟨RX7, "in", "(III)Z"⟩
abbrev cX7_isZone : ByteArray := prog_9_method_4_code
def yX7_isZone : MethodName := ⟨RX7, "isZone", "(I)Z"⟩
abbrev cX7_isResource : ByteArray := prog_9_method_5_code
def yX7_isResource : MethodName := ⟨RX7, "isResource", "(I)Z"⟩
abbrev cX7_isPrice : ByteArray := prog_9_method_6_code
def yX7_isPrice : MethodName := ⟨RX7, "isPrice", "(I)Z"⟩
abbrev cX7_ofZone : ByteArray := prog_9_method_7_code
def yX7_ofZone : MethodName := ⟨RX7, "ofZone", "(II)I"⟩
abbrev cX7_ofResource : ByteArray := prog_9_method_8_code
def yX7_ofResource : MethodName := ⟨RX7, "ofResource", "(II)I"⟩
abbrev cX7_pointUnits : ByteArray := prog_9_method_9_code
def yX7_pointUnits : MethodName := ⟨RX7, "pointUnits", "(II)I"⟩
abbrev cX7_pointPrice : ByteArray := prog_9_method_10_code
def yX7_pointPrice : MethodName := ⟨RX7, "pointPrice", "(II)I"⟩
abbrev cX7_wanted : ByteArray := prog_9_method_11_code
def yX7_wanted : MethodName := ⟨RX7, "wanted", "(I)I"⟩
abbrev cX7_worthOf : ByteArray := prog_9_method_12_code
def yX7_worthOf : MethodName := ⟨RX7, "worthOf", "(II)I"⟩
abbrev cX7_wantedAt : ByteArray := prog_9_method_13_code
def yX7_wantedAt : MethodName := ⟨RX7, "wantedAt", "(II)I"⟩
abbrev cX7_lineUnits : ByteArray := prog_9_method_14_code
def yX7_lineUnits : MethodName := ⟨RX7, "lineUnits", "(II)I"⟩
abbrev cX7_lineIts : ByteArray := prog_9_method_15_code
def yX7_lineIts : MethodName := ⟨RX7, "lineIts", "(II)I"⟩
abbrev cX7_isLine : ByteArray := prog_9_method_16_code
def yX7_isLine : MethodName := ⟨RX7, "isLine", "(II)Z"⟩
abbrev cX7_offered : ByteArray := prog_9_method_17_code
def yX7_offered : MethodName := ⟨RX7, "offered", "(IIZ)I"⟩
abbrev cX7_cut : ByteArray := prog_9_method_18_code
def yX7_cut : MethodName := ⟨RX7, "cut", "(II)I"⟩
abbrev cX7_laysLevels : ByteArray := prog_9_method_19_code
def yX7_laysLevels : MethodName := ⟨RX7, "laysLevels", "(II)V"⟩
abbrev cX7_leastPrice : ByteArray := prog_9_method_20_code
def yX7_leastPrice : MethodName := ⟨RX7, "leastPrice", "(II)I"⟩
abbrev cX7_priceOf : ByteArray := prog_9_method_21_code
def yX7_priceOf : MethodName := ⟨RX7, "priceOf", "(I)I"⟩
abbrev cX7_takesOwn : ByteArray := prog_9_method_22_code
def yX7_takesOwn : MethodName := ⟨RX7, "takesOwn", "(II)I"⟩
abbrev cX7_clears : ByteArray := prog_9_method_23_code
def yX7_clears : MethodName := ⟨RX7, "clears", "()V"⟩
abbrev cX7_clearsAll : ByteArray := prog_9_method_24_code
def yX7_clearsAll : MethodName := ⟨RX7, "clearsAll", "()V"⟩
abbrev cX7_surplusNow : ByteArray := prog_9_method_25_code
def yX7_surplusNow : MethodName := ⟨RX7, "surplusNow", "()J"⟩
abbrev cX7_takenOf : ByteArray := prog_9_method_26_code
def yX7_takenOf : MethodName := ⟨RX7, "takenOf", "(I)I"⟩
abbrev cX7_zone : ByteArray := prog_9_method_27_code
def yX7_zone : MethodName := ⟨RX7, "zone", "(III)I"⟩
abbrev cX7_canPoint : ByteArray := prog_9_method_28_code
def yX7_canPoint : MethodName := ⟨RX7, "canPoint", "(III)Z"⟩
abbrev cX7_point : ByteArray := prog_9_method_29_code
def yX7_point : MethodName := ⟨RX7, "point", "(III)I"⟩
abbrev cX7_addPoint : ByteArray := prog_9_method_30_code
def yX7_addPoint : MethodName := ⟨RX7, "addPoint", "(III)V"⟩
abbrev cX7_addResource : ByteArray := prog_9_method_31_code
def yX7_addResource : MethodName := ⟨RX7, "addResource", "(IIIIII)I"⟩
abbrev cX7_resource : ByteArray := prog_9_method_32_code
def yX7_resource : MethodName := ⟨RX7, "resource", "(IIIIZ)I"⟩
abbrev cX7_stepped : ByteArray := prog_9_method_33_code
def yX7_stepped : MethodName := ⟨RX7, "stepped", "(I)I"⟩
abbrev cX7_addStep : ByteArray := prog_9_method_34_code
def yX7_addStep : MethodName := ⟨RX7, "addStep", "(III)V"⟩
abbrev cX7_step : ByteArray := prog_9_method_35_code
def yX7_step : MethodName := ⟨RX7, "step", "(III)I"⟩
abbrev cX7_drop : ByteArray := prog_9_method_36_code
def yX7_drop : MethodName := ⟨RX7, "drop", "(IZ)I"⟩
abbrev cX7_placeOf : ByteArray := prog_9_method_37_code
def yX7_placeOf : MethodName := ⟨RX7, "placeOf", "(III)I"⟩
abbrev cX7_set : ByteArray := prog_9_method_38_code
def yX7_set : MethodName := ⟨RX7, "set", "(III)Z"⟩
abbrev cX7_keep : ByteArray := prog_9_method_39_code
def yX7_keep : MethodName := ⟨RX7, "keep", "(I)Z"⟩
abbrev cX7_back : ByteArray := prog_9_method_40_code
def yX7_back : MethodName := ⟨RX7, "back", "(I)Z"⟩
abbrev cX7_count : ByteArray := prog_9_method_41_code
def yX7_count : MethodName := ⟨RX7, "count", "(I)I"⟩
abbrev cX7_zoneOf : ByteArray := prog_9_method_42_code
def yX7_zoneOf : MethodName := ⟨RX7, "zoneOf", "(II)I"⟩
abbrev cX7_resourceOf : ByteArray := prog_9_method_43_code
def yX7_resourceOf : MethodName := ⟨RX7, "resourceOf", "(II)I"⟩
abbrev cX7_line : ByteArray := prog_9_method_44_code
def yX7_line : MethodName := ⟨RX7, "line", "(IIZ)I"⟩
abbrev cX7_worth : ByteArray := prog_9_method_45_code
def yX7_worth : MethodName := ⟨RX7, "worth", "(II)I"⟩
abbrev cX7_wants : ByteArray := prog_9_method_46_code
def yX7_wants : MethodName := ⟨RX7, "wants", "(II)I"⟩
abbrev cX7_level : ByteArray := prog_9_method_47_code
def yX7_level : MethodName := ⟨RX7, "level", "(IIZ)I"⟩
abbrev cX7_price : ByteArray := prog_9_method_48_code
def yX7_price : MethodName := ⟨RX7, "price", "(I)I"⟩
abbrev cX7_net : ByteArray := prog_9_method_49_code
def yX7_net : MethodName := ⟨RX7, "net", "(I)I"⟩
abbrev cX7_served : ByteArray := prog_9_method_50_code
def yX7_served : MethodName := ⟨RX7, "served", "(I)I"⟩
abbrev cX7_taken : ByteArray := prog_9_method_51_code
def yX7_taken : MethodName := ⟨RX7, "taken", "(II)I"⟩
abbrev cX7_binds : ByteArray := prog_9_method_52_code
def yX7_binds : MethodName := ⟨RX7, "binds", "(I)I"⟩
abbrev cX7_surplus : ByteArray := prog_9_method_53_code
def yX7_surplus : MethodName := ⟨RX7, "surplus", "()J"⟩
abbrev cX7_rent : ByteArray := prog_9_method_54_code
def yX7_rent : MethodName := ⟨RX7, "rent", "(I)J"⟩
abbrev cX7_paidTo : ByteArray := prog_9_method_55_code
def yX7_paidTo : MethodName := ⟨RX7, "paidTo", "(I)J"⟩
abbrev cX7_paid : ByteArray := prog_9_method_56_code
def yX7_paid : MethodName := ⟨RX7, "paid", "(I)J"⟩
abbrev cX7_charged : ByteArray := prog_9_method_57_code
def yX7_charged : MethodName := ⟨RX7, "charged", "(I)J"⟩
abbrev cX7_without : ByteArray := prog_9_method_58_code
def yX7_without : MethodName := ⟨RX7, "without", "(II)I"⟩
abbrev cX7_pivotal : ByteArray := prog_9_method_59_code
def yX7_pivotal : MethodName := ⟨RX7, "pivotal", "(II)I"⟩
abbrev cX7_wider : ByteArray := prog_9_method_60_code
def yX7_wider : MethodName := ⟨RX7, "wider", "(IIZ)J"⟩
abbrev cX7_needs : ByteArray := prog_9_method_61_code
def yX7_needs : MethodName := ⟨RX7, "needs", "(I)I"⟩
abbrev cX7_freely : ByteArray := prog_9_method_62_code
def yX7_freely : MethodName := ⟨RX7, "freely", "(I)I"⟩
abbrev cX7_offersAll : ByteArray := prog_9_method_63_code
def yX7_offersAll : MethodName := ⟨RX7, "offersAll", "(IZ)V"⟩
abbrev cX7_gainOf : ByteArray := prog_9_method_64_code
def yX7_gainOf : MethodName := ⟨RX7, "gainOf", "(III)J"⟩
abbrev cX7_gain : ByteArray := prog_9_method_65_code
def yX7_gain : MethodName := ⟨RX7, "gain", "(III)J"⟩
abbrev cX7_best : ByteArray := prog_9_method_66_code
def yX7_best : MethodName := ⟨RX7, "best", "(II)I"⟩
abbrev cX7_four : ByteArray := prog_9_method_67_code
def yX7_four : MethodName := ⟨RX7, "four", "(I)V"⟩
abbrev cX7_feed : ByteArray := prog_9_method_68_code
def yX7_feed : MethodName := ⟨RX7, "feed", "(IIIII)I"⟩
abbrev cX7_end : ByteArray := prog_9_method_69_code
def yX7_end : MethodName := ⟨RX7, "end", "(I)Z"⟩
abbrev cX7_here : ByteArray := prog_9_method_70_code
def yX7_here : MethodName := ⟨RX7, "here", "()I"⟩
abbrev cX7_fails : ByteArray := prog_9_method_71_code
def yX7_fails : MethodName := ⟨RX7, "fails", "(II)Z"⟩
abbrev cX7_isDigit : ByteArray := prog_9_method_72_code
def yX7_isDigit : MethodName := ⟨RX7, "isDigit", "()Z"⟩
abbrev cX7_number : ByteArray := prog_9_method_73_code
def yX7_number : MethodName := ⟨RX7, "number", "(III)Z"⟩
abbrev cX7_ends : ByteArray := prog_9_method_74_code
def yX7_ends : MethodName := ⟨RX7, "ends", "()Z"⟩
abbrev cX7_isWord : ByteArray := prog_9_method_75_code
def yX7_isWord : MethodName := ⟨RX7, "isWord", "()Z"⟩
abbrev cX7_readWord : ByteArray := prog_9_method_76_code
def yX7_readWord : MethodName := ⟨RX7, "readWord", "()J"⟩
abbrev cX7_readZone : ByteArray := prog_9_method_77_code
def yX7_readZone : MethodName := ⟨RX7, "readZone", "(I)Z"⟩
abbrev cX7_readCurve : ByteArray := prog_9_method_78_code
def yX7_readCurve : MethodName := ⟨RX7, "readCurve", "()Z"⟩
abbrev cX7_readResource : ByteArray := prog_9_method_79_code
def yX7_readResource : MethodName := ⟨RX7, "readResource", "(I)Z"⟩
abbrev cX7_readOffer : ByteArray := prog_9_method_80_code
def yX7_readOffer : MethodName := ⟨RX7, "readOffer", "(I)Z"⟩
abbrev cX7_readSet : ByteArray := prog_9_method_81_code
def yX7_readSet : MethodName := ⟨RX7, "readSet", "(III)Z"⟩
abbrev cX7_readStatement : ByteArray := prog_9_method_82_code
def yX7_readStatement : MethodName := ⟨RX7, "readStatement", "()Z"⟩
abbrev cX7_tell : ByteArray := prog_9_method_83_code
def yX7_tell : MethodName := ⟨RX7, "tell", "()I"⟩
abbrev cX7_fault : ByteArray := prog_9_method_84_code
def yX7_fault : MethodName := ⟨RX7, "fault", "()I"⟩
def RL : String := "ZoneCapacityLaw"
abbrev cL_zoneOf : ByteArray := method_3_code
def yL_zoneOf : MethodName := ⟨RL, "zoneOf", "(LZoneCapacity;II[J)I"⟩
abbrev cL_resourceOf : ByteArray := method_4_code
def yL_resourceOf : MethodName := ⟨RL, "resourceOf", "(LZoneCapacity;II[J)I"⟩
abbrev cL_law : ByteArray := code
def yL_law : MethodName := ⟨RL, "law", "([I)Z"⟩

abbrev wslX0 : List Cond := u_ws RX0 TX0 12
abbrev wslX1 : List Cond := u_ws RX1 TX1 2
abbrev wslX2 : List Cond := u_ws RX2 TX2 12
abbrev wslX3 : List Cond := u_ws RX3 TX3 2
abbrev wslX4 : List Cond := u_ws RX4 TX4 8
abbrev wslX5 : List Cond := u_ws RX5 TX5 7
abbrev wslX6 : List Cond := u_ws RX6 TX6 7
abbrev wslX7 : List Cond := u_ws RX7 TX7 23
def TW : List Cond := lw_tbl.filter goodWord
theorem tw_mem {w : Cond} (h : w ∈ lw_tbl) (g : goodWord w = true) : w ∈ TW := List.mem_filter.mpr ⟨h, g⟩
def tw_chk (ids : List Nat) (ws : List Cond) : Bool := decide (ids.map (fun i => lw_tbl[i]?) = ws.map some) && ws.all goodWord
theorem tw_of {ids : List Nat} {ws : List Cond} (h : tw_chk ids ws = true) : ∀ w ∈ ws, w ∈ TW := by
  intro w hw
  unfold tw_chk at h
  rw [Bool.and_eq_true, decide_eq_true_eq] at h
  refine tw_mem ?_ (List.all_eq_true.mp h.2 w hw)
  have : some w ∈ ws.map some := List.mem_map.mpr ⟨w, hw, rfl⟩
  rw [← h.1] at this
  obtain ⟨i, -, hi⟩ := List.mem_map.mp this
  exact List.mem_of_getElem? hi
theorem tw_good {y : MethodName} {bytes : ByteArray} {maxL : Nat} {ret : Option FieldType} (h : Cond.code y bytes maxL ret ∈ TW) : GoodIn TW (Cond.code y bytes maxL ret :: TW) := by
  intro w hw
  have hw : w ∈ TW := by
    rcases List.mem_cons.mp hw with e | e
    · rw [e]; exact h
    · exact e
  exact ⟨hw, good_of_word (List.mem_filter.mp hw).2⟩
theorem iwX0 : ∀ w ∈ wslX0, w ∈ TW := tw_of (ids := [241, 243, 245, 247, 249, 251, 253, 255, 257, 259, 261, 263]) (by decide +kernel)
theorem iwX1 : ∀ w ∈ wslX1, w ∈ TW := tw_of (ids := [219, 221]) (by decide +kernel)
theorem iwX2 : ∀ w ∈ wslX2, w ∈ TW := tw_of (ids := [186, 188, 190, 192, 194, 196, 198, 200, 202, 204, 206, 208]) (by decide +kernel)
theorem iwX3 : ∀ w ∈ wslX3, w ∈ TW := tw_of (ids := [283, 285]) (by decide +kernel)
theorem iwX4 : ∀ w ∈ wslX4, w ∈ TW := tw_of (ids := [301, 303, 305, 307, 309, 311, 313, 315]) (by decide +kernel)
theorem iwX5 : ∀ w ∈ wslX5, w ∈ TW := tw_of (ids := [136, 138, 140, 142, 144, 146, 148]) (by decide +kernel)
theorem iwX6 : ∀ w ∈ wslX6, w ∈ TW := tw_of (ids := [327, 329, 331, 333, 335, 337, 339]) (by decide +kernel)
theorem iwX7 : ∀ w ∈ wslX7, w ∈ TW := tw_of (ids := [961, 963, 965, 967, 969, 971, 973, 975, 977, 979, 981, 983, 985, 987, 989, 991, 993, 995, 997, 999, 1001, 1003, 1005]) (by decide +kernel)
end
section
abbrev Mem : Type := Nat → Nat → Int32
def up2 (mm : Mem) (c i : Nat) (v : Int32) : Mem := fun a j => if a = c ∧ j = i then v else mm a j
def Kl : List Nat := [7, 8, 8, 9, 8, 8, 8, 8, 8, 8, 8, 8, 8, 8, 6, 0, 1, 5, 8, 8, 8, 8, 8, 8, 2, 8, 8, 8, 8, 8, 8, 8, 8, 8, 8, 8, 8, 8, 8, 8, 8, 8, 8, 8, 0, 1, 5, 8, 8, 8, 8, 8, 8, 2, 8, 8, 8, 8, 8, 8, 8, 8, 8, 8, 8, 8, 8, 8, 8, 8, 8, 8, 8, 4, 3, 8, 1, 5, 8, 8, 8, 8, 8, 8, 2, 8, 8, 8, 8, 8, 8, 8, 8, 8, 8, 1, 5, 8, 8, 8, 8, 8, 8, 2, 8, 8, 8, 8, 8, 8, 8, 8, 8, 8, 1, 5, 8, 8, 8, 8, 8, 8, 2, 8, 8, 8, 8, 8, 8, 8, 8, 8, 8, 10]
def Ll : List Nat := [0, 235, 470, 2, 235, 6, 6, 6, 6, 6, 48, 7, 500, 6, 0, 0, 0, 0, 6, 6, 6, 6, 24, 24, 0, 4, 12, 12, 12, 12, 12, 12, 12, 36, 36, 6, 6, 6, 48, 48, 48, 6, 6, 6, 0, 0, 0, 6, 6, 6, 6, 24, 24, 0, 4, 12, 12, 12, 12, 12, 12, 12, 36, 36, 6, 6, 6, 48, 48, 48, 6, 6, 6, 0, 0, 500, 0, 0, 6, 6, 6, 6, 24, 24, 0, 4, 12, 12, 12, 12, 12, 12, 12, 36, 36, 0, 0, 6, 6, 6, 6, 24, 24, 0, 4, 12, 12, 12, 12, 12, 12, 12, 36, 36, 0, 0, 6, 6, 6, 6, 24, 24, 0, 4, 12, 12, 12, 12, 12, 12, 12, 36, 36, 1]
def kd (c : Nat) : Nat := Kl.getD c 99
def ln (c : Nat) : Nat := Ll.getD c 0
def nfl (ci : Nat) : Nat := match ci with | 0 => 12 | 1 => 2 | 2 => 12 | 3 => 2 | 4 => 8 | 5 => 7 | 6 => 7 | 7 => 23 | _ => 0
def rfk (ci k c : Nat) : Option Nat := match ci, k with | 0, 0 => some (c + 1) | 0, 1 => some (c + 20) | 0, 2 => some (c + 21) | 0, 3 => some (c + 22) | 0, 4 => some (c + 23) | 0, 5 => some (c + 24) | 0, 6 => some (c + 25) | 0, 7 => some (c + 26) | 0, 8 => some (c + 27) | 0, 9 => some (c + 28) | 1, 0 => some (c + 1) | 1, 1 => some (c + 8) | 2, 2 => some (c + 1) | 2, 3 => some (c + 2) | 2, 4 => some (c + 3) | 2, 5 => some (c + 4) | 2, 6 => some (c + 5) | 2, 7 => some (c + 6) | 2, 8 => some (c + 7) | 2, 9 => some (c + 8) | 2, 10 => some (c + 9) | 2, 11 => some (c + 10) | 3, 0 => some (75) | 4, 0 => some (74) | 4, 1 => some (76) | 5, 1 => some (c + 1) | 5, 2 => some (c + 2) | 5, 3 => some (c + 3) | 5, 4 => some (c + 4) | 5, 5 => some (c + 5) | 5, 6 => some (c + 6) | 6, 0 => some (15) | 6, 1 => some (44) | 6, 2 => some (73) | 6, 3 => some (95) | 6, 4 => some (114) | 7, 1 => some (1) | 7, 2 => some (2) | 7, 3 => some (3) | 7, 4 => some (4) | 7, 7 => some (5) | 7, 8 => some (6) | 7, 9 => some (7) | 7, 10 => some (8) | 7, 11 => some (9) | 7, 12 => some (10) | 7, 13 => some (11) | 7, 14 => some (12) | 7, 22 => some (13) | _, _ => none
abbrev zcls : List vw_C := [(RX0, TX0, 12), (RX1, TX1, 2), (RX2, TX2, 12), (RX3, TX3, 2), (RX4, TX4, 8), (RX5, TX5, 7), (RX6, TX6, 7), (RX7, TX7, 23)]
def tyA (ci : Nat) : Nat → FieldType := match ci with | 0 => tyX0 | 1 => tyX1 | 2 => tyX2 | 3 => tyX3 | 4 => tyX4 | 5 => tyX5 | 6 => tyX6 | 7 => tyX7 | _ => fun _ => .int
/-- addresses of the cells by their ids, classes, the array classes (int, boolean, long), the texts' rows -/
abbrev Cfg : Type := (Nat → Nat) × va_G × ClassId × ClassId × ClassId × (Nat → Nat)
abbrev Lv : Type := List (Nat × Value)
abbrev Tb : Type := List (Nat × Instr × Nat × Nat)
abbrev NC : Nat := 134
def cvv (C : Cfg) : Value → Value
  | .ref a => .ref (C.1 a)
  | .null => .null
  | .int x => .int x
  | .long x => .long x
  | .float x => .float x
  | .double x => .double x
  | .retAddr x => .retAddr x
def fvv (C : Cfg) (f : Nat → Int32) (ci c k : Nat) : Value := match rfk ci k c with
  | some q => .ref (C.1 q)
  | none => .int (f k)
def fl (C : Cfg) (f : Nat → Int32) (ci c : Nat) : List Value := (List.range (nfl ci)).map (fvv C f ci c)
def celx (C : Cfg) (c : Nat) (f : Nat → Int32) : va_E :=
  if kd c < 8 then .inr (kd c, fl C f (kd c) c) else if kd c = 8 then .inl (C.2.2.1, ln c, .inl f) else if kd c = 9 then .inl (C.2.2.2.1, ln c, .inl f) else .inl (C.2.2.2.2.1, ln c, .inr (.inl (fun i => (f i).toInt64)))
def cel (C : Cfg) (mm : Mem) (c : Nat) : va_E := celx C c (mm c)
def wl (C : Cfg) (mm : Mem) : va_W := (List.range NC).map (fun c => (C.1 c, cel C mm c))
def tys (C : Cfg) : List (ClassId × FieldType) := [(C.2.2.1, .int), (C.2.2.2.1, .boolean), (C.2.2.2.2.1, .long)]
def ztx : List (Nat × String × List Int32) := [(42, "zone", [122, 111, 110, 101]), (51, "curve", [99, 117, 114, 118, 101]), (56, "resource", [114, 101, 115, 111, 117, 114, 99, 101]), (61, "offer", [111, 102, 102, 101, 114]), (66, "floor", [102, 108, 111, 111, 114]), (71, "ceiling", [99, 101, 105, 108, 105, 110, 103]), (76, "limits", [108, 105, 109, 105, 116, 115]), (130, "must", [109, 117, 115, 116]), (135, "free", [102, 114, 101, 101])]
def ztl : List Nat := ztx.map (fun q => q.2.2.length)
def ztb : List (List Int32) := ztx.map (fun q => q.2.2)
def zns : List (String × Nat × MethodName × String) := [("ZoneCapacity", 9, ⟨"ZoneCapacity$Auction", "<init>", "()V"⟩, "ZoneCapacity"), ("ZoneCapacity$Auction", 11, ⟨"ZoneCapacity$Market", "<init>", "()V"⟩, "ZoneCapacity"), ("ZoneCapacity$Zones", 34, ⟨"ZoneCapacity", "put", "([III)V"⟩, "ZoneCapacity"), ("ZoneCapacity$Market", 18, ⟨"ZoneCapacity$Offers", "<init>", "()V"⟩, "ZoneCapacity"), ("ZoneCapacity", 21, ⟨"ZoneCapacity$Teller", "<init>", "()V"⟩, "ZoneCapacity"), ("ZoneCapacity$Teller", 11, ⟨"ZoneCapacity$Tape", "<init>", "()V"⟩, "ZoneCapacity"), ("ZoneCapacity$Teller", 20, ⟨"ZoneCapacity$Market", "<init>", "()V"⟩, "ZoneCapacity"), ("ZoneCapacity", 28, ⟨"ZoneCapacity$Market", "<init>", "()V"⟩, "ZoneCapacity"), ("ZoneCapacity$Tape", 19, ⟨"ZoneCapacity", "put", "([III)V"⟩, "ZoneCapacity"), ("ZoneCapacity$Zones", 38, ⟨"ZoneCapacity", "copyRow", "([I[I)V"⟩, "ZoneCapacity"), ("ZoneCapacity$Offers", 49, ⟨"ZoneCapacity", "copyRow", "([I[I)V"⟩, "ZoneCapacity"), ("ZoneCapacity$Teller", 186, ⟨"ZoneCapacity", "at", "([II)I"⟩, "ZoneCapacity"), ("ZoneCapacity$Teller", 169, ⟨"ZoneCapacity", "within", "(III)Z"⟩, "ZoneCapacity"), ("ZoneCapacity$Zones", 46, ⟨"ZoneCapacity", "at", "([II)I"⟩, "ZoneCapacity"), ("ZoneCapacity$Offers", 53, ⟨"ZoneCapacity", "put", "([III)V"⟩, "ZoneCapacity"), ("ZoneCapacity$Offers", 57, ⟨"ZoneCapacity", "at", "([II)I"⟩, "ZoneCapacity"), ("ZoneCapacity$Teller", 154, ⟨"ZoneCapacity", "put", "([III)V"⟩, "ZoneCapacity"), ("ZoneCapacity$Offers", 69, ⟨"ZoneCapacity", "within", "(III)Z"⟩, "ZoneCapacity"), ("ZoneCapacity$Auction", 56, ⟨"ZoneCapacity", "put", "([III)V"⟩, "ZoneCapacity"), ("ZoneCapacity$Auction", 69, ⟨"ZoneCapacity", "at", "([II)I"⟩, "ZoneCapacity")]
/-- the texts, and the static field that their methods read -/
def Sx (C : Cfg) (A : Nat → Prop) (U : State) (H : Heap) : Prop :=
  vk_S 9 ztl ztb (fun i => C.1 (1000 + i)) C.2.2.2.2.2 A U H ∧ (∀ i q, ztx[i]? = some q → vk_R "ZoneCapacity$Teller" q.1 q.2.1 (C.1 (1000 + i)) U) ∧ va_Z "java/lang/String" "COMPACT_STRINGS" "Z" (.int 1) A U H ∧ ∀ q ∈ zns, va_Nw (.methodLinkNest q.1 q.2.1 q.2.2.1 q.2.2.2) U
theorem Sx.go {C : Cfg} {A B : Nat → Prop} {s U : State} {H H1 : Heap} (h : Sx C A s H) (hW : s.WarmedH U.vm) (hAB : ∀ q, B q → A q) (hq : ∀ a : Nat, a < H.size → ¬ A a → H1[a]? = H[a]?) : Sx C B U H1 :=
  ⟨((h.1.moved hW.alike).kept hq).narrow hAB, fun i q e => (h.2.1 i q e).warm hW, ((h.2.2.1.moved hW.alike).kept hq).narrow hAB, fun q m => (h.2.2.2 q m).warmM hW⟩
def Aw (C : Cfg) : Nat → Prop := fun q => ∃ c, c < NC ∧ C.1 c = q
def Wd (C : Cfg) (mm : Mem) (U : State) : Prop := va_P C.2.1 zcls (wl C mm) U.heap ∧ va_K C.2.1 zcls (tys C) U ∧ Sx C (Aw C) U U.heap
def Dj (C : Cfg) : Prop := ∀ i j : Nat, i < NC → j < NC → C.1 i = C.1 j → i = j
def Ob (c ci : Nat) : Prop := c < NC ∧ kd c = ci
abbrev Ev : Type := Program × Launch × Env × Room × State × MethodId × Array Value × List Frame × Method × Code × (State → Prop) × Cfg × Nat × Nat × (Nat → Prop) × Option Value × Mem
def G : Ev → Nat → Nat → Lv → List Value → Mem → Prop
  | (p, l, e, R, s, m, args, below, meth, c, Q, C, kc, ks, A, _, _), nL, pc, lv, st, mm => ∀ (H : Heap) (locs : List Loc) (ls : Array Slot), va_P C.2.1 zcls (wl C mm) H → va_S A s.heap H locs → lv_has ls nL (lv.map (fun q => (q.1, cvv C q.2))) → W p l e R s m args below meth c H locs kc ks Q (F0 m pc ls (st.map (cvv C)))
def Bx : Ev → String → Tb → Nat → Option FieldType → Prop
  | (p, _, _, R, s, m, args, _, meth, c, _, C, kc, ks, A, _, _), own, tb, nL, ret => p.tables.exec = Jvm.exec ∧ (∀ q ∈ tb, decode c.code q.1 = .ok (q.2.1, q.2.2.1) ∧ q.1 + q.2.2.1 = q.2.2.2) ∧ c.maxLocals = nL ∧ s.vm.findClass own = some m.cls ∧ (∀ w ∈ TW, w.before args s = true) ∧ va_K C.2.1 zcls (tys C) s ∧ Dj C ∧ (∀ c, c < NC → A (C.1 c)) ∧ Sx C A s s.heap ∧ meth.sig.returnType = ret ∧ meth.locks = false ∧ kc ≤ R.cells ∧ ks ≤ R.slots
/-- which end the state is asked for: a method's own -/
def QC (C : Cfg) (A : Nat → Prop) (r : Option Value) (mo : Mem) : Array Value → State → Outcome → State → Prop := fun _ st oc t => oc = .returned (r.map (cvv C)) ∧ Wd C mo t ∧ va_F A st t
def Rt : Ev → Prop
  | (_, _, _, _, s, _, args, below, _, _, Q, C, kc, ks, A, res, mo) => Q = MQ below (QC C A res mo) args s kc ks A
def Rs : Ev → Option Value → Mem → Prop
  | (_, _, _, _, _, _, _, _, _, _, _, _, _, _, _, res, mo), r, mm => res = r ∧ mo = mm
/-- what is known of a method that is called: its code, its number of arguments -/
def MI (y : MethodName) (bytes : ByteArray) (maxL : Nat) (rt : Option FieldType) (n : Nat) : Prop := Cond.code y bytes maxL rt ∈ TW ∧ plainName y.cls = true ∧ (y.cls ≠ "java/lang/invoke/MethodHandle" ∧ y.cls ≠ "java/lang/invoke/VarHandle" ∧ (parseMethodDescriptor y.desc).map (fun d => d.parameters.length) = some n) ∧ Cond.initialized y.cls ∈ TW
/-- launch, configuration and room of the walk -/
def Ec : Ev → Launch → Cfg → Room → Prop
  | (_, l, _, R, _, _, _, _, _, _, _, C, _, _, _, _, _), l', C', R' => l = l' ∧ C = C' ∧ R = R'
section BXS
variable {p : Program} {l : Launch} {e : Env} {R : Room} {s : State} {m : MethodId} {args : Array Value} {below : List Frame} {meth : Method} {c : Code} {Q : State → Prop} {C : Cfg} {kc ks : Nat} {A : Nat → Prop} {res : Option Value} {mo : Mem} {own : String} {tb : Tb} {nL : Nat} {ret : Option FieldType}
variable {pc nx len : Nat} {ins : Instr} {mm : Mem} {H : Heap} {locs : List Loc} {ls : Array Slot} {rest : List Value}
theorem Bx.dec (B : Bx (p, l, e, R, s, m, args, below, meth, c, Q, C, kc, ks, A, res, mo) own tb nL ret) {i : Nat} (h : tb[i]? = some (pc, ins, len, nx)) : decode c.code pc = .ok (ins, len) ∧ pc + len = nx := by
  have h1 : ∀ q ∈ tb, decode c.code q.1 = .ok (q.2.1, q.2.2.1) ∧ q.1 + q.2.2.1 = q.2.2.2 := B.2.1
  exact h1 (pc, ins, len, nx) (List.mem_of_getElem? h)
theorem Bx.hown (B : Bx (p, l, e, R, s, m, args, below, meth, c, Q, C, kc, ks, A, res, mo) own tb nL ret) : s.vm.findClass own = some m.cls := B.2.2.2.1
theorem Bx.tw (B : Bx (p, l, e, R, s, m, args, below, meth, c, Q, C, kc, ks, A, res, mo) own tb nL ret) : ∀ w ∈ TW, w.before args s = true := B.2.2.2.2.1
theorem Bx.K (B : Bx (p, l, e, R, s, m, args, below, meth, c, Q, C, kc, ks, A, res, mo) own tb nL ret) : va_K C.2.1 zcls (tys C) s := B.2.2.2.2.2.1
theorem Bx.dj (B : Bx (p, l, e, R, s, m, args, below, meth, c, Q, C, kc, ks, A, res, mo) own tb nL ret) : Dj C := B.2.2.2.2.2.2.1
theorem Bx.aa (B : Bx (p, l, e, R, s, m, args, below, meth, c, Q, C, kc, ks, A, res, mo) own tb nL ret) : ∀ c, c < NC → A (C.1 c) := B.2.2.2.2.2.2.2.1
theorem Bx.sx (B : Bx (p, l, e, R, s, m, args, below, meth, c, Q, C, kc, ks, A, res, mo) own tb nL ret) : Sx C A s s.heap := B.2.2.2.2.2.2.2.2.1
theorem Bx.ml (B : Bx (p, l, e, R, s, m, args, below, meth, c, Q, C, kc, ks, A, res, mo) own tb nL ret) : c.maxLocals = nL := B.2.2.1
theorem Bx.rt (B : Bx (p, l, e, R, s, m, args, below, meth, c, Q, C, kc, ks, A, res, mo) own tb nL ret) : meth.sig.returnType = ret := B.2.2.2.2.2.2.2.2.2.1
theorem Bx.lk (B : Bx (p, l, e, R, s, m, args, below, meth, c, Q, C, kc, ks, A, res, mo) own tb nL ret) : meth.locks = false := B.2.2.2.2.2.2.2.2.2.2.1
theorem Bx.rm (B : Bx (p, l, e, R, s, m, args, below, meth, c, Q, C, kc, ks, A, res, mo) own tb nL ret) : kc ≤ R.cells ∧ ks ≤ R.slots := B.2.2.2.2.2.2.2.2.2.2.2
theorem cvv_cat (C : Cfg) (v : Value) : (cvv C v).category = v.category := by cases v <;> rfl
theorem lvm {C : Cfg} {lv : Lv} {j q : Nat} {v : Value} (h : lv[j]? = some (q, v)) : (lv.map (fun q => (q.1, cvv C q.2)))[j]? = some (q, cvv C v) := by
  rw [List.getElem?_map, h]
  rfl
theorem lvs {C : Cfg} {lv lv' : Lv} {js : List Nat} (h : js.filterMap (fun j => lv[j]?) = lv') : lv_pick (lv.map (fun q => (q.1, cvv C q.2))) js = lv'.map (fun q => (q.1, cvv C q.2)) := by
  subst h
  unfold lv_pick
  rw [List.map_filterMap]
  congr 1
  funext j
  rw [List.getElem?_map]
def zs1 (lv : Lv) (i : Nat) (v : Value) : Lv := (i, v) :: lv.filter (fun q => !(q.1 == i) && !(q.1 + 1 == i && q.2.category == 2))
def zs2 (lv : Lv) (i : Nat) (v : Value) : Lv := (i, v) :: lv.filter (fun q => !(q.1 == i) && (!(q.1 == i + 1) && !(q.1 + 1 == i && q.2.category == 2)))
theorem zs1_map (C : Cfg) (lv : Lv) (i : Nat) (v : Value) : (i, cvv C v) :: (lv.map (fun q => (q.1, cvv C q.2))).filter (fun q => !(q.1 == i) && !(q.1 + 1 == i && q.2.category == 2)) = (zs1 lv i v).map (fun q => (q.1, cvv C q.2)) := by
  unfold zs1
  rw [List.map_cons, List.filter_map]
  congr 3
  funext q
  simp only [Function.comp, cvv_cat]
theorem zs2_map (C : Cfg) (lv : Lv) (i : Nat) (v : Value) : (i, cvv C v) :: (lv.map (fun q => (q.1, cvv C q.2))).filter (fun q => !(q.1 == i) && (!(q.1 == i + 1) && !(q.1 + 1 == i && q.2.category == 2))) = (zs2 lv i v).map (fun q => (q.1, cvv C q.2)) := by
  unfold zs2
  rw [List.map_cons, List.filter_map]
  congr 3
  funext q
  simp only [Function.comp, cvv_cat]
theorem i32_nlt {x y : Int32} (h : ¬ x < y) : y ≤ x := Int32.not_lt.mp h
theorem i32_nlt2 {x y : Int32} (h : y ≤ x) : ¬ x < y := Int32.not_lt.mpr h
def inb (i : Int32) (n : Nat) : Bool := !(decide (i < 0) || decide (n ≤ i.toNatClampNeg))
theorem inb_in {i : Int32} {n : Nat} (h : inb i n = true) : vp_in i n := by
  unfold inb at h
  unfold vp_in
  simpa using h
theorem wl_get {C : Cfg} {mm : Mem} {q : Nat} (h : q < NC) : (wl C mm)[q]? = some (C.1 q, cel C mm q) := by
  unfold wl
  rw [List.getElem?_map, List.getElem?_range h]
  rfl
theorem wl_at {C : Cfg} {mm : Mem} {q : Nat} {x : Nat × va_E} (h : (wl C mm)[q]? = some x) : q < NC ∧ x = (C.1 q, cel C mm q) := by
  by_cases hq : q < NC
  · rw [wl_get hq] at h
    exact ⟨hq, (Option.some.inj h).symm⟩
  · unfold wl at h
    rw [List.getElem?_map, List.getElem?_eq_none (by rw [List.length_range]; omega)] at h
    cases h
theorem wl_D (B : Bx (p, l, e, R, s, m, args, below, meth, c, Q, C, kc, ks, A, res, mo) own tb nL ret) (mm : Mem) : va_D A (wl C mm) := by
  refine ⟨fun i j x y hx hy hxy => ?_, fun k x hx => ?_⟩
  · obtain ⟨h1, rfl⟩ := wl_at hx
    obtain ⟨h2, rfl⟩ := wl_at hy
    exact B.dj i j h1 h2 hxy
  · obtain ⟨h1, rfl⟩ := wl_at hx
    exact B.aa k h1
theorem cel_obj {C : Cfg} {mm : Mem} {q ci : Nat} (h : kd q = ci) (hc : ci < 8) : cel C mm q = .inr (ci, fl C (mm q) ci q) := by
  unfold cel celx
  rw [h, if_pos hc]
theorem wl_arr {C : Cfg} {mm : Mem} {q : Nat} (h : Ob q 8) : (wl C mm)[q]? = some (C.1 q, .inl (C.2.2.1, ln q, .inl (mm q))) := by
  rw [wl_get h.1]
  unfold cel celx
  rw [h.2]
  rfl
theorem wl_arz {C : Cfg} {mm : Mem} {q : Nat} (h : Ob q 9) : (wl C mm)[q]? = some (C.1 q, .inl (C.2.2.2.1, ln q, .inl (mm q))) := by
  rw [wl_get h.1]
  unfold cel celx
  rw [h.2]
  rfl
theorem wl_arl {C : Cfg} {mm : Mem} {q : Nat} (h : Ob q 10) : (wl C mm)[q]? = some (C.1 q, .inl (C.2.2.2.2.1, ln q, .inr (.inl (fun i => (mm q i).toInt64)))) := by
  rw [wl_get h.1]
  unfold cel celx
  rw [h.2]
  rfl
theorem up2_eq (mm : Mem) (q k : Nat) (v : Int32) : up2 mm q k v q = upd (mm q) k v := by
  funext j
  simp [up2, upd]
theorem up2_ne (mm : Mem) {q c : Nat} (k : Nat) (v : Int32) (h : c ≠ q) : up2 mm q k v c = mm c := by
  funext j
  simp [up2, h]
theorem cel_congr {C : Cfg} {mm mm' : Mem} {c : Nat} (h : mm' c = mm c) : cel C mm' c = cel C mm c := congrArg (celx C c) h
theorem wl_upd {C : Cfg} {mm mm' : Mem} {q : Nat} {x : va_E} (hq : q < NC) (he : cel C mm' q = x) (ho : ∀ c, c ≠ q → mm' c = mm c) : (wl C mm).set q (C.1 q, x) = wl C mm' := by
  apply List.ext_getElem?
  intro j
  by_cases hj : j = q
  · subst hj
    rw [List.getElem?_set_self (by unfold wl; rw [List.length_map, List.length_range]; exact hq), wl_get hq, he]
  · rw [List.getElem?_set_ne (Ne.symm hj)]
    by_cases hl : j < NC
    · rw [wl_get hl, wl_get hl, cel_congr (ho j hj)]
    · unfold wl
      rw [List.getElem?_map, List.getElem?_map, List.getElem?_eq_none (by rw [List.length_range]; omega), Option.map_none, Option.map_none]
theorem wl_setI {C : Cfg} {mm : Mem} {q : Nat} (h : Ob q 8) (k : Nat) (v : Int32) : (wl C mm).set q (C.1 q, .inl (C.2.2.1, ln q, .inl (upd (mm q) k v))) = wl C (up2 mm q k v) := by
  refine wl_upd h.1 ?_ (fun c hc => up2_ne mm k v hc)
  unfold cel celx
  rw [h.2, up2_eq]
  rfl
theorem wl_setZ {C : Cfg} {mm : Mem} {q : Nat} (h : Ob q 9) (k : Nat) (v : Int32) : (wl C mm).set q (C.1 q, .inl (C.2.2.2.1, ln q, .inl (upd (mm q) k v))) = wl C (up2 mm q k v) := by
  refine wl_upd h.1 ?_ (fun c hc => up2_ne mm k v hc)
  unfold cel celx
  rw [h.2, up2_eq]
  rfl
theorem wl_setL {C : Cfg} {mm : Mem} {q : Nat} (h : Ob q 10) (k : Nat) (v : Int32) : (wl C mm).set q (C.1 q, .inl (C.2.2.2.2.1, ln q, .inr (.inl (vp_updL (fun i => (mm q i).toInt64) k v.toInt64)))) = wl C (up2 mm q k v) := by
  refine wl_upd h.1 ?_ (fun c hc => up2_ne mm k v hc)
  unfold cel celx
  rw [h.2, up2_eq]
  have : (fun i => (upd (mm q) k v i).toInt64) = vp_updL (fun i => (mm q i).toInt64) k v.toInt64 := by
    funext i
    unfold upd vp_updL
    by_cases hi : i = k <;> simp [hi]
  rw [this]
  rfl
theorem fl_len (C : Cfg) (f : Nat → Int32) (ci q : Nat) : (fl C f ci q).length = nfl ci := by
  unfold fl
  rw [List.length_map, List.length_range]
theorem fl_get (C : Cfg) (f : Nat → Int32) {ci q k : Nat} (h : k < nfl ci) : (fl C f ci q)[k]? = some (fvv C f ci q k) := by
  unfold fl
  rw [List.getElem?_map, List.getElem?_range h]
  rfl
theorem wl_setF {C : Cfg} {mm : Mem} {q ci : Nat} (h : Ob q ci) (hc : ci < 8) {k : Nat} (hk : k < nfl ci) (hr : rfk ci k q = none) (v : Int32) : (wl C mm).set q (C.1 q, .inr (ci, (fl C (mm q) ci q).set k (.int v))) = wl C (up2 mm q k v) := by
  refine wl_upd h.1 ?_ (fun c hc => up2_ne mm k v hc)
  rw [cel_obj h.2 hc]
  congr 2
  apply List.ext_getElem?
  intro j
  by_cases hj : j = k
  · subst hj
    rw [List.getElem?_set_self (by rw [fl_len]; exact hk), fl_get _ _ hk]
    unfold fvv
    rw [hr]
    simp [up2]
  · rw [List.getElem?_set_ne (Ne.symm hj)]
    by_cases hl : j < nfl ci
    · rw [fl_get _ _ hl, fl_get _ _ hl]
      unfold fvv
      cases rfk ci j q with
      | some z => rfl
      | none => simp [up2, hj]
    · rw [List.getElem?_eq_none (by rw [fl_len]; omega), List.getElem?_eq_none (by rw [fl_len]; omega)]
-- the classes' tables
def zfl (ci k : Nat) : Option (String × String × String) := match zcls[ci]? with
  | some x => if k < x.2.2 then some ((x.2.1 k).1, (x.2.1 k).2.1, (x.2.1 k).2.2.1) else none
  | none => none
def zfin (ci k : Nat) : Bool := match zcls[ci]? with
  | some x => (x.2.1 k).2.2.2
  | none => true
theorem zcls_lt {ci : Nat} {x : vw_C} (h : zcls[ci]? = some x) : ci < 8 := (List.getElem?_eq_some_iff.mp h).1
theorem zcls_ok {ci : Nat} {x : vw_C} (h : zcls[ci]? = some x) : (∀ w ∈ u_ws x.1 x.2.1 x.2.2, w ∈ TW) ∧ x.2.2 = nfl ci ∧ (∀ k, k < x.2.2 → parseFieldDescriptor (x.2.1 k).2.2.1 = some (tyA ci k)) ∧ (∀ a, a < x.2.2 → ∀ b, b < x.2.2 → a ≠ b → (x.2.1 a).2.1 ≠ (x.2.1 b).2.1) := by
  have hl := zcls_lt h
  match ci, hl, h with
  | 0, _, h => cases h; exact ⟨iwX0, rfl, tyX0_ok, nmX0⟩
  | 1, _, h => cases h; exact ⟨iwX1, rfl, tyX1_ok, nmX1⟩
  | 2, _, h => cases h; exact ⟨iwX2, rfl, tyX2_ok, nmX2⟩
  | 3, _, h => cases h; exact ⟨iwX3, rfl, tyX3_ok, nmX3⟩
  | 4, _, h => cases h; exact ⟨iwX4, rfl, tyX4_ok, nmX4⟩
  | 5, _, h => cases h; exact ⟨iwX5, rfl, tyX5_ok, nmX5⟩
  | 6, _, h => cases h; exact ⟨iwX6, rfl, tyX6_ok, nmX6⟩
  | 7, _, h => cases h; exact ⟨iwX7, rfl, tyX7_ok, nmX7⟩
  | n + 8, hl, _ => omega
theorem zfl_spec {ci k : Nat} {rn nm d : String} (h : zfl ci k = some (rn, nm, d)) : ∃ x : vw_C, zcls[ci]? = some x ∧ k < x.2.2 ∧ (x.2.1 k).1 = rn ∧ (x.2.1 k).2.1 = nm ∧ (x.2.1 k).2.2.1 = d := by
  unfold zfl at h
  cases hx : zcls[ci]? with
  | none => rw [hx] at h; cases h
  | some x =>
    rw [hx] at h
    dsimp only at h
    by_cases hk : k < x.2.2
    · rw [if_pos hk] at h
      cases h
      exact ⟨x, rfl, hk, rfl, rfl, rfl⟩
    · rw [if_neg hk] at h
      cases h
theorem zgetf (B : Bx (p, l, e, R, s, m, args, below, meth, c, Q, C, kc, ks, A, res, mo) own tb nL ret) (hP : va_P C.2.1 zcls (wl C mm) H) {q ci kf n : Nat} (hq : Ob q ci) (hd : decode c.code pc = .ok (.getfield n, 3)) {rn nm d : String} (hw : Cond.fieldLink own n rn nm d ∈ TW) (hf : zfl ci kf = some (rn, nm, d)) {v : Value} (hv : fvv C (mm q) ci q kf = v) (k : W p l e R s m args below meth c H locs kc ks Q (F0 m (pc + 3) ls (v :: rest))) : W p l e R s m args below meth c H locs kc ks Q (F0 m pc ls (.ref (C.1 q) :: rest)) := by
  obtain ⟨⟨Cn, T, N⟩, hx, hk, rfl, rfl, rfl⟩ := zfl_spec hf
  obtain ⟨hws, hN, hty, hnm⟩ := zcls_ok hx
  refine va_get (C := Cn) (T := T) (N := N) (fs := fl C (mm q) ci q) B.1 rfl B.tw hws B.hown B.K hP q ?_ hx kf hk (B.tw _ hw) (fun _ h => h) ?_ hd k
  · rw [wl_get hq.1, cel_obj hq.2 (zcls_lt hx)]
  · rw [fl_get _ _ (hN ▸ hk), hv]
theorem zputf (B : Bx (p, l, e, R, s, m, args, below, meth, c, Q, C, kc, ks, A, res, mo) own tb nL ret) (hP : va_P C.2.1 zcls (wl C mm) H) (hS : va_S A s.heap H locs) {q ci kf n : Nat} (hq : Ob q ci) (hr : rfk ci kf q = none) (hd : decode c.code pc = .ok (.putfield n, 3)) {rn nm d : String} (hw : Cond.fieldLink own n rn nm d ∈ TW) (hf : zfl ci kf = some (rn, nm, d)) {ty : FieldType} (hd0 : parseFieldDescriptor d = some ty) (hfin : zfin ci kf = false) {v : Int32} (hv : narrow ty (.int v) = .int v) (hfit : fits ty (.int v) = true)
    (k : ∀ (H1 : Heap) (locs1 : List Loc), va_P C.2.1 zcls (wl C (up2 mm q kf v)) H1 → va_S A s.heap H1 locs1 → W p l e R s m args below meth c H1 locs1 kc ks Q (F0 m (pc + 3) ls rest)) : W p l e R s m args below meth c H locs kc ks Q (F0 m pc ls (.int v :: .ref (C.1 q) :: rest)) := by
  obtain ⟨⟨Cn, T, N⟩, hx, hk, rfl, rfl, rfl⟩ := zfl_spec hf
  obtain ⟨hws, hN, hty, hnm⟩ := zcls_ok hx
  have hfin' : (T kf).2.2.2 = false := by unfold zfin at hfin; rw [hx] at hfin; exact hfin
  have hc8 := zcls_lt hx
  refine va_put (C := Cn) (T := T) (N := N) (ty := ty) (fs := fl C (mm q) ci q) B.1 rfl B.tw hws (tyA ci) hty hnm B.hown B.K hP (wl_D B mm) hS q ?_ hx kf hk (B.tw _ hw) (fun _ h => h) hfin' hd0 hv hfit ?_ hd (fun H1 locs1 hP1 _ hS1 => ?_)
  · rw [wl_get hq.1, cel_obj hq.2 hc8]
  · rw [fl_len]; exact hN ▸ hk
  · rw [wl_setF hq hc8 (hN ▸ hk) hr v] at hP1
    exact k H1 locs1 hP1 hS1
-- what a method's end asks, out of the state there
theorem Wd_end (B : Bx (p, l, e, R, s, m, args, below, meth, c, Q, C, kc, ks, A, res, mo) own tb nL ret) (hP : va_P C.2.1 zcls (wl C mm) H) (hS : va_S A s.heap H locs) {t : State} (ht : t.heap = H) (hW : s.WarmedH t.vm) : Wd C mm t := by
  refine ⟨by rw [ht]; exact hP, va_K.moved hW.alike B.K, ?_⟩
  rw [ht]
  exact B.sx.go hW (fun q hq => by obtain ⟨c, h1, rfl⟩ := hq; exact B.aa c h1) hS.2.1
theorem z_iret {E : Ev} {own : String} {tb : Tb} {nL : Nat} {ty : FieldType} {pc nx : Nat} {lv : Lv} {mm : Mem} {v : Int32} (B : Bx E own tb nL (some ty)) (i : Nat) (h : tb[i]? = some (pc, .ireturn, 1, nx)) (hn : narrow ty (.int v) = .int v) (hQ : Rt E) (hr : Rs E (some (.int v)) mm) : G E nL pc lv [.int v] mm := by
  obtain ⟨p, l, e, R, s, m, args, below, meth, c, Q, C, kc, ks, A, res, mo⟩ := E
  obtain ⟨hd, -⟩ := Bx.dec B h
  obtain ⟨rfl, rfl⟩ := hr
  have hQ : Q = MQ below (QC C A _ _) args s kc ks A := hQ
  subst hQ
  intro H locs ls hP hS hl
  exact W.zret (v := v) B.1 rfl B.rt hn (fun t ht hW => ⟨rfl, Wd_end B hP hS ht hW, hS.F ht⟩) hS.2.2 hd B.lk
theorem z_lret {E : Ev} {own : String} {tb : Tb} {nL : Nat} {pc nx : Nat} {lv : Lv} {mm : Mem} {v : Int64} (B : Bx E own tb nL (some .long)) (i : Nat) (h : tb[i]? = some (pc, .lreturn, 1, nx)) (hQ : Rt E) (hr : Rs E (some (.long v)) mm) : G E nL pc lv [.long v] mm := by
  obtain ⟨p, l, e, R, s, m, args, below, meth, c, Q, C, kc, ks, A, res, mo⟩ := E
  obtain ⟨hd, -⟩ := Bx.dec B h
  obtain ⟨rfl, rfl⟩ := hr
  have hQ : Q = MQ below (QC C A _ _) args s kc ks A := hQ
  subst hQ
  intro H locs ls hP hS hl
  exact W.lret (v := v) B.1 rfl B.rt (fun t ht hW => ⟨rfl, Wd_end B hP hS ht hW, hS.F ht⟩) hS.2.2 hd B.lk
theorem z_vret {E : Ev} {own : String} {tb : Tb} {nL : Nat} {pc nx : Nat} {lv : Lv} {mm : Mem} (B : Bx E own tb nL none) (i : Nat) (h : tb[i]? = some (pc, .return_, 1, nx)) (hQ : Rt E) (hr : Rs E none mm) : G E nL pc lv [] mm := by
  obtain ⟨p, l, e, R, s, m, args, below, meth, c, Q, C, kc, ks, A, res, mo⟩ := E
  obtain ⟨hd, -⟩ := Bx.dec B h
  obtain ⟨rfl, rfl⟩ := hr
  have hQ : Q = MQ below (QC C A _ _) args s kc ks A := hQ
  subst hQ
  intro H locs ls hP hS hl
  exact W.vret B.1 rfl B.rt (fun t ht hW => ⟨rfl, Wd_end B hP hS ht hW, hS.F ht⟩) hS.2.2 hd B.lk
/-- a contract: over every world that holds mm the method ends with r, and the world holds mo -/
def Ct (l : Launch) (C : Cfg) (y : MethodName) (bytes : ByteArray) (maxL : Nat) (ret : Option FieldType) (fr lo : Nat) (av : List Value) (mm : Mem) (r : Option Value) (mo : Mem) : Prop :=
  Met l y (Cond.code y bytes maxL ret :: TW) ({ frames := fr, cells := 0, slots := 0, locals := lo }) (va_Pc (av.map (cvv C)) (Wd C mm)) (QC C (Aw C) r mo) 0 0 (Aw C)
/-- a method's body, out of G at its entry -/
theorem Ct.of {l : Launch} {C : Cfg} (hj : Dj C) {y : MethodName} {bytes : ByteArray} {nL fr lo : Nat} {ret : Option FieldType} {av : List Value} {mm mo : Mem} {r : Option Value} {tb : Tb} (hy : plainName y.cls = true) (hcode : Cond.code y bytes nL ret ∈ TW) (htb : ∀ q ∈ tb, decode bytes q.1 = .ok (q.2.1, q.2.2.1) ∧ q.1 + q.2.2.1 = q.2.2.2) (hlen : (lg_sl (av.map (fun v => match v with | .long _ => Value.long 0 | .double _ => .double 0 | _ => .null))).length ≤ nL)
    (body : ∀ E : Ev, Bx E y.cls tb nL ret → Rt E → Rs E r mo → Ec E l C ({ frames := fr, cells := 0, slots := 0, locals := lo } : Room) → G E nL 0 (lv_args 0 av) [] mm) : Ct l C y bytes nL ret fr lo av mm r mo := by
  refine Met.ofW (cc := bytes) (maxL := nL) (ret := ret) hy rfl ?_
  intro p e s m args below meth c s₁ B hml hv
  obtain ⟨rfl, hP, hK, hSx⟩ := hv
  have hts : ∀ w ∈ TW, w.before (av.map (cvv C)).toArray s = true := fun w hw => atoms_spec (ws := Cond.code y bytes nL ret :: TW) B.pre w (List.mem_cons_of_mem _ hw)
  have hB : Bx (p, l, e, ({ frames := fr, cells := 0, slots := 0, locals := lo } : Room), s, m, (av.map (cvv C)).toArray, below, meth, c, MQ below (QC C (Aw C) r mo) (av.map (cvv C)).toArray s 0 0 (Aw C), C, 0, 0, Aw C, r, mo) y.cls tb nL ret :=
    ⟨B.exec, fun q hq => by rw [B.bytes]; exact htb q hq, hml, findClass_of_methodNamed B.named, hts, hK, hj, fun c hc => ⟨c, hc, rfl⟩, hSx, B.returns, B.notSynchronized, Nat.zero_le _, Nat.zero_le _⟩
  have hG := body _ hB rfl ⟨rfl, rfl⟩ ⟨rfl, rfl, rfl⟩
  have hll : ∀ (a : List Value), (lg_sl (a.map (cvv C))).length = (lg_sl (a.map (fun v => match v with | .long _ => Value.long 0 | .double _ => .double 0 | _ => .null))).length := by
    intro a
    induction a with
    | nil => rfl
    | cons v a ih =>
      simp only [lg_sl, List.map_cons, List.flatMap_cons, List.length_append] at ih ⊢
      rw [ih]
      congr 1
      cases v <;> rfl
  have hl := lv_entry (av.map (cvv C)) (n := nL) (by rw [hll]; exact hlen)
  rw [lg_entry_eq]
  generalize (lg_sl (av.map (cvv C)) ++ List.replicate (nL - (lg_sl (av.map (cvv C))).length) Slot.unset).toArray = ls at hl ⊢
  have hmap : ∀ (a : List Value) (i : Nat), lv_args i (a.map (cvv C)) = (lv_args i a).map (fun q => (q.1, cvv C q.2)) := by
    intro a
    induction a with
    | nil => intro i; rfl
    | cons v a ih =>
      intro i
      simp only [List.map_cons, lv_args, cvv_cat, ih]
  rw [hmap] at hl
  exact hG s.heap [] ls hP va_S.rf hl
/-- a call's answer -/
theorem zcall (B : Bx (p, l, e, R, s, m, args, below, meth, c, Q, C, kc, ks, A, res, mo) own tb nL ret) {r : Option Value} {mm' : Mem} {a : Array Value} {st0 st2 : List Value} (hS : va_S A s.heap H locs) (hr : va_Run p l e R s m args below meth c H locs kc ks 0 0 (F0 m pc ls st0) st2 (QC C (Aw C) r mm' a) (Aw C))
    (k : ∀ (H1 : Heap) (locs1 : List Loc), va_P C.2.1 zcls (wl C mm') H1 → va_S A s.heap H1 locs1 → W p l e R s m args below meth c H1 locs1 kc ks Q (F0 m (pc + 3) ls ((r.map (cvv C)).toList ++ st2))) : W p l e R s m args below meth c H locs kc ks Q (F0 m pc ls st0) := by
  intro T hT X
  have hAA : ∀ q, Aw C q → A q := fun q hq => by obtain ⟨c, h1, rfl⟩ := hq; exact B.aa c h1
  obtain ⟨v, st₀, t, T', L, h0, X', hL, e1, e2, ⟨hv, hWd, hz, hk⟩, st⟩ := hr T hT X
  cases hv
  rw [h0] at hz hk
  obtain ⟨t2, a1, b1⟩ := k T'.heap (locs ++ L) (by rw [e1]; exact hWd.1)
    ⟨Nat.le_trans hS.1 (by rw [e1]; exact hz), fun q h1 h2 => by rw [e1, hk q (Nat.lt_of_lt_of_le h1 hS.1) (fun z => h2 (hAA q z))]; exact hS.2.1 q h1 h2, fun q hq => by
      rcases List.mem_append.mp hq with h | h
      · exact hS.2.2 q h
      · exact hAA _ (hL q h)⟩ T' rfl X'
  exact ⟨t2, st t2 a1, b1⟩
theorem Wd_blind {av : List Value} : FrameBlind (va_Pc av (Wd C mm)) := fun a U g mk q =>
  ⟨q.1, q.2.1, va_K.moved (u := U) (U := U.calling g mk a) (Vm.Alike.refl U.vm) q.2.2.1, vk_S.moved (u := U) (U := U.calling g mk a) (Vm.Alike.refl U.vm) q.2.2.2.1, fun i x e => (q.2.2.2.2.1 i x e).same rfl, va_Z.moved (u := U) (U := U.calling g mk a) (Vm.Alike.refl U.vm) q.2.2.2.2.2.1, fun x m => va_Nw.same rfl rfl (q.2.2.2.2.2.2 x m)⟩
theorem Wd_call (B : Bx (p, l, e, R, s, m, args, below, meth, c, Q, C, kc, ks, A, res, mo) own tb nL ret) (hP : va_P C.2.1 zcls (wl C mm) H) (hS : va_S A s.heap H locs) (av : List Value) : ∀ U : State, U.heap = H → s.WarmedH U.vm → va_Pc (av.map (cvv C)) (Wd C mm) (av.map (cvv C)).toArray U := fun U hU hW => ⟨rfl, Wd_end B hP hS hU hW⟩
end BXS
end
section
theorem z_iadd {E : Ev} {own : String} {tb : Tb} {nL : Nat} {ret : Option FieldType} {pc nx : Nat} {lv : Lv} {st : List Value} {mm : Mem} {x y : Int32} (B : Bx E own tb nL ret) (i : Nat) (h : tb[i]? = some (pc, .iadd, 1, nx)) (k : G E nL nx lv (.int (x + y) :: st) mm) : G E nL pc lv (.int y :: .int x :: st) mm := by
  obtain ⟨p, l, e, R, s, m, args, below, meth, c, Q, C, kc, ks, A, res, mo⟩ := E
  obtain ⟨hd, hn⟩ := Bx.dec B h
  subst hn
  intro H locs ls hP hS hl
  exact lv_iadd B.1 rfl hd (k H locs ls hP hS hl)
theorem z_isub {E : Ev} {own : String} {tb : Tb} {nL : Nat} {ret : Option FieldType} {pc nx : Nat} {lv : Lv} {st : List Value} {mm : Mem} {x y : Int32} (B : Bx E own tb nL ret) (i : Nat) (h : tb[i]? = some (pc, .isub, 1, nx)) (k : G E nL nx lv (.int (x - y) :: st) mm) : G E nL pc lv (.int y :: .int x :: st) mm := by
  obtain ⟨p, l, e, R, s, m, args, below, meth, c, Q, C, kc, ks, A, res, mo⟩ := E
  obtain ⟨hd, hn⟩ := Bx.dec B h
  subst hn
  intro H locs ls hP hS hl
  exact lv_isub B.1 rfl hd (k H locs ls hP hS hl)
theorem z_imul {E : Ev} {own : String} {tb : Tb} {nL : Nat} {ret : Option FieldType} {pc nx : Nat} {lv : Lv} {st : List Value} {mm : Mem} {x y : Int32} (B : Bx E own tb nL ret) (i : Nat) (h : tb[i]? = some (pc, .imul, 1, nx)) (k : G E nL nx lv (.int (x * y) :: st) mm) : G E nL pc lv (.int y :: .int x :: st) mm := by
  obtain ⟨p, l, e, R, s, m, args, below, meth, c, Q, C, kc, ks, A, res, mo⟩ := E
  obtain ⟨hd, hn⟩ := Bx.dec B h
  subst hn
  intro H locs ls hP hS hl
  exact lv_imul B.1 rfl hd (k H locs ls hP hS hl)
theorem z_iand {E : Ev} {own : String} {tb : Tb} {nL : Nat} {ret : Option FieldType} {pc nx : Nat} {lv : Lv} {st : List Value} {mm : Mem} {x y : Int32} (B : Bx E own tb nL ret) (i : Nat) (h : tb[i]? = some (pc, .iand, 1, nx)) (k : G E nL nx lv (.int (x &&& y) :: st) mm) : G E nL pc lv (.int y :: .int x :: st) mm := by
  obtain ⟨p, l, e, R, s, m, args, below, meth, c, Q, C, kc, ks, A, res, mo⟩ := E
  obtain ⟨hd, hn⟩ := Bx.dec B h
  subst hn
  intro H locs ls hP hS hl
  exact lv_iand B.1 rfl hd (k H locs ls hP hS hl)
theorem z_ior {E : Ev} {own : String} {tb : Tb} {nL : Nat} {ret : Option FieldType} {pc nx : Nat} {lv : Lv} {st : List Value} {mm : Mem} {x y : Int32} (B : Bx E own tb nL ret) (i : Nat) (h : tb[i]? = some (pc, .ior, 1, nx)) (k : G E nL nx lv (.int (x ||| y) :: st) mm) : G E nL pc lv (.int y :: .int x :: st) mm := by
  obtain ⟨p, l, e, R, s, m, args, below, meth, c, Q, C, kc, ks, A, res, mo⟩ := E
  obtain ⟨hd, hn⟩ := Bx.dec B h
  subst hn
  intro H locs ls hP hS hl
  exact lv_ior B.1 rfl hd (k H locs ls hP hS hl)
theorem z_ishl {E : Ev} {own : String} {tb : Tb} {nL : Nat} {ret : Option FieldType} {pc nx : Nat} {lv : Lv} {st : List Value} {mm : Mem} {x y : Int32} (B : Bx E own tb nL ret) (i : Nat) (h : tb[i]? = some (pc, .ishl, 1, nx)) (k : G E nL nx lv (.int (x <<< (y &&& 31)) :: st) mm) : G E nL pc lv (.int y :: .int x :: st) mm := by
  obtain ⟨p, l, e, R, s, m, args, below, meth, c, Q, C, kc, ks, A, res, mo⟩ := E
  obtain ⟨hd, hn⟩ := Bx.dec B h
  subst hn
  intro H locs ls hP hS hl
  exact lv_ishl B.1 rfl hd (k H locs ls hP hS hl)
theorem z_ishr {E : Ev} {own : String} {tb : Tb} {nL : Nat} {ret : Option FieldType} {pc nx : Nat} {lv : Lv} {st : List Value} {mm : Mem} {x y : Int32} (B : Bx E own tb nL ret) (i : Nat) (h : tb[i]? = some (pc, .ishr, 1, nx)) (k : G E nL nx lv (.int (x >>> (y &&& 31)) :: st) mm) : G E nL pc lv (.int y :: .int x :: st) mm := by
  obtain ⟨p, l, e, R, s, m, args, below, meth, c, Q, C, kc, ks, A, res, mo⟩ := E
  obtain ⟨hd, hn⟩ := Bx.dec B h
  subst hn
  intro H locs ls hP hS hl
  exact lv_ishr B.1 rfl hd (k H locs ls hP hS hl)
theorem z_iushr {E : Ev} {own : String} {tb : Tb} {nL : Nat} {ret : Option FieldType} {pc nx : Nat} {lv : Lv} {st : List Value} {mm : Mem} {x y : Int32} (B : Bx E own tb nL ret) (i : Nat) (h : tb[i]? = some (pc, .iushr, 1, nx)) (k : G E nL nx lv (.int ((x.toUInt32 >>> (y.toUInt32 &&& Int32.toUInt32 31)).toInt32) :: st) mm) : G E nL pc lv (.int y :: .int x :: st) mm := by
  obtain ⟨p, l, e, R, s, m, args, below, meth, c, Q, C, kc, ks, A, res, mo⟩ := E
  obtain ⟨hd, hn⟩ := Bx.dec B h
  subst hn
  intro H locs ls hP hS hl
  exact lv_iushr B.1 rfl hd rfl (k H locs ls hP hS hl)
theorem z_idiv {E : Ev} {own : String} {tb : Tb} {nL : Nat} {ret : Option FieldType} {pc nx : Nat} {lv : Lv} {st : List Value} {mm : Mem} {x y : Int32} (B : Bx E own tb nL ret) (i : Nat) (h : tb[i]? = some (pc, .idiv, 1, nx)) (hy : ¬ y = 0) (k : G E nL nx lv (.int (x / y) :: st) mm) : G E nL pc lv (.int y :: .int x :: st) mm := by
  obtain ⟨p, l, e, R, s, m, args, below, meth, c, Q, C, kc, ks, A, res, mo⟩ := E
  obtain ⟨hd, hn⟩ := Bx.dec B h
  subst hn
  intro H locs ls hP hS hl
  exact lv_idiv B.1 rfl hd hy (k H locs ls hP hS hl)
theorem z_ineg {E : Ev} {own : String} {tb : Tb} {nL : Nat} {ret : Option FieldType} {pc nx : Nat} {lv : Lv} {st : List Value} {mm : Mem} {x : Int32} (B : Bx E own tb nL ret) (i : Nat) (h : tb[i]? = some (pc, .ineg, 1, nx)) (k : G E nL nx lv (.int (-x) :: st) mm) : G E nL pc lv (.int x :: st) mm := by
  obtain ⟨p, l, e, R, s, m, args, below, meth, c, Q, C, kc, ks, A, res, mo⟩ := E
  obtain ⟨hd, hn⟩ := Bx.dec B h
  subst hn
  intro H locs ls hP hS hl
  exact lv_ineg B.1 rfl hd (k H locs ls hP hS hl)
theorem z_i2l {E : Ev} {own : String} {tb : Tb} {nL : Nat} {ret : Option FieldType} {pc nx : Nat} {lv : Lv} {st : List Value} {mm : Mem} {x : Int32} (B : Bx E own tb nL ret) (i : Nat) (h : tb[i]? = some (pc, .i2l, 1, nx)) (k : G E nL nx lv (.long (x.toInt64) :: st) mm) : G E nL pc lv (.int x :: st) mm := by
  obtain ⟨p, l, e, R, s, m, args, below, meth, c, Q, C, kc, ks, A, res, mo⟩ := E
  obtain ⟨hd, hn⟩ := Bx.dec B h
  subst hn
  intro H locs ls hP hS hl
  exact lv_i2l B.1 rfl hd rfl (k H locs ls hP hS hl)
theorem z_ladd {E : Ev} {own : String} {tb : Tb} {nL : Nat} {ret : Option FieldType} {pc nx : Nat} {lv : Lv} {st : List Value} {mm : Mem} {x y : Int64} (B : Bx E own tb nL ret) (i : Nat) (h : tb[i]? = some (pc, .ladd, 1, nx)) (k : G E nL nx lv (.long (x + y) :: st) mm) : G E nL pc lv (.long y :: .long x :: st) mm := by
  obtain ⟨p, l, e, R, s, m, args, below, meth, c, Q, C, kc, ks, A, res, mo⟩ := E
  obtain ⟨hd, hn⟩ := Bx.dec B h
  subst hn
  intro H locs ls hP hS hl
  exact lv_ladd B.1 rfl hd (k H locs ls hP hS hl)
theorem z_lsub {E : Ev} {own : String} {tb : Tb} {nL : Nat} {ret : Option FieldType} {pc nx : Nat} {lv : Lv} {st : List Value} {mm : Mem} {x y : Int64} (B : Bx E own tb nL ret) (i : Nat) (h : tb[i]? = some (pc, .lsub, 1, nx)) (k : G E nL nx lv (.long (x - y) :: st) mm) : G E nL pc lv (.long y :: .long x :: st) mm := by
  obtain ⟨p, l, e, R, s, m, args, below, meth, c, Q, C, kc, ks, A, res, mo⟩ := E
  obtain ⟨hd, hn⟩ := Bx.dec B h
  subst hn
  intro H locs ls hP hS hl
  exact lv_lsub B.1 rfl hd (k H locs ls hP hS hl)
theorem z_lmul {E : Ev} {own : String} {tb : Tb} {nL : Nat} {ret : Option FieldType} {pc nx : Nat} {lv : Lv} {st : List Value} {mm : Mem} {x y : Int64} (B : Bx E own tb nL ret) (i : Nat) (h : tb[i]? = some (pc, .lmul, 1, nx)) (k : G E nL nx lv (.long (x * y) :: st) mm) : G E nL pc lv (.long y :: .long x :: st) mm := by
  obtain ⟨p, l, e, R, s, m, args, below, meth, c, Q, C, kc, ks, A, res, mo⟩ := E
  obtain ⟨hd, hn⟩ := Bx.dec B h
  subst hn
  intro H locs ls hP hS hl
  exact lv_lmul B.1 rfl hd (k H locs ls hP hS hl)
theorem z_lcmp {E : Ev} {own : String} {tb : Tb} {nL : Nat} {ret : Option FieldType} {pc nx : Nat} {lv : Lv} {st : List Value} {mm : Mem} {x y : Int64} (B : Bx E own tb nL ret) (i : Nat) (h : tb[i]? = some (pc, .lcmp, 1, nx)) (k : G E nL nx lv (.int (lg_cmp x y) :: st) mm) : G E nL pc lv (.long y :: .long x :: st) mm := by
  obtain ⟨p, l, e, R, s, m, args, below, meth, c, Q, C, kc, ks, A, res, mo⟩ := E
  obtain ⟨hd, hn⟩ := Bx.dec B h
  subst hn
  intro H locs ls hP hS hl
  exact W.lcmp B.1 rfl hd (k H locs ls hP hS hl)
theorem z_iconst {E : Ev} {own : String} {tb : Tb} {nL : Nat} {ret : Option FieldType} {pc nx : Nat} {lv : Lv} {st : List Value} {mm : Mem} {n : Int} (v : Int32) (B : Bx E own tb nL ret) (i : Nat) (h : tb[i]? = some (pc, .iconst n, 1, nx)) (hv : Int32.ofInt n = v) (k : G E nL nx lv (.int v :: st) mm) : G E nL pc lv st mm := by
  obtain ⟨p, l, e, R, s, m, args, below, meth, c, Q, C, kc, ks, A, res, mo⟩ := E
  obtain ⟨hd, hn⟩ := Bx.dec B h
  subst hn
  intro H locs ls hP hS hl
  exact lv_iconst B.1 rfl hd hv (k H locs ls hP hS hl)
theorem z_bipush {E : Ev} {own : String} {tb : Tb} {nL : Nat} {ret : Option FieldType} {pc nx : Nat} {lv : Lv} {st : List Value} {mm : Mem} {n : Int} (v : Int32) (B : Bx E own tb nL ret) (i : Nat) (h : tb[i]? = some (pc, .bipush n, 2, nx)) (hv : (Int8.ofInt n).toInt32 = v) (k : G E nL nx lv (.int v :: st) mm) : G E nL pc lv st mm := by
  obtain ⟨p, l, e, R, s, m, args, below, meth, c, Q, C, kc, ks, A, res, mo⟩ := E
  obtain ⟨hd, hn⟩ := Bx.dec B h
  subst hn
  intro H locs ls hP hS hl
  exact lv_bipush B.1 rfl hd hv (k H locs ls hP hS hl)
theorem z_sipush {E : Ev} {own : String} {tb : Tb} {nL : Nat} {ret : Option FieldType} {pc nx : Nat} {lv : Lv} {st : List Value} {mm : Mem} {n : Int} (v : Int32) (B : Bx E own tb nL ret) (i : Nat) (h : tb[i]? = some (pc, .sipush n, 3, nx)) (hv : (Int16.ofInt n).toInt32 = v) (k : G E nL nx lv (.int v :: st) mm) : G E nL pc lv st mm := by
  obtain ⟨p, l, e, R, s, m, args, below, meth, c, Q, C, kc, ks, A, res, mo⟩ := E
  obtain ⟨hd, hn⟩ := Bx.dec B h
  subst hn
  intro H locs ls hP hS hl
  exact lv_sipush B.1 rfl hd hv (k H locs ls hP hS hl)
theorem z_lconst {E : Ev} {own : String} {tb : Tb} {nL : Nat} {ret : Option FieldType} {pc nx : Nat} {lv : Lv} {st : List Value} {mm : Mem} {n : Fin 2} (v : Int64) (B : Bx E own tb nL ret) (i : Nat) (h : tb[i]? = some (pc, .lconst n, 1, nx)) (hv : Int64.ofNat (n : Nat) = v) (k : G E nL nx lv (.long v :: st) mm) : G E nL pc lv st mm := by
  obtain ⟨p, l, e, R, s, m, args, below, meth, c, Q, C, kc, ks, A, res, mo⟩ := E
  obtain ⟨hd, hn⟩ := Bx.dec B h
  subst hn
  intro H locs ls hP hS hl
  exact lv_lconst B.1 rfl hd hv (k H locs ls hP hS hl)
theorem z_ldc {E : Ev} {own : String} {tb : Tb} {nL : Nat} {ret : Option FieldType} {pc nx : Nat} {lv : Lv} {st : List Value} {mm : Mem} {n : Nat} (v : Int32) (B : Bx E own tb nL ret) (i : Nat) (h : tb[i]? = some (pc, .ldc n, 2, nx)) (hw : Cond.constant own n v ∈ TW) (k : G E nL nx lv (.int v :: st) mm) : G E nL pc lv st mm := by
  obtain ⟨p, l, e, R, s, m, args, below, meth, c, Q, C, kc, ks, A, res, mo⟩ := E
  obtain ⟨hd, hn⟩ := Bx.dec B h
  subst hn
  intro H locs ls hP hS hl
  exact lv_ldc B.1 rfl B.hown (B.tw _ hw) hd (k H locs ls hP hS hl)
theorem z_ldc2 {E : Ev} {own : String} {tb : Tb} {nL : Nat} {ret : Option FieldType} {pc nx : Nat} {lv : Lv} {st : List Value} {mm : Mem} {n : Nat} (v : Int64) (B : Bx E own tb nL ret) (i : Nat) (h : tb[i]? = some (pc, .ldc2_w n, 3, nx)) (hw : Cond.constantLong own n v ∈ TW) (k : G E nL nx lv (.long v :: st) mm) : G E nL pc lv st mm := by
  obtain ⟨p, l, e, R, s, m, args, below, meth, c, Q, C, kc, ks, A, res, mo⟩ := E
  obtain ⟨hd, hn⟩ := Bx.dec B h
  subst hn
  intro H locs ls hP hS hl
  exact lv_ldc2 B.1 rfl B.hown (B.tw _ hw) hd (k H locs ls hP hS hl)
theorem z_iload_n {E : Ev} {own : String} {tb : Tb} {nL : Nat} {ret : Option FieldType} {pc nx : Nat} {lv : Lv} {st : List Value} {mm : Mem} {x : Int32} {kk : Fin 4} (B : Bx E own tb nL ret) (i : Nat) (h : tb[i]? = some (pc, .iload_n kk, 1, nx)) (q j : Nat) (hq : (kk : Nat) = q) (hj : lv[j]? = some (q, .int x)) (k : G E nL nx lv (.int x :: st) mm) : G E nL pc lv st mm := by
  obtain ⟨p, l, e, R, s, m, args, below, meth, c, Q, C, kc, ks, A, res, mo⟩ := E
  obtain ⟨hd, hn⟩ := Bx.dec B h
  subst hn
  intro H locs ls hP hS hl
  exact lv_iload_n B.1 rfl hd hq (lv_at hl j (lvm hj)) (k H locs ls hP hS hl)
theorem z_iload {E : Ev} {own : String} {tb : Tb} {nL : Nat} {ret : Option FieldType} {pc nx : Nat} {lv : Lv} {st : List Value} {mm : Mem} {x : Int32} {q : Nat} (B : Bx E own tb nL ret) (i : Nat) (h : tb[i]? = some (pc, .iload q, 2, nx)) (j : Nat) (hj : lv[j]? = some (q, .int x)) (k : G E nL nx lv (.int x :: st) mm) : G E nL pc lv st mm := by
  obtain ⟨p, l, e, R, s, m, args, below, meth, c, Q, C, kc, ks, A, res, mo⟩ := E
  obtain ⟨hd, hn⟩ := Bx.dec B h
  subst hn
  intro H locs ls hP hS hl
  exact lv_iload B.1 rfl hd (lv_at hl j (lvm hj)) (k H locs ls hP hS hl)
theorem z_lload_n {E : Ev} {own : String} {tb : Tb} {nL : Nat} {ret : Option FieldType} {pc nx : Nat} {lv : Lv} {st : List Value} {mm : Mem} {x : Int64} {kk : Fin 4} (B : Bx E own tb nL ret) (i : Nat) (h : tb[i]? = some (pc, .lload_n kk, 1, nx)) (q j : Nat) (hq : (kk : Nat) = q) (hj : lv[j]? = some (q, .long x)) (k : G E nL nx lv (.long x :: st) mm) : G E nL pc lv st mm := by
  obtain ⟨p, l, e, R, s, m, args, below, meth, c, Q, C, kc, ks, A, res, mo⟩ := E
  obtain ⟨hd, hn⟩ := Bx.dec B h
  subst hn
  intro H locs ls hP hS hl
  exact lv_lload_n B.1 rfl hd hq (lv_at hl j (lvm hj)) (k H locs ls hP hS hl)
theorem z_lload {E : Ev} {own : String} {tb : Tb} {nL : Nat} {ret : Option FieldType} {pc nx : Nat} {lv : Lv} {st : List Value} {mm : Mem} {x : Int64} {q : Nat} (B : Bx E own tb nL ret) (i : Nat) (h : tb[i]? = some (pc, .lload q, 2, nx)) (j : Nat) (hj : lv[j]? = some (q, .long x)) (k : G E nL nx lv (.long x :: st) mm) : G E nL pc lv st mm := by
  obtain ⟨p, l, e, R, s, m, args, below, meth, c, Q, C, kc, ks, A, res, mo⟩ := E
  obtain ⟨hd, hn⟩ := Bx.dec B h
  subst hn
  intro H locs ls hP hS hl
  exact lv_lload B.1 rfl hd (lv_at hl j (lvm hj)) (k H locs ls hP hS hl)
theorem z_aload_n {E : Ev} {own : String} {tb : Tb} {nL : Nat} {ret : Option FieldType} {pc nx : Nat} {lv : Lv} {st : List Value} {mm : Mem} {x : Nat} {kk : Fin 4} (B : Bx E own tb nL ret) (i : Nat) (h : tb[i]? = some (pc, .aload_n kk, 1, nx)) (q j : Nat) (hq : (kk : Nat) = q) (hj : lv[j]? = some (q, .ref x)) (k : G E nL nx lv (.ref x :: st) mm) : G E nL pc lv st mm := by
  obtain ⟨p, l, e, R, s, m, args, below, meth, c, Q, C, kc, ks, A, res, mo⟩ := E
  obtain ⟨hd, hn⟩ := Bx.dec B h
  subst hn
  intro H locs ls hP hS hl
  exact lv_aload_n B.1 rfl hd hq (lv_at hl j (lvm hj)) (k H locs ls hP hS hl)
theorem z_aload {E : Ev} {own : String} {tb : Tb} {nL : Nat} {ret : Option FieldType} {pc nx : Nat} {lv : Lv} {st : List Value} {mm : Mem} {x : Nat} {q : Nat} (B : Bx E own tb nL ret) (i : Nat) (h : tb[i]? = some (pc, .aload q, 2, nx)) (j : Nat) (hj : lv[j]? = some (q, .ref x)) (k : G E nL nx lv (.ref x :: st) mm) : G E nL pc lv st mm := by
  obtain ⟨p, l, e, R, s, m, args, below, meth, c, Q, C, kc, ks, A, res, mo⟩ := E
  obtain ⟨hd, hn⟩ := Bx.dec B h
  subst hn
  intro H locs ls hP hS hl
  exact lv_aload B.1 rfl hd (lv_at hl j (lvm hj)) (k H locs ls hP hS hl)
theorem z_istore_n {E : Ev} {own : String} {tb : Tb} {nL : Nat} {ret : Option FieldType} {pc nx : Nat} {lv : Lv} {st : List Value} {mm : Mem} {x : Int32} {kk : Fin 4} (lv' : Lv) (B : Bx E own tb nL ret) (i : Nat) (h : tb[i]? = some (pc, .istore_n kk, 1, nx)) (q : Nat) (hq : (kk : Nat) = q) (hn : q < nL) (hl' : zs1 lv q (.int x) = lv') (k : G E nL nx lv' st mm) : G E nL pc lv (.int x :: st) mm := by
  subst hl'
  obtain ⟨p, l, e, R, s, m, args, below, meth, c, Q, C, kc, ks, A, res, mo⟩ := E
  obtain ⟨hd, hn⟩ := Bx.dec B h
  subst hn
  intro H locs ls hP hS hl
  exact lv_istore_n B.1 rfl hd hq hl hn (zs1_map C lv q (.int x)) (fun ls' hl' => k H locs ls' hP hS hl')
theorem z_istore {E : Ev} {own : String} {tb : Tb} {nL : Nat} {ret : Option FieldType} {pc nx : Nat} {lv : Lv} {st : List Value} {mm : Mem} {x : Int32} {q : Nat} (lv' : Lv) (B : Bx E own tb nL ret) (i : Nat) (h : tb[i]? = some (pc, .istore q, 2, nx)) (hn : q < nL) (hl' : zs1 lv q (.int x) = lv') (k : G E nL nx lv' st mm) : G E nL pc lv (.int x :: st) mm := by
  subst hl'
  obtain ⟨p, l, e, R, s, m, args, below, meth, c, Q, C, kc, ks, A, res, mo⟩ := E
  obtain ⟨hd, hn⟩ := Bx.dec B h
  subst hn
  intro H locs ls hP hS hl
  exact lv_istore B.1 rfl hd hl hn (zs1_map C lv q (.int x)) (fun ls' hl' => k H locs ls' hP hS hl')
theorem z_astore_n {E : Ev} {own : String} {tb : Tb} {nL : Nat} {ret : Option FieldType} {pc nx : Nat} {lv : Lv} {st : List Value} {mm : Mem} {x : Nat} {kk : Fin 4} (lv' : Lv) (B : Bx E own tb nL ret) (i : Nat) (h : tb[i]? = some (pc, .astore_n kk, 1, nx)) (q : Nat) (hq : (kk : Nat) = q) (hn : q < nL) (hl' : zs1 lv q (.ref x) = lv') (k : G E nL nx lv' st mm) : G E nL pc lv (.ref x :: st) mm := by
  subst hl'
  obtain ⟨p, l, e, R, s, m, args, below, meth, c, Q, C, kc, ks, A, res, mo⟩ := E
  obtain ⟨hd, hn⟩ := Bx.dec B h
  subst hn
  intro H locs ls hP hS hl
  exact lv_astore_n B.1 rfl hd hq hl hn (zs1_map C lv q (.ref x)) (fun ls' hl' => k H locs ls' hP hS hl')
theorem z_astore {E : Ev} {own : String} {tb : Tb} {nL : Nat} {ret : Option FieldType} {pc nx : Nat} {lv : Lv} {st : List Value} {mm : Mem} {x : Nat} {q : Nat} (lv' : Lv) (B : Bx E own tb nL ret) (i : Nat) (h : tb[i]? = some (pc, .astore q, 2, nx)) (hn : q < nL) (hl' : zs1 lv q (.ref x) = lv') (k : G E nL nx lv' st mm) : G E nL pc lv (.ref x :: st) mm := by
  subst hl'
  obtain ⟨p, l, e, R, s, m, args, below, meth, c, Q, C, kc, ks, A, res, mo⟩ := E
  obtain ⟨hd, hn⟩ := Bx.dec B h
  subst hn
  intro H locs ls hP hS hl
  exact lv_astore B.1 rfl hd hl hn (zs1_map C lv q (.ref x)) (fun ls' hl' => k H locs ls' hP hS hl')
theorem z_lstore_n {E : Ev} {own : String} {tb : Tb} {nL : Nat} {ret : Option FieldType} {pc nx : Nat} {lv : Lv} {st : List Value} {mm : Mem} {x : Int64} {kk : Fin 4} (lv' : Lv) (B : Bx E own tb nL ret) (i : Nat) (h : tb[i]? = some (pc, .lstore_n kk, 1, nx)) (q : Nat) (hq : (kk : Nat) = q) (hn : q + 1 < nL) (hl' : zs2 lv q (.long x) = lv') (k : G E nL nx lv' st mm) : G E nL pc lv (.long x :: st) mm := by
  subst hl'
  obtain ⟨p, l, e, R, s, m, args, below, meth, c, Q, C, kc, ks, A, res, mo⟩ := E
  obtain ⟨hd, hn⟩ := Bx.dec B h
  subst hn
  intro H locs ls hP hS hl
  exact lv_lstore_n B.1 rfl hd hq hl hn (zs2_map C lv q (.long x)) (fun ls' hl' => k H locs ls' hP hS hl')
theorem z_lstore {E : Ev} {own : String} {tb : Tb} {nL : Nat} {ret : Option FieldType} {pc nx : Nat} {lv : Lv} {st : List Value} {mm : Mem} {x : Int64} {q : Nat} (lv' : Lv) (B : Bx E own tb nL ret) (i : Nat) (h : tb[i]? = some (pc, .lstore q, 2, nx)) (hn : q + 1 < nL) (hl' : zs2 lv q (.long x) = lv') (k : G E nL nx lv' st mm) : G E nL pc lv (.long x :: st) mm := by
  subst hl'
  obtain ⟨p, l, e, R, s, m, args, below, meth, c, Q, C, kc, ks, A, res, mo⟩ := E
  obtain ⟨hd, hn⟩ := Bx.dec B h
  subst hn
  intro H locs ls hP hS hl
  exact lv_lstore B.1 rfl hd hl hn (zs2_map C lv q (.long x)) (fun ls' hl' => k H locs ls' hP hS hl')
theorem z_iinc {E : Ev} {own : String} {tb : Tb} {nL : Nat} {ret : Option FieldType} {pc nx : Nat} {lv : Lv} {st : List Value} {mm : Mem} {x : Int32} {q : Nat} {n : Int} (v : Int32) (lv' : Lv) (B : Bx E own tb nL ret) (i : Nat) (h : tb[i]? = some (pc, .iinc q n, 3, nx)) (j : Nat) (hj : lv[j]? = some (q, .int x)) (hv : x + Int32.ofInt n = v) (hn : q < nL) (hl' : zs1 lv q (.int v) = lv') (k : G E nL nx lv' st mm) : G E nL pc lv st mm := by
  subst hl'
  obtain ⟨p, l, e, R, s, m, args, below, meth, c, Q, C, kc, ks, A, res, mo⟩ := E
  obtain ⟨hd, hn⟩ := Bx.dec B h
  subst hn
  intro H locs ls hP hS hl
  exact lv_iinc B.1 rfl hd hl (lvm hj) hv hn (zs1_map C lv q (.int v)) (fun ls' hl' => k H locs ls' hP hS hl')
theorem z_dup {E : Ev} {own : String} {tb : Tb} {nL : Nat} {ret : Option FieldType} {pc nx : Nat} {lv : Lv} {st : List Value} {mm : Mem} {v : Value} (B : Bx E own tb nL ret) (i : Nat) (h : tb[i]? = some (pc, .dup, 1, nx)) (hv : v.category = 1) (k : G E nL nx lv (v :: v :: st) mm) : G E nL pc lv (v :: st) mm := by
  obtain ⟨p, l, e, R, s, m, args, below, meth, c, Q, C, kc, ks, A, res, mo⟩ := E
  obtain ⟨hd, hn⟩ := Bx.dec B h
  subst hn
  intro H locs ls hP hS hl
  exact lv_dup B.1 rfl hd ((cvv_cat C v).trans hv) (k H locs ls hP hS hl)
theorem z_pop {E : Ev} {own : String} {tb : Tb} {nL : Nat} {ret : Option FieldType} {pc nx : Nat} {lv : Lv} {st : List Value} {mm : Mem} {v : Value} (B : Bx E own tb nL ret) (i : Nat) (h : tb[i]? = some (pc, .pop, 1, nx)) (hv : v.category = 1) (k : G E nL nx lv st mm) : G E nL pc lv (v :: st) mm := by
  obtain ⟨p, l, e, R, s, m, args, below, meth, c, Q, C, kc, ks, A, res, mo⟩ := E
  obtain ⟨hd, hn⟩ := Bx.dec B h
  subst hn
  intro H locs ls hP hS hl
  exact lv_pop B.1 rfl hd ((cvv_cat C v).trans hv) (k H locs ls hP hS hl)
theorem z_dup2 {E : Ev} {own : String} {tb : Tb} {nL : Nat} {ret : Option FieldType} {pc nx : Nat} {lv : Lv} {st : List Value} {mm : Mem} {v w : Value} (B : Bx E own tb nL ret) (i : Nat) (h : tb[i]? = some (pc, .dup2, 1, nx)) (hv : v.category = 1) (hw : w.category = 1) (k : G E nL nx lv (v :: w :: v :: w :: st) mm) : G E nL pc lv (v :: w :: st) mm := by
  obtain ⟨p, l, e, R, s, m, args, below, meth, c, Q, C, kc, ks, A, res, mo⟩ := E
  obtain ⟨hd, hn⟩ := Bx.dec B h
  subst hn
  intro H locs ls hP hS hl
  exact lv_dup2_11 B.1 rfl hd ((cvv_cat C v).trans hv) ((cvv_cat C w).trans hw) (k H locs ls hP hS hl)
theorem z_goto {E : Ev} {own : String} {tb : Tb} {nL : Nat} {ret : Option FieldType} {pc nx : Nat} {lv : Lv} {st : List Value} {mm : Mem} {off : Int} (B : Bx E own tb nL ret) (i : Nat) (h : tb[i]? = some (pc, .goto off, 3, nx)) (tgt : Nat) (ht : (pc : Int) + off = (tgt : Int)) (k : G E nL tgt lv st mm) : G E nL pc lv st mm := by
  obtain ⟨p, l, e, R, s, m, args, below, meth, c, Q, C, kc, ks, A, res, mo⟩ := E
  obtain ⟨hd, hn⟩ := Bx.dec B h
  subst hn
  intro H locs ls hP hS hl
  exact lv_goto B.1 rfl hd ht (k H locs ls hP hS hl)
theorem z_if_eq_t {E : Ev} {own : String} {tb : Tb} {nL : Nat} {ret : Option FieldType} {pc nx : Nat} {lv : Lv} {st : List Value} {mm : Mem} {x : Int32} {off : Int} (B : Bx E own tb nL ret) (i : Nat) (h : tb[i]? = some (pc, .ifCond .eq off, 3, nx)) (tgt : Nat) (ht : (pc : Int) + off = (tgt : Int)) (hc : x = 0) (k : G E nL tgt lv st mm) : G E nL pc lv (.int x :: st) mm := by
  obtain ⟨p, l, e, R, s, m, args, below, meth, c, Q, C, kc, ks, A, res, mo⟩ := E
  obtain ⟨hd, hn⟩ := Bx.dec B h
  subst hn
  intro H locs ls hP hS hl
  exact lv_if_eq B.1 rfl hd ht (fun _ => k H locs ls hP hS hl) (fun q => absurd (hc) q)
theorem z_if_eq_f {E : Ev} {own : String} {tb : Tb} {nL : Nat} {ret : Option FieldType} {pc nx : Nat} {lv : Lv} {st : List Value} {mm : Mem} {x : Int32} {off : Int} (B : Bx E own tb nL ret) (i : Nat) (h : tb[i]? = some (pc, .ifCond .eq off, 3, nx)) (tgt : Nat) (ht : (pc : Int) + off = (tgt : Int)) (hc : ¬ x = 0) (k : G E nL nx lv st mm) : G E nL pc lv (.int x :: st) mm := by
  obtain ⟨p, l, e, R, s, m, args, below, meth, c, Q, C, kc, ks, A, res, mo⟩ := E
  obtain ⟨hd, hn⟩ := Bx.dec B h
  subst hn
  intro H locs ls hP hS hl
  exact lv_if_eq B.1 rfl hd ht (fun q => absurd q (hc)) (fun _ => k H locs ls hP hS hl)
theorem z_icmp_eq_t {E : Ev} {own : String} {tb : Tb} {nL : Nat} {ret : Option FieldType} {pc nx : Nat} {lv : Lv} {st : List Value} {mm : Mem} {x y : Int32} {off : Int} (B : Bx E own tb nL ret) (i : Nat) (h : tb[i]? = some (pc, .if_icmp .eq off, 3, nx)) (tgt : Nat) (ht : (pc : Int) + off = (tgt : Int)) (hc : x = y) (k : G E nL tgt lv st mm) : G E nL pc lv (.int y :: .int x :: st) mm := by
  obtain ⟨p, l, e, R, s, m, args, below, meth, c, Q, C, kc, ks, A, res, mo⟩ := E
  obtain ⟨hd, hn⟩ := Bx.dec B h
  subst hn
  intro H locs ls hP hS hl
  exact lv_icmp_eq B.1 rfl hd ht (fun _ => k H locs ls hP hS hl) (fun q => absurd (hc) q)
theorem z_icmp_eq_f {E : Ev} {own : String} {tb : Tb} {nL : Nat} {ret : Option FieldType} {pc nx : Nat} {lv : Lv} {st : List Value} {mm : Mem} {x y : Int32} {off : Int} (B : Bx E own tb nL ret) (i : Nat) (h : tb[i]? = some (pc, .if_icmp .eq off, 3, nx)) (tgt : Nat) (ht : (pc : Int) + off = (tgt : Int)) (hc : ¬ x = y) (k : G E nL nx lv st mm) : G E nL pc lv (.int y :: .int x :: st) mm := by
  obtain ⟨p, l, e, R, s, m, args, below, meth, c, Q, C, kc, ks, A, res, mo⟩ := E
  obtain ⟨hd, hn⟩ := Bx.dec B h
  subst hn
  intro H locs ls hP hS hl
  exact lv_icmp_eq B.1 rfl hd ht (fun q => absurd q (hc)) (fun _ => k H locs ls hP hS hl)
theorem z_if_ne_t {E : Ev} {own : String} {tb : Tb} {nL : Nat} {ret : Option FieldType} {pc nx : Nat} {lv : Lv} {st : List Value} {mm : Mem} {x : Int32} {off : Int} (B : Bx E own tb nL ret) (i : Nat) (h : tb[i]? = some (pc, .ifCond .ne off, 3, nx)) (tgt : Nat) (ht : (pc : Int) + off = (tgt : Int)) (hc : ¬ x = 0) (k : G E nL tgt lv st mm) : G E nL pc lv (.int x :: st) mm := by
  obtain ⟨p, l, e, R, s, m, args, below, meth, c, Q, C, kc, ks, A, res, mo⟩ := E
  obtain ⟨hd, hn⟩ := Bx.dec B h
  subst hn
  intro H locs ls hP hS hl
  exact lv_if_ne B.1 rfl hd ht (fun _ => k H locs ls hP hS hl) (fun q => absurd q hc)
theorem z_if_ne_f {E : Ev} {own : String} {tb : Tb} {nL : Nat} {ret : Option FieldType} {pc nx : Nat} {lv : Lv} {st : List Value} {mm : Mem} {x : Int32} {off : Int} (B : Bx E own tb nL ret) (i : Nat) (h : tb[i]? = some (pc, .ifCond .ne off, 3, nx)) (tgt : Nat) (ht : (pc : Int) + off = (tgt : Int)) (hc : x = 0) (k : G E nL nx lv st mm) : G E nL pc lv (.int x :: st) mm := by
  obtain ⟨p, l, e, R, s, m, args, below, meth, c, Q, C, kc, ks, A, res, mo⟩ := E
  obtain ⟨hd, hn⟩ := Bx.dec B h
  subst hn
  intro H locs ls hP hS hl
  exact lv_if_ne B.1 rfl hd ht (fun q => absurd q (fun z => z hc)) (fun _ => k H locs ls hP hS hl)
theorem z_icmp_ne_t {E : Ev} {own : String} {tb : Tb} {nL : Nat} {ret : Option FieldType} {pc nx : Nat} {lv : Lv} {st : List Value} {mm : Mem} {x y : Int32} {off : Int} (B : Bx E own tb nL ret) (i : Nat) (h : tb[i]? = some (pc, .if_icmp .ne off, 3, nx)) (tgt : Nat) (ht : (pc : Int) + off = (tgt : Int)) (hc : ¬ x = y) (k : G E nL tgt lv st mm) : G E nL pc lv (.int y :: .int x :: st) mm := by
  obtain ⟨p, l, e, R, s, m, args, below, meth, c, Q, C, kc, ks, A, res, mo⟩ := E
  obtain ⟨hd, hn⟩ := Bx.dec B h
  subst hn
  intro H locs ls hP hS hl
  exact lv_icmp_ne B.1 rfl hd ht (fun _ => k H locs ls hP hS hl) (fun q => absurd q hc)
theorem z_icmp_ne_f {E : Ev} {own : String} {tb : Tb} {nL : Nat} {ret : Option FieldType} {pc nx : Nat} {lv : Lv} {st : List Value} {mm : Mem} {x y : Int32} {off : Int} (B : Bx E own tb nL ret) (i : Nat) (h : tb[i]? = some (pc, .if_icmp .ne off, 3, nx)) (tgt : Nat) (ht : (pc : Int) + off = (tgt : Int)) (hc : x = y) (k : G E nL nx lv st mm) : G E nL pc lv (.int y :: .int x :: st) mm := by
  obtain ⟨p, l, e, R, s, m, args, below, meth, c, Q, C, kc, ks, A, res, mo⟩ := E
  obtain ⟨hd, hn⟩ := Bx.dec B h
  subst hn
  intro H locs ls hP hS hl
  exact lv_icmp_ne B.1 rfl hd ht (fun q => absurd q (fun z => z hc)) (fun _ => k H locs ls hP hS hl)
theorem z_if_lt_t {E : Ev} {own : String} {tb : Tb} {nL : Nat} {ret : Option FieldType} {pc nx : Nat} {lv : Lv} {st : List Value} {mm : Mem} {x : Int32} {off : Int} (B : Bx E own tb nL ret) (i : Nat) (h : tb[i]? = some (pc, .ifCond .lt off, 3, nx)) (tgt : Nat) (ht : (pc : Int) + off = (tgt : Int)) (hc : x < 0) (k : G E nL tgt lv st mm) : G E nL pc lv (.int x :: st) mm := by
  obtain ⟨p, l, e, R, s, m, args, below, meth, c, Q, C, kc, ks, A, res, mo⟩ := E
  obtain ⟨hd, hn⟩ := Bx.dec B h
  subst hn
  intro H locs ls hP hS hl
  exact lv_if_lt B.1 rfl hd ht (fun _ => k H locs ls hP hS hl) (fun q => absurd (hc) q)
theorem z_if_lt_f {E : Ev} {own : String} {tb : Tb} {nL : Nat} {ret : Option FieldType} {pc nx : Nat} {lv : Lv} {st : List Value} {mm : Mem} {x : Int32} {off : Int} (B : Bx E own tb nL ret) (i : Nat) (h : tb[i]? = some (pc, .ifCond .lt off, 3, nx)) (tgt : Nat) (ht : (pc : Int) + off = (tgt : Int)) (hc : ¬ x < 0) (k : G E nL nx lv st mm) : G E nL pc lv (.int x :: st) mm := by
  obtain ⟨p, l, e, R, s, m, args, below, meth, c, Q, C, kc, ks, A, res, mo⟩ := E
  obtain ⟨hd, hn⟩ := Bx.dec B h
  subst hn
  intro H locs ls hP hS hl
  exact lv_if_lt B.1 rfl hd ht (fun q => absurd q (hc)) (fun _ => k H locs ls hP hS hl)
theorem z_icmp_lt_t {E : Ev} {own : String} {tb : Tb} {nL : Nat} {ret : Option FieldType} {pc nx : Nat} {lv : Lv} {st : List Value} {mm : Mem} {x y : Int32} {off : Int} (B : Bx E own tb nL ret) (i : Nat) (h : tb[i]? = some (pc, .if_icmp .lt off, 3, nx)) (tgt : Nat) (ht : (pc : Int) + off = (tgt : Int)) (hc : x < y) (k : G E nL tgt lv st mm) : G E nL pc lv (.int y :: .int x :: st) mm := by
  obtain ⟨p, l, e, R, s, m, args, below, meth, c, Q, C, kc, ks, A, res, mo⟩ := E
  obtain ⟨hd, hn⟩ := Bx.dec B h
  subst hn
  intro H locs ls hP hS hl
  exact lv_icmp_lt B.1 rfl hd ht (fun _ => k H locs ls hP hS hl) (fun q => absurd (hc) q)
theorem z_icmp_lt_f {E : Ev} {own : String} {tb : Tb} {nL : Nat} {ret : Option FieldType} {pc nx : Nat} {lv : Lv} {st : List Value} {mm : Mem} {x y : Int32} {off : Int} (B : Bx E own tb nL ret) (i : Nat) (h : tb[i]? = some (pc, .if_icmp .lt off, 3, nx)) (tgt : Nat) (ht : (pc : Int) + off = (tgt : Int)) (hc : ¬ x < y) (k : G E nL nx lv st mm) : G E nL pc lv (.int y :: .int x :: st) mm := by
  obtain ⟨p, l, e, R, s, m, args, below, meth, c, Q, C, kc, ks, A, res, mo⟩ := E
  obtain ⟨hd, hn⟩ := Bx.dec B h
  subst hn
  intro H locs ls hP hS hl
  exact lv_icmp_lt B.1 rfl hd ht (fun q => absurd q (hc)) (fun _ => k H locs ls hP hS hl)
theorem z_if_ge_t {E : Ev} {own : String} {tb : Tb} {nL : Nat} {ret : Option FieldType} {pc nx : Nat} {lv : Lv} {st : List Value} {mm : Mem} {x : Int32} {off : Int} (B : Bx E own tb nL ret) (i : Nat) (h : tb[i]? = some (pc, .ifCond .ge off, 3, nx)) (tgt : Nat) (ht : (pc : Int) + off = (tgt : Int)) (hc : ¬ x < 0) (k : G E nL tgt lv st mm) : G E nL pc lv (.int x :: st) mm := by
  obtain ⟨p, l, e, R, s, m, args, below, meth, c, Q, C, kc, ks, A, res, mo⟩ := E
  obtain ⟨hd, hn⟩ := Bx.dec B h
  subst hn
  intro H locs ls hP hS hl
  exact lv_if_ge B.1 rfl hd ht (fun _ => k H locs ls hP hS hl) (fun q => absurd (i32_nlt hc) q)
theorem z_if_ge_f {E : Ev} {own : String} {tb : Tb} {nL : Nat} {ret : Option FieldType} {pc nx : Nat} {lv : Lv} {st : List Value} {mm : Mem} {x : Int32} {off : Int} (B : Bx E own tb nL ret) (i : Nat) (h : tb[i]? = some (pc, .ifCond .ge off, 3, nx)) (tgt : Nat) (ht : (pc : Int) + off = (tgt : Int)) (hc : x < 0) (k : G E nL nx lv st mm) : G E nL pc lv (.int x :: st) mm := by
  obtain ⟨p, l, e, R, s, m, args, below, meth, c, Q, C, kc, ks, A, res, mo⟩ := E
  obtain ⟨hd, hn⟩ := Bx.dec B h
  subst hn
  intro H locs ls hP hS hl
  exact lv_if_ge B.1 rfl hd ht (fun q => absurd q (fun z => absurd hc (i32_nlt2 z))) (fun _ => k H locs ls hP hS hl)
theorem z_icmp_ge_t {E : Ev} {own : String} {tb : Tb} {nL : Nat} {ret : Option FieldType} {pc nx : Nat} {lv : Lv} {st : List Value} {mm : Mem} {x y : Int32} {off : Int} (B : Bx E own tb nL ret) (i : Nat) (h : tb[i]? = some (pc, .if_icmp .ge off, 3, nx)) (tgt : Nat) (ht : (pc : Int) + off = (tgt : Int)) (hc : ¬ x < y) (k : G E nL tgt lv st mm) : G E nL pc lv (.int y :: .int x :: st) mm := by
  obtain ⟨p, l, e, R, s, m, args, below, meth, c, Q, C, kc, ks, A, res, mo⟩ := E
  obtain ⟨hd, hn⟩ := Bx.dec B h
  subst hn
  intro H locs ls hP hS hl
  exact lv_icmp_ge B.1 rfl hd ht (fun _ => k H locs ls hP hS hl) (fun q => absurd (i32_nlt hc) q)
theorem z_icmp_ge_f {E : Ev} {own : String} {tb : Tb} {nL : Nat} {ret : Option FieldType} {pc nx : Nat} {lv : Lv} {st : List Value} {mm : Mem} {x y : Int32} {off : Int} (B : Bx E own tb nL ret) (i : Nat) (h : tb[i]? = some (pc, .if_icmp .ge off, 3, nx)) (tgt : Nat) (ht : (pc : Int) + off = (tgt : Int)) (hc : x < y) (k : G E nL nx lv st mm) : G E nL pc lv (.int y :: .int x :: st) mm := by
  obtain ⟨p, l, e, R, s, m, args, below, meth, c, Q, C, kc, ks, A, res, mo⟩ := E
  obtain ⟨hd, hn⟩ := Bx.dec B h
  subst hn
  intro H locs ls hP hS hl
  exact lv_icmp_ge B.1 rfl hd ht (fun q => absurd q (fun z => absurd hc (i32_nlt2 z))) (fun _ => k H locs ls hP hS hl)
theorem z_if_gt_t {E : Ev} {own : String} {tb : Tb} {nL : Nat} {ret : Option FieldType} {pc nx : Nat} {lv : Lv} {st : List Value} {mm : Mem} {x : Int32} {off : Int} (B : Bx E own tb nL ret) (i : Nat) (h : tb[i]? = some (pc, .ifCond .gt off, 3, nx)) (tgt : Nat) (ht : (pc : Int) + off = (tgt : Int)) (hc : 0 < x) (k : G E nL tgt lv st mm) : G E nL pc lv (.int x :: st) mm := by
  obtain ⟨p, l, e, R, s, m, args, below, meth, c, Q, C, kc, ks, A, res, mo⟩ := E
  obtain ⟨hd, hn⟩ := Bx.dec B h
  subst hn
  intro H locs ls hP hS hl
  exact lv_if_gt B.1 rfl hd ht (fun _ => k H locs ls hP hS hl) (fun q => absurd (hc) q)
theorem z_if_gt_f {E : Ev} {own : String} {tb : Tb} {nL : Nat} {ret : Option FieldType} {pc nx : Nat} {lv : Lv} {st : List Value} {mm : Mem} {x : Int32} {off : Int} (B : Bx E own tb nL ret) (i : Nat) (h : tb[i]? = some (pc, .ifCond .gt off, 3, nx)) (tgt : Nat) (ht : (pc : Int) + off = (tgt : Int)) (hc : ¬ 0 < x) (k : G E nL nx lv st mm) : G E nL pc lv (.int x :: st) mm := by
  obtain ⟨p, l, e, R, s, m, args, below, meth, c, Q, C, kc, ks, A, res, mo⟩ := E
  obtain ⟨hd, hn⟩ := Bx.dec B h
  subst hn
  intro H locs ls hP hS hl
  exact lv_if_gt B.1 rfl hd ht (fun q => absurd q (hc)) (fun _ => k H locs ls hP hS hl)
theorem z_icmp_gt_t {E : Ev} {own : String} {tb : Tb} {nL : Nat} {ret : Option FieldType} {pc nx : Nat} {lv : Lv} {st : List Value} {mm : Mem} {x y : Int32} {off : Int} (B : Bx E own tb nL ret) (i : Nat) (h : tb[i]? = some (pc, .if_icmp .gt off, 3, nx)) (tgt : Nat) (ht : (pc : Int) + off = (tgt : Int)) (hc : y < x) (k : G E nL tgt lv st mm) : G E nL pc lv (.int y :: .int x :: st) mm := by
  obtain ⟨p, l, e, R, s, m, args, below, meth, c, Q, C, kc, ks, A, res, mo⟩ := E
  obtain ⟨hd, hn⟩ := Bx.dec B h
  subst hn
  intro H locs ls hP hS hl
  exact lv_icmp_gt B.1 rfl hd ht (fun _ => k H locs ls hP hS hl) (fun q => absurd (hc) q)
theorem z_icmp_gt_f {E : Ev} {own : String} {tb : Tb} {nL : Nat} {ret : Option FieldType} {pc nx : Nat} {lv : Lv} {st : List Value} {mm : Mem} {x y : Int32} {off : Int} (B : Bx E own tb nL ret) (i : Nat) (h : tb[i]? = some (pc, .if_icmp .gt off, 3, nx)) (tgt : Nat) (ht : (pc : Int) + off = (tgt : Int)) (hc : ¬ y < x) (k : G E nL nx lv st mm) : G E nL pc lv (.int y :: .int x :: st) mm := by
  obtain ⟨p, l, e, R, s, m, args, below, meth, c, Q, C, kc, ks, A, res, mo⟩ := E
  obtain ⟨hd, hn⟩ := Bx.dec B h
  subst hn
  intro H locs ls hP hS hl
  exact lv_icmp_gt B.1 rfl hd ht (fun q => absurd q (hc)) (fun _ => k H locs ls hP hS hl)
theorem z_if_le_t {E : Ev} {own : String} {tb : Tb} {nL : Nat} {ret : Option FieldType} {pc nx : Nat} {lv : Lv} {st : List Value} {mm : Mem} {x : Int32} {off : Int} (B : Bx E own tb nL ret) (i : Nat) (h : tb[i]? = some (pc, .ifCond .le off, 3, nx)) (tgt : Nat) (ht : (pc : Int) + off = (tgt : Int)) (hc : ¬ 0 < x) (k : G E nL tgt lv st mm) : G E nL pc lv (.int x :: st) mm := by
  obtain ⟨p, l, e, R, s, m, args, below, meth, c, Q, C, kc, ks, A, res, mo⟩ := E
  obtain ⟨hd, hn⟩ := Bx.dec B h
  subst hn
  intro H locs ls hP hS hl
  exact lv_if_le B.1 rfl hd ht (fun _ => k H locs ls hP hS hl) (fun q => absurd (i32_nlt hc) q)
theorem z_if_le_f {E : Ev} {own : String} {tb : Tb} {nL : Nat} {ret : Option FieldType} {pc nx : Nat} {lv : Lv} {st : List Value} {mm : Mem} {x : Int32} {off : Int} (B : Bx E own tb nL ret) (i : Nat) (h : tb[i]? = some (pc, .ifCond .le off, 3, nx)) (tgt : Nat) (ht : (pc : Int) + off = (tgt : Int)) (hc : 0 < x) (k : G E nL nx lv st mm) : G E nL pc lv (.int x :: st) mm := by
  obtain ⟨p, l, e, R, s, m, args, below, meth, c, Q, C, kc, ks, A, res, mo⟩ := E
  obtain ⟨hd, hn⟩ := Bx.dec B h
  subst hn
  intro H locs ls hP hS hl
  exact lv_if_le B.1 rfl hd ht (fun q => absurd q (fun z => absurd hc (i32_nlt2 z))) (fun _ => k H locs ls hP hS hl)
theorem z_icmp_le_t {E : Ev} {own : String} {tb : Tb} {nL : Nat} {ret : Option FieldType} {pc nx : Nat} {lv : Lv} {st : List Value} {mm : Mem} {x y : Int32} {off : Int} (B : Bx E own tb nL ret) (i : Nat) (h : tb[i]? = some (pc, .if_icmp .le off, 3, nx)) (tgt : Nat) (ht : (pc : Int) + off = (tgt : Int)) (hc : ¬ y < x) (k : G E nL tgt lv st mm) : G E nL pc lv (.int y :: .int x :: st) mm := by
  obtain ⟨p, l, e, R, s, m, args, below, meth, c, Q, C, kc, ks, A, res, mo⟩ := E
  obtain ⟨hd, hn⟩ := Bx.dec B h
  subst hn
  intro H locs ls hP hS hl
  exact lv_icmp_le B.1 rfl hd ht (fun _ => k H locs ls hP hS hl) (fun q => absurd (i32_nlt hc) q)
theorem z_icmp_le_f {E : Ev} {own : String} {tb : Tb} {nL : Nat} {ret : Option FieldType} {pc nx : Nat} {lv : Lv} {st : List Value} {mm : Mem} {x y : Int32} {off : Int} (B : Bx E own tb nL ret) (i : Nat) (h : tb[i]? = some (pc, .if_icmp .le off, 3, nx)) (tgt : Nat) (ht : (pc : Int) + off = (tgt : Int)) (hc : y < x) (k : G E nL nx lv st mm) : G E nL pc lv (.int y :: .int x :: st) mm := by
  obtain ⟨p, l, e, R, s, m, args, below, meth, c, Q, C, kc, ks, A, res, mo⟩ := E
  obtain ⟨hd, hn⟩ := Bx.dec B h
  subst hn
  intro H locs ls hP hS hl
  exact lv_icmp_le B.1 rfl hd ht (fun q => absurd q (fun z => absurd hc (i32_nlt2 z))) (fun _ => k H locs ls hP hS hl)
theorem z_ifnonnull {E : Ev} {own : String} {tb : Tb} {nL : Nat} {ret : Option FieldType} {pc nx : Nat} {lv : Lv} {st : List Value} {mm : Mem} {x : Nat} {off : Int} (B : Bx E own tb nL ret) (i : Nat) (h : tb[i]? = some (pc, .ifnonnull off, 3, nx)) (tgt : Nat) (ht : (pc : Int) + off = (tgt : Int)) (k : G E nL tgt lv st mm) : G E nL pc lv (.ref x :: st) mm := by
  obtain ⟨p, l, e, R, s, m, args, below, meth, c, Q, C, kc, ks, A, res, mo⟩ := E
  obtain ⟨hd, hn⟩ := Bx.dec B h
  subst hn
  intro H locs ls hP hS hl
  exact lv_ifnonnull B.1 rfl hd ht (k H locs ls hP hS hl)
theorem z_ifnull {E : Ev} {own : String} {tb : Tb} {nL : Nat} {ret : Option FieldType} {pc nx : Nat} {lv : Lv} {st : List Value} {mm : Mem} {x : Nat} {off : Int} (B : Bx E own tb nL ret) (i : Nat) (h : tb[i]? = some (pc, .ifnull off, 3, nx)) (k : G E nL nx lv st mm) : G E nL pc lv (.ref x :: st) mm := by
  obtain ⟨p, l, e, R, s, m, args, below, meth, c, Q, C, kc, ks, A, res, mo⟩ := E
  obtain ⟨hd, hn⟩ := Bx.dec B h
  subst hn
  intro H locs ls hP hS hl
  exact lv_ifnull B.1 rfl hd (k H locs ls hP hS hl)
theorem z_tswi {E : Ev} {own : String} {tb : Tb} {nL : Nat} {ret : Option FieldType} {pc nx : Nat} {lv : Lv} {st : List Value} {mm : Mem} {dflt lo hi : Int} {offs : Array Int} {len : Nat} {x : Int32} (B : Bx E own tb nL ret) (i : Nat) (h : tb[i]? = some (pc, .tableswitch dflt lo hi offs, len, nx)) (n : Int) (off : Int) (tgt : Nat) (hx : x.toInt = n) (h1 : lo ≤ n ∧ n ≤ hi) (ho : offs[(n - lo).toNat]? = some off) (ht : (pc : Int) + off = (tgt : Int)) (k : G E nL tgt lv st mm) : G E nL pc lv (.int x :: st) mm := by
  obtain ⟨p, l, e, R, s, m, args, below, meth, c, Q, C, kc, ks, A, res, mo⟩ := E
  obtain ⟨hd, hn⟩ := Bx.dec B h
  subst hn
  intro H locs ls hP hS hl
  subst hx
  exact lv_tableIn B.1 rfl hd (by omega) (by omega) ho ht (k H locs ls hP hS hl)
theorem z_tswo {E : Ev} {own : String} {tb : Tb} {nL : Nat} {ret : Option FieldType} {pc nx : Nat} {lv : Lv} {st : List Value} {mm : Mem} {dflt lo hi : Int} {offs : Array Int} {len : Nat} {x : Int32} (B : Bx E own tb nL ret) (i : Nat) (h : tb[i]? = some (pc, .tableswitch dflt lo hi offs, len, nx)) (tgt : Nat) (hx : x.toInt < lo ∨ hi < x.toInt) (ht : (pc : Int) + dflt = (tgt : Int)) (k : G E nL tgt lv st mm) : G E nL pc lv (.int x :: st) mm := by
  obtain ⟨p, l, e, R, s, m, args, below, meth, c, Q, C, kc, ks, A, res, mo⟩ := E
  obtain ⟨hd, hn⟩ := Bx.dec B h
  subst hn
  intro H locs ls hP hS hl
  exact lv_tableOut B.1 rfl hd hx ht (k H locs ls hP hS hl)
theorem z_geti {E : Ev} {own : String} {tb : Tb} {nL : Nat} {ret : Option FieldType} {pc nx : Nat} {lv : Lv} {st : List Value} {mm : Mem} {n : Nat} (ci kf q : Nat) (B : Bx E own tb nL ret) (i : Nat) (h : tb[i]? = some (pc, .getfield n, 3, nx)) (hq : Ob q ci) (hr : rfk ci kf q = none) {rn nm d : String} (hw : Cond.fieldLink own n rn nm d ∈ TW) (hf : zfl ci kf = some (rn, nm, d)) (k : G E nL nx lv (.int (mm q kf) :: st) mm) : G E nL pc lv (.ref q :: st) mm := by
  obtain ⟨p, l, e, R, s, m, args, below, meth, c, Q, C, kc, ks, A, res, mo⟩ := E
  obtain ⟨hd, hn⟩ := Bx.dec B h
  subst hn
  intro H locs ls hP hS hl
  exact zgetf B hP hq hd hw hf (v := .int (mm q kf)) (by unfold fvv; rw [hr]) (k H locs ls hP hS hl)
theorem z_getr {E : Ev} {own : String} {tb : Tb} {nL : Nat} {ret : Option FieldType} {pc nx : Nat} {lv : Lv} {st : List Value} {mm : Mem} {n : Nat} (ci kf q : Nat) {q2 : Nat} (B : Bx E own tb nL ret) (i : Nat) (h : tb[i]? = some (pc, .getfield n, 3, nx)) (hq : Ob q ci) (hr : rfk ci kf q = some q2) {rn nm d : String} (hw : Cond.fieldLink own n rn nm d ∈ TW) (hf : zfl ci kf = some (rn, nm, d)) (k : G E nL nx lv (.ref q2 :: st) mm) : G E nL pc lv (.ref q :: st) mm := by
  obtain ⟨p, l, e, R, s, m, args, below, meth, c, Q, C, kc, ks, A, res, mo⟩ := E
  obtain ⟨hd, hn⟩ := Bx.dec B h
  subst hn
  intro H locs ls hP hS hl
  exact zgetf B hP hq hd hw hf (v := .ref (C.1 q2)) (by unfold fvv; rw [hr]) (k H locs ls hP hS hl)
theorem z_puti {E : Ev} {own : String} {tb : Tb} {nL : Nat} {ret : Option FieldType} {pc nx : Nat} {lv : Lv} {st : List Value} {mm : Mem} {n : Nat} (ci kf q : Nat) {v : Int32} (B : Bx E own tb nL ret) (i : Nat) (h : tb[i]? = some (pc, .putfield n, 3, nx)) (hq : Ob q ci) (hr : rfk ci kf q = none) {rn nm d : String} (hw : Cond.fieldLink own n rn nm d ∈ TW) (hf : zfl ci kf = some (rn, nm, d)) {ty : FieldType} (hd0 : parseFieldDescriptor d = some ty) (hfin : zfin ci kf = false) (hv : narrow ty (.int v) = .int v) (hfit : fits ty (.int v) = true) (k : G E nL nx lv st (up2 mm q kf v)) : G E nL pc lv (.int v :: .ref q :: st) mm := by
  obtain ⟨p, l, e, R, s, m, args, below, meth, c, Q, C, kc, ks, A, res, mo⟩ := E
  obtain ⟨hd, hn⟩ := Bx.dec B h
  subst hn
  intro H locs ls hP hS hl
  exact zputf B hP hS hq hr hd hw hf hd0 hfin hv hfit (fun H1 locs1 hP1 hS1 => k H1 locs1 ls hP1 hS1 hl)
theorem z_iald {E : Ev} {own : String} {tb : Tb} {nL : Nat} {ret : Option FieldType} {pc nx : Nat} {lv : Lv} {st : List Value} {mm : Mem} {q : Nat} {x : Int32} (B : Bx E own tb nL ret) (i : Nat) (h : tb[i]? = some (pc, .iaload, 1, nx)) (hq : Ob q 8) (hx : inb x (ln q) = true) (k : G E nL nx lv (.int (mm q x.toNatClampNeg) :: st) mm) : G E nL pc lv (.int x :: .ref q :: st) mm := by
  obtain ⟨p, l, e, R, s, m, args, below, meth, c, Q, C, kc, ks, A, res, mo⟩ := E
  obtain ⟨hd, hn⟩ := Bx.dec B h
  subst hn
  intro H locs ls hP hS hl
  exact va_iald B.1 rfl B.K hP q 0 (wl_arr hq) rfl (inb_in hx) hd (k H locs ls hP hS hl)
theorem z_zald {E : Ev} {own : String} {tb : Tb} {nL : Nat} {ret : Option FieldType} {pc nx : Nat} {lv : Lv} {st : List Value} {mm : Mem} {q : Nat} {x : Int32} (B : Bx E own tb nL ret) (i : Nat) (h : tb[i]? = some (pc, .baload, 1, nx)) (hq : Ob q 9) (hx : inb x (ln q) = true) (k : G E nL nx lv (.int (mm q x.toNatClampNeg) :: st) mm) : G E nL pc lv (.int x :: .ref q :: st) mm := by
  obtain ⟨p, l, e, R, s, m, args, below, meth, c, Q, C, kc, ks, A, res, mo⟩ := E
  obtain ⟨hd, hn⟩ := Bx.dec B h
  subst hn
  intro H locs ls hP hS hl
  exact va_zald B.1 rfl B.K hP q 1 (wl_arz hq) rfl (inb_in hx) hd (k H locs ls hP hS hl)
theorem z_lald {E : Ev} {own : String} {tb : Tb} {nL : Nat} {ret : Option FieldType} {pc nx : Nat} {lv : Lv} {st : List Value} {mm : Mem} {q : Nat} {x : Int32} (B : Bx E own tb nL ret) (i : Nat) (h : tb[i]? = some (pc, .laload, 1, nx)) (hq : Ob q 10) (hx : inb x (ln q) = true) (k : G E nL nx lv (.long (mm q x.toNatClampNeg).toInt64 :: st) mm) : G E nL pc lv (.int x :: .ref q :: st) mm := by
  obtain ⟨p, l, e, R, s, m, args, below, meth, c, Q, C, kc, ks, A, res, mo⟩ := E
  obtain ⟨hd, hn⟩ := Bx.dec B h
  subst hn
  intro H locs ls hP hS hl
  exact va_lald B.1 rfl B.K hP q 2 (wl_arl hq) rfl (inb_in hx) hd (k H locs ls hP hS hl)
theorem z_iast {E : Ev} {own : String} {tb : Tb} {nL : Nat} {ret : Option FieldType} {pc nx : Nat} {lv : Lv} {st : List Value} {mm : Mem} {q : Nat} {x v : Int32} (B : Bx E own tb nL ret) (i : Nat) (h : tb[i]? = some (pc, .iastore, 1, nx)) (hq : Ob q 8) (hx : inb x (ln q) = true) (k : G E nL nx lv st (up2 mm q x.toNatClampNeg v)) : G E nL pc lv (.int v :: .int x :: .ref q :: st) mm := by
  obtain ⟨p, l, e, R, s, m, args, below, meth, c, Q, C, kc, ks, A, res, mo⟩ := E
  obtain ⟨hd, hn⟩ := Bx.dec B h
  subst hn
  intro H locs ls hP hS hl
  exact va_iast B.1 rfl B.K hP (wl_D B mm) hS q 0 (wl_arr hq) rfl (inb_in hx) hd (fun H1 locs1 hP1 _ hS1 => k H1 locs1 ls (wl_setI hq _ _ ▸ hP1) hS1 hl)
theorem z_zast {E : Ev} {own : String} {tb : Tb} {nL : Nat} {ret : Option FieldType} {pc nx : Nat} {lv : Lv} {st : List Value} {mm : Mem} {q : Nat} {x v : Int32} (B : Bx E own tb nL ret) (i : Nat) (h : tb[i]? = some (pc, .bastore, 1, nx)) (hq : Ob q 9) (hx : inb x (ln q) = true) (hv : vp_nar .boolean v = v) (k : G E nL nx lv st (up2 mm q x.toNatClampNeg v)) : G E nL pc lv (.int v :: .int x :: .ref q :: st) mm := by
  obtain ⟨p, l, e, R, s, m, args, below, meth, c, Q, C, kc, ks, A, res, mo⟩ := E
  obtain ⟨hd, hn⟩ := Bx.dec B h
  subst hn
  intro H locs ls hP hS hl
  exact va_zast B.1 rfl B.K hP (wl_D B mm) hS q 1 (wl_arz hq) rfl (inb_in hx) hd (fun H1 locs1 hP1 _ hS1 => k H1 locs1 ls (wl_setZ hq _ _ ▸ hv ▸ hP1) hS1 hl)
theorem z_last {E : Ev} {own : String} {tb : Tb} {nL : Nat} {ret : Option FieldType} {pc nx : Nat} {lv : Lv} {st : List Value} {mm : Mem} {q : Nat} {x v : Int32} (B : Bx E own tb nL ret) (i : Nat) (h : tb[i]? = some (pc, .lastore, 1, nx)) (hq : Ob q 10) (hx : inb x (ln q) = true) (k : G E nL nx lv st (up2 mm q x.toNatClampNeg v)) : G E nL pc lv (.long v.toInt64 :: .int x :: .ref q :: st) mm := by
  obtain ⟨p, l, e, R, s, m, args, below, meth, c, Q, C, kc, ks, A, res, mo⟩ := E
  obtain ⟨hd, hn⟩ := Bx.dec B h
  subst hn
  intro H locs ls hP hS hl
  exact va_last B.1 rfl B.K hP (wl_D B mm) hS q 2 (wl_arl hq) rfl (inb_in hx) hd (fun H1 locs1 hP1 _ hS1 => k H1 locs1 ls (wl_setL hq _ _ ▸ hP1) hS1 hl)
theorem z_alen {E : Ev} {own : String} {tb : Tb} {nL : Nat} {ret : Option FieldType} {pc nx : Nat} {lv : Lv} {st : List Value} {mm : Mem} {q : Nat} (B : Bx E own tb nL ret) (i : Nat) (h : tb[i]? = some (pc, .arraylength, 1, nx)) (hq : Ob q 8) (k : G E nL nx lv (.int (nI (ln q)) :: st) mm) : G E nL pc lv (.ref q :: st) mm := by
  obtain ⟨p, l, e, R, s, m, args, below, meth, c, Q, C, kc, ks, A, res, mo⟩ := E
  obtain ⟨hd, hn⟩ := Bx.dec B h
  subst hn
  intro H locs ls hP hS hl
  exact va_alen B.1 rfl B.K hP q 0 (wl_arr hq) (ty := .int) rfl rfl hd (k H locs ls hP hS hl)
theorem z_top {E : Ev} {nL pc : Nat} {lv : Lv} {st : List Value} {mm : Mem} {x y : Int32} (e : x = y) (k : G E nL pc lv (.int x :: st) mm) : G E nL pc lv (.int y :: st) mm := e ▸ k
theorem z_topl {E : Ev} {nL pc : Nat} {lv : Lv} {st : List Value} {mm : Mem} {x y : Int64} (e : x = y) (k : G E nL pc lv (.long x :: st) mm) : G E nL pc lv (.long y :: st) mm := e ▸ k
theorem z_mem {E : Ev} {nL pc : Nat} {lv : Lv} {st : List Value} {mm mm' : Mem} (e : mm = mm') (k : G E nL pc lv st mm) : G E nL pc lv st mm' := e ▸ k
theorem z_sub {E : Ev} {nL pc : Nat} {lv : Lv} {st : List Value} {mm : Mem} (lv' : Lv) (js : List Nat) (hj : js.filterMap (fun j => lv[j]?) = lv') (k : G E nL pc lv' st mm) : G E nL pc lv st mm := by
  obtain ⟨p, l, e, R, s, m, args, below, meth, c, Q, C, kc, ks, A, res, mo⟩ := E
  intro H locs ls hP hS hl
  exact k H locs ls hP hS (lv_sub hl js (lvs hj))
theorem z_callS {E : Ev} {own : String} {tb : Tb} {nL : Nat} {ret : Option FieldType} {pc nx : Nat} {lv : Lv} {st : List Value} {mm : Mem} {l : Launch} {C : Cfg} {R : Room} {y : MethodName} {bytes : ByteArray} {maxL n fr lo idx : Nat} {rt : Option FieldType} {r : Option Value} {mm2 : Mem} (as rest st2 : List Value) (X : Ec E l C R) (B : Bx E own tb nL ret) (i : Nat) (h : tb[i]? = some (pc, .invokestatic idx, 3, nx)) (hM : MI y bytes maxL rt n) (hw : Cond.methodLink own idx y ∈ TW ∧ Cond.static y ∈ TW) (hc : Ct l C y bytes maxL rt fr lo as mm r mm2) (hR : fr + 1 ≤ R.frames ∧ 8 + (maxL + 11) + lo ≤ R.locals) (hn : as.length = n) (hst : st = as.reverse ++ rest) (hW : (rest.map fun v => v.category).sum ≤ 8) (h2 : st2 = r.toList ++ rest) (k : G E nL nx lv st2 mm2) : G E nL pc lv st mm := by
  obtain ⟨p, l', e, R', s, m, args, below, meth, c, Q, C', kc, ks, A, res, mo⟩ := E
  obtain ⟨rfl, rfl, rfl⟩ := X
  obtain ⟨hd, hnx⟩ := Bx.dec B h
  obtain ⟨rfl, rfl⟩ := hnx
  subst hst
  subst h2
  intro H locs ls hP hS hl
  have hrl : (rest.map (cvv C')).map (fun v => v.category) = rest.map (fun v => v.category) := by rw [List.map_map]; congr 1; funext v; exact cvv_cat C' v
  have hk : ∀ (H1 : Heap) (locs1 : List Loc), va_P C'.2.1 zcls (wl C' mm2) H1 → va_S A s.heap H1 locs1 → W p l' e R' s m args below meth c H1 locs1 kc ks Q (F0 m (pc + 3) ls ((r.map (cvv C')).toList ++ rest.map (cvv C'))) := by
    intro H1 locs1 hP1 hS1
    have := k H1 locs1 ls hP1 hS1 hl
    rw [List.map_append] at this
    cases r <;> exact this
  refine zcall B hS (va_runS (As := as.map (cvv C')) (rest := rest.map (cvv C')) ⟨B.1, rfl, B.ml, B.hown, B.tw⟩ hc ⟨callB_of n B.tw (tw_good hM.1) rfl rfl rfl (B.tw _ hM.2.2.2) (B.tw _ hw.1) hM.2.2.1 hR, B.tw _ hw.2⟩ ⟨Wd_blind, Wd_call B hP hS as⟩ rfl (by rw [List.length_map]; exact hn) hl.1 (by rw [List.map_append, List.map_reverse]) (lv_room (by rw [hrl]; exact hW)) hd B.rm) hk
theorem z_callN {E : Ev} {own : String} {tb : Tb} {nL : Nat} {ret : Option FieldType} {pc nx : Nat} {lv : Lv} {st : List Value} {mm : Mem} {l : Launch} {C : Cfg} {R : Room} {y : MethodName} {bytes : ByteArray} {maxL n fr lo idx : Nat} {rt : Option FieldType} {r : Option Value} {mm2 : Mem} {host : String} (as rest st2 : List Value) (X : Ec E l C R) (B : Bx E own tb nL ret) (i : Nat) (h : tb[i]? = some (pc, .invokestatic idx, 3, nx)) (hM : MI y bytes maxL rt n) (hw : (own, idx, y, host) ∈ zns ∧ Cond.static y ∈ TW) (hc : Ct l C y bytes maxL rt fr lo as mm r mm2) (hR : fr + 1 ≤ R.frames ∧ 8 + (maxL + 11) + lo ≤ R.locals) (hn : as.length = n) (hst : st = as.reverse ++ rest) (hW : (rest.map fun v => v.category).sum ≤ 8) (h2 : st2 = r.toList ++ rest) (k : G E nL nx lv st2 mm2) : G E nL pc lv st mm := by
  obtain ⟨p, l', e, R', s, m, args, below, meth, c, Q, C', kc, ks, A, res, mo⟩ := E
  obtain ⟨rfl, rfl, rfl⟩ := X
  obtain ⟨hd, hnx⟩ := Bx.dec B h
  obtain ⟨rfl, rfl⟩ := hnx
  subst hst
  subst h2
  intro H locs ls hP hS hl
  have hrl : (rest.map (cvv C')).map (fun v => v.category) = rest.map (fun v => v.category) := by rw [List.map_map]; congr 1; funext v; exact cvv_cat C' v
  have hk : ∀ (H1 : Heap) (locs1 : List Loc), va_P C'.2.1 zcls (wl C' mm2) H1 → va_S A s.heap H1 locs1 → W p l' e R' s m args below meth c H1 locs1 kc ks Q (F0 m (pc + 3) ls ((r.map (cvv C')).toList ++ rest.map (cvv C'))) := by
    intro H1 locs1 hP1 hS1
    have := k H1 locs1 ls hP1 hS1 hl
    rw [List.map_append] at this
    cases r <;> exact this
  refine zcall B hS (va_runSN (As := as.map (cvv C')) (rest := rest.map (cvv C')) ⟨B.1, rfl, B.ml, B.hown, B.tw⟩ hc ⟨va_cnB n B.tw (tw_good hM.1) rfl rfl rfl (B.sx.2.2.2 _ hw.1) (B.tw _ hM.2.2.2) hM.2.2.1 hR, B.tw _ hw.2, trivial⟩ ⟨Wd_blind, Wd_call B hP hS as⟩ rfl (by rw [List.length_map]; exact hn) hl.1 (by rw [List.map_append, List.map_reverse]) (lv_room (by rw [hrl]; exact hW)) hd B.rm) hk
theorem z_callV {E : Ev} {own : String} {tb : Tb} {nL : Nat} {ret : Option FieldType} {pc nx : Nat} {lv : Lv} {st : List Value} {mm : Mem} {l : Launch} {C : Cfg} {R : Room} {y : MethodName} {bytes : ByteArray} {maxL n fr lo idx : Nat} {rt : Option FieldType} {r : Option Value} {mm2 : Mem} {x : vw_C} (q ci : Nat) (as rest st2 : List Value) (X : Ec E l C R) (B : Bx E own tb nL ret) (i : Nat) (h : tb[i]? = some (pc, .invokevirtual idx, 3, nx)) (hq : Ob q ci) (hx : zcls[ci]? = some x) (hxc : x.1 = y.cls) (hM : MI y bytes maxL rt n) (hw : Cond.methodLink own idx y ∈ TW ∧ Cond.instanceMethod y ∈ TW ∧ Cond.selects y.cls y y ∈ TW) (hc : Ct l C y bytes maxL rt fr lo (.ref q :: as) mm r mm2) (hR : fr + 1 ≤ R.frames ∧ 8 + (maxL + 11) + lo ≤ R.locals) (hn : as.length = n) (hst : st = as.reverse ++ .ref q :: rest) (hW : (rest.map fun v => v.category).sum ≤ 8) (h2 : st2 = r.toList ++ rest) (k : G E nL nx lv st2 mm2) : G E nL pc lv st mm := by
  obtain ⟨p, l', e, R', s, m, args, below, meth, c, Q, C', kc, ks, A, res, mo⟩ := E
  obtain ⟨rfl, rfl, rfl⟩ := X
  obtain ⟨hd, hnx⟩ := Bx.dec B h
  obtain ⟨rfl, rfl⟩ := hnx
  subst hst
  subst h2
  intro H locs ls hP hS hl
  have hrl : (rest.map (cvv C')).map (fun v => v.category) = rest.map (fun v => v.category) := by rw [List.map_map]; congr 1; funext v; exact cvv_cat C' v
  have hk : ∀ (H1 : Heap) (locs1 : List Loc), va_P C'.2.1 zcls (wl C' mm2) H1 → va_S A s.heap H1 locs1 → W p l' e R' s m args below meth c H1 locs1 kc ks Q (F0 m (pc + 3) ls ((r.map (cvv C')).toList ++ rest.map (cvv C'))) := by
    intro H1 locs1 hP1 hS1
    have := k H1 locs1 ls hP1 hS1 hl
    rw [List.map_append] at this
    cases r <;> exact this
  have hrec : ∃ cell : Cell, H[C'.1 q]? = some cell ∧ cell.vm.isStatics = false ∧ s.vm.findClass y.cls = some cell.cls := by
    rw [← hxc]
    exact va_recv B.K hP hx (by rw [wl_get hq.1, cel_obj hq.2 (zcls_lt hx)])
  refine zcall B hS (va_runV (C := y.cls) (b := C'.1 q) (As := as.map (cvv C')) (rest := rest.map (cvv C')) ⟨B.1, rfl, B.ml, B.hown, B.tw⟩ hc ⟨callB_of n B.tw (tw_good hM.1) rfl rfl rfl (B.tw _ hM.2.2.2) (B.tw _ hw.1) hM.2.2.1 hR, B.tw _ hw.2.1, B.tw _ hw.2.2⟩ ⟨Wd_blind, hrec, Wd_call B hP hS (.ref q :: as)⟩ rfl (by rw [List.length_map]; exact hn) hl.1 (by rw [List.map_append, List.map_reverse]; rfl) (lv_room (by rw [hrl]; exact hW)) hd B.rm) hk
theorem z_mmax {E : Ev} {own : String} {tb : Tb} {nL : Nat} {ret : Option FieldType} {pc nx : Nat} {lv : Lv} {st : List Value} {mm : Mem} {l : Launch} {C : Cfg} {R : Room} {x y : Int32} {idx : Nat} (X : Ec E l C R) (B : Bx E own tb nL ret) (i : Nat) (h : tb[i]? = some (pc, .invokestatic idx, 3, nx)) (hw : Cond.methodLink own idx Lib.Math.max.name ∈ TW ∧ Cond.static Lib.Math.max.name ∈ TW ∧ Cond.initialized "java/lang/Math" ∈ TW ∧ Cond.code Lib.Math.max.name Lib.Math.max.code 2 (some .int) ∈ TW) (hR : 1 ≤ R.frames ∧ 21 ≤ R.locals) (hW : (st.map fun v => v.category).sum ≤ 8) (k : G E nL nx lv (.int (if x < y then y else x) :: st) mm) : G E nL pc lv (.int y :: .int x :: st) mm := by
  obtain ⟨p, l', e, R', s, m, args, below, meth, c, Q, C', kc, ks, A, res, mo⟩ := E
  obtain ⟨rfl, rfl, rfl⟩ := X
  obtain ⟨hd, hnx⟩ := Bx.dec B h
  obtain ⟨rfl, rfl⟩ := hnx
  intro H locs ls hP hS hl
  have hrl : (st.map (cvv C')).map (fun v => v.category) = st.map (fun v => v.category) := by rw [List.map_map]; congr 1; funext v; exact cvv_cat C' v
  exact va_mmax B.1 rfl (by rw [B.ml]; exact hl.1.symm) B.hown (B.tw _ hw.1) (B.tw _ hw.2.1) (B.tw _ hw.2.2.1) (B.tw _ hw.2.2.2) hR.1 (by rw [hrl]; omega) B.rm.1 B.rm.2 hd (k H locs ls hP hS hl)
theorem z_mmin {E : Ev} {own : String} {tb : Tb} {nL : Nat} {ret : Option FieldType} {pc nx : Nat} {lv : Lv} {st : List Value} {mm : Mem} {l : Launch} {C : Cfg} {R : Room} {x y : Int32} {idx : Nat} (X : Ec E l C R) (B : Bx E own tb nL ret) (i : Nat) (h : tb[i]? = some (pc, .invokestatic idx, 3, nx)) (hw : Cond.methodLink own idx Lib.Math.min.name ∈ TW ∧ Cond.static Lib.Math.min.name ∈ TW ∧ Cond.initialized "java/lang/Math" ∈ TW ∧ Cond.code Lib.Math.min.name Lib.Math.min.code 2 (some .int) ∈ TW) (hR : 1 ≤ R.frames ∧ 21 ≤ R.locals) (hW : (st.map fun v => v.category).sum ≤ 8) (k : G E nL nx lv (.int (if y < x then y else x) :: st) mm) : G E nL pc lv (.int y :: .int x :: st) mm := by
  obtain ⟨p, l', e, R', s, m, args, below, meth, c, Q, C', kc, ks, A, res, mo⟩ := E
  obtain ⟨rfl, rfl, rfl⟩ := X
  obtain ⟨hd, hnx⟩ := Bx.dec B h
  obtain ⟨rfl, rfl⟩ := hnx
  intro H locs ls hP hS hl
  have hrl : (st.map (cvv C')).map (fun v => v.category) = st.map (fun v => v.category) := by rw [List.map_map]; congr 1; funext v; exact cvv_cat C' v
  exact va_mmin B.1 rfl (by rw [B.ml]; exact hl.1.symm) B.hown (B.tw _ hw.1) (B.tw _ hw.2.1) (B.tw _ hw.2.2.1) (B.tw _ hw.2.2.2) hR.1 (by rw [hrl]; omega) B.rm.1 B.rm.2 hd (k H locs ls hP hS hl)
end
section
def nm {α β : Type} (a : α) (k : α → Option β) : Option β := k a
theorem nm_x {α β : Type} {a : α} {k : α → Option β} {y : β} (h : nm a k = some y) : ∃ x, x = a ∧ k x = some y := ⟨a, rfl, h⟩
def bd {α β : Type} (a : Option α) (k : α → Option β) : Option β := match a with
  | some x => k x
  | none => none
theorem bd_e {α β : Type} {a : Option α} {k : α → Option β} {y : β} (h : bd a k = some y) : ∃ x, a = some x ∧ k x = some y := by
  cases a with
  | none => cases h
  | some x => exact ⟨x, rfl, h⟩
def rdc {β : Type} (q : Nat) (i : Int32) (k : Option β) : Option β := if inb i (ln q) = true then k else none
theorem rdc_e {β : Type} {q : Nat} {i : Int32} {k : Option β} {y : β} (h : rdc q i k = some y) : inb i (ln q) = true ∧ k = some y := by
  unfold rdc at h
  by_cases hc : inb i (ln q) = true
  · exact ⟨hc, (if_pos hc).symm.trans h⟩
  · rw [if_neg hc] at h; cases h
def dvz {β : Type} (y : Int32) (k : Option β) : Option β := if y = 0 then none else k
theorem dvz_e {β : Type} {y : Int32} {k : Option β} {z : β} (h : dvz y k = some z) : ¬ y = 0 ∧ k = some z := by
  unfold dvz at h
  by_cases hc : y = 0
  · rw [if_pos hc] at h; cases h
  · exact ⟨hc, (if_neg hc).symm.trans h⟩
def bok {β : Type} (v : Int32) (k : Option β) : Option β := if v = 0 ∨ v = 1 then k else none
theorem bok_e {β : Type} {v : Int32} {k : Option β} {z : β} (h : bok v k = some z) : (v = 0 ∨ v = 1) ∧ k = some z := by
  unfold bok at h
  by_cases hc : v = 0 ∨ v = 1
  · exact ⟨hc, (if_pos hc).symm.trans h⟩
  · rw [if_neg hc] at h; cases h
theorem bok_n {v : Int32} (h : v = 0 ∨ v = 1) : narrow .boolean (.int v) = .int v := by
  rcases h with rfl | rfl <;> decide
def mni (x y : Int32) : Int32 := if y < x then y else x
def mxi (x y : Int32) : Int32 := if x < y then y else x
def FU : Nat := 20000
def So (a : Nat) : Prop := ∃ k, k < 9 ∧ a = 1000 + k
theorem so_mk (k : Nat) (h : k < 9) : So (1000 + k) := ⟨k, h, rfl⟩
theorem tsw_ne {x : Int32} {n : Int} {k : Int32} (h : ¬ x = k) (hk : k.toInt = n) : x.toInt ≠ n := fun e => h (Int32.toInt_inj.mp (e.trans hk.symm))
theorem tsw_out4 {x : Int32} (h0 : ¬ x = 0) (h1 : ¬ x = 1) (h2 : ¬ x = 2) (h3 : ¬ x = 3) : x.toInt < 0 ∨ 3 < x.toInt := by
  have g0 := tsw_ne (n := 0) h0 (by decide)
  have g1 := tsw_ne (n := 1) h1 (by decide)
  have g2 := tsw_ne (n := 2) h2 (by decide)
  have g3 := tsw_ne (n := 3) h3 (by decide)
  omega
theorem tsw_out5 {x : Int32} (h0 : ¬ x = 0) (h1 : ¬ x = 1) (h2 : ¬ x = 2) (h3 : ¬ x = 3) (h4 : ¬ x = 4) : x.toInt < 0 ∨ 4 < x.toInt := by
  have g0 := tsw_ne (n := 0) h0 (by decide)
  have g1 := tsw_ne (n := 1) h1 (by decide)
  have g2 := tsw_ne (n := 2) h2 (by decide)
  have g3 := tsw_ne (n := 3) h3 (by decide)
  have g4 := tsw_ne (n := 4) h4 (by decide)
  omega
theorem tsw_out6 {x : Int32} (h0 : ¬ x = 0) (h1 : ¬ x = 1) (h2 : ¬ x = 2) (h3 : ¬ x = 3) (h4 : ¬ x = 4) (h5 : ¬ x = 5) : x.toInt < 0 ∨ 5 < x.toInt := by
  have g0 := tsw_ne (n := 0) h0 (by decide)
  have g1 := tsw_ne (n := 1) h1 (by decide)
  have g2 := tsw_ne (n := 2) h2 (by decide)
  have g3 := tsw_ne (n := 3) h3 (by decide)
  have g4 := tsw_ne (n := 4) h4 (by decide)
  have g5 := tsw_ne (n := 5) h5 (by decide)
  omega
theorem tsw_out7 {x : Int32} (h0 : ¬ x = 0) (h1 : ¬ x = 1) (h2 : ¬ x = 2) (h3 : ¬ x = 3) (h4 : ¬ x = 4) (h5 : ¬ x = 5) (h6 : ¬ x = 6) : x.toInt < 0 ∨ 6 < x.toInt := by
  have g0 := tsw_ne (n := 0) h0 (by decide)
  have g1 := tsw_ne (n := 1) h1 (by decide)
  have g2 := tsw_ne (n := 2) h2 (by decide)
  have g3 := tsw_ne (n := 3) h3 (by decide)
  have g4 := tsw_ne (n := 4) h4 (by decide)
  have g5 := tsw_ne (n := 5) h5 (by decide)
  have g6 := tsw_ne (n := 6) h6 (by decide)
  omega
theorem tsw_out35 {x : Int32} (h0 : ¬ x = 0) (h1 : ¬ x = 1) (h2 : ¬ x = 2) (h3 : ¬ x = 3) (h4 : ¬ x = 4) (h5 : ¬ x = 5) (h6 : ¬ x = 6) (h7 : ¬ x = 7) (h8 : ¬ x = 8) (h9 : ¬ x = 9) (h10 : ¬ x = 10) (h11 : ¬ x = 11) (h12 : ¬ x = 12) (h13 : ¬ x = 13) (h14 : ¬ x = 14) (h15 : ¬ x = 15) (h16 : ¬ x = 16) (h17 : ¬ x = 17) (h18 : ¬ x = 18) (h19 : ¬ x = 19) (h20 : ¬ x = 20) (h21 : ¬ x = 21) (h22 : ¬ x = 22) (h23 : ¬ x = 23) (h24 : ¬ x = 24) (h25 : ¬ x = 25) (h26 : ¬ x = 26) (h27 : ¬ x = 27) (h28 : ¬ x = 28) (h29 : ¬ x = 29) (h30 : ¬ x = 30) (h31 : ¬ x = 31) (h32 : ¬ x = 32) (h33 : ¬ x = 33) (h34 : ¬ x = 34) : x.toInt < 0 ∨ 34 < x.toInt := by
  have g0 := tsw_ne (n := 0) h0 (by decide)
  have g1 := tsw_ne (n := 1) h1 (by decide)
  have g2 := tsw_ne (n := 2) h2 (by decide)
  have g3 := tsw_ne (n := 3) h3 (by decide)
  have g4 := tsw_ne (n := 4) h4 (by decide)
  have g5 := tsw_ne (n := 5) h5 (by decide)
  have g6 := tsw_ne (n := 6) h6 (by decide)
  have g7 := tsw_ne (n := 7) h7 (by decide)
  have g8 := tsw_ne (n := 8) h8 (by decide)
  have g9 := tsw_ne (n := 9) h9 (by decide)
  have g10 := tsw_ne (n := 10) h10 (by decide)
  have g11 := tsw_ne (n := 11) h11 (by decide)
  have g12 := tsw_ne (n := 12) h12 (by decide)
  have g13 := tsw_ne (n := 13) h13 (by decide)
  have g14 := tsw_ne (n := 14) h14 (by decide)
  have g15 := tsw_ne (n := 15) h15 (by decide)
  have g16 := tsw_ne (n := 16) h16 (by decide)
  have g17 := tsw_ne (n := 17) h17 (by decide)
  have g18 := tsw_ne (n := 18) h18 (by decide)
  have g19 := tsw_ne (n := 19) h19 (by decide)
  have g20 := tsw_ne (n := 20) h20 (by decide)
  have g21 := tsw_ne (n := 21) h21 (by decide)
  have g22 := tsw_ne (n := 22) h22 (by decide)
  have g23 := tsw_ne (n := 23) h23 (by decide)
  have g24 := tsw_ne (n := 24) h24 (by decide)
  have g25 := tsw_ne (n := 25) h25 (by decide)
  have g26 := tsw_ne (n := 26) h26 (by decide)
  have g27 := tsw_ne (n := 27) h27 (by decide)
  have g28 := tsw_ne (n := 28) h28 (by decide)
  have g29 := tsw_ne (n := 29) h29 (by decide)
  have g30 := tsw_ne (n := 30) h30 (by decide)
  have g31 := tsw_ne (n := 31) h31 (by decide)
  have g32 := tsw_ne (n := 32) h32 (by decide)
  have g33 := tsw_ne (n := 33) h33 (by decide)
  have g34 := tsw_ne (n := 34) h34 (by decide)
  omega
theorem obx_0_0 : ∀ c, c < NC → kd c = 0 → (c + 1 < NC ∧ kd (c + 1) = 1) := by decide +kernel
theorem obf_0_0 {c : Nat} (h : Ob c 0) : Ob (c + 1) 1 := obx_0_0 c h.1 h.2
theorem obx_0_1 : ∀ c, c < NC → kd c = 0 → (c + 20 < NC ∧ kd (c + 20) = 8) := by decide +kernel
theorem obf_0_1 {c : Nat} (h : Ob c 0) : Ob (c + 20) 8 := obx_0_1 c h.1 h.2
theorem obx_0_2 : ∀ c, c < NC → kd c = 0 → (c + 21 < NC ∧ kd (c + 21) = 8) := by decide +kernel
theorem obf_0_2 {c : Nat} (h : Ob c 0) : Ob (c + 21) 8 := obx_0_2 c h.1 h.2
theorem obx_0_3 : ∀ c, c < NC → kd c = 0 → (c + 22 < NC ∧ kd (c + 22) = 8) := by decide +kernel
theorem obf_0_3 {c : Nat} (h : Ob c 0) : Ob (c + 22) 8 := obx_0_3 c h.1 h.2
theorem obx_0_4 : ∀ c, c < NC → kd c = 0 → (c + 23 < NC ∧ kd (c + 23) = 8) := by decide +kernel
theorem obf_0_4 {c : Nat} (h : Ob c 0) : Ob (c + 23) 8 := obx_0_4 c h.1 h.2
theorem obx_0_5 : ∀ c, c < NC → kd c = 0 → (c + 24 < NC ∧ kd (c + 24) = 8) := by decide +kernel
theorem obf_0_5 {c : Nat} (h : Ob c 0) : Ob (c + 24) 8 := obx_0_5 c h.1 h.2
theorem obx_0_6 : ∀ c, c < NC → kd c = 0 → (c + 25 < NC ∧ kd (c + 25) = 8) := by decide +kernel
theorem obf_0_6 {c : Nat} (h : Ob c 0) : Ob (c + 25) 8 := obx_0_6 c h.1 h.2
theorem obx_0_7 : ∀ c, c < NC → kd c = 0 → (c + 26 < NC ∧ kd (c + 26) = 8) := by decide +kernel
theorem obf_0_7 {c : Nat} (h : Ob c 0) : Ob (c + 26) 8 := obx_0_7 c h.1 h.2
theorem obx_0_8 : ∀ c, c < NC → kd c = 0 → (c + 27 < NC ∧ kd (c + 27) = 8) := by decide +kernel
theorem obf_0_8 {c : Nat} (h : Ob c 0) : Ob (c + 27) 8 := obx_0_8 c h.1 h.2
theorem obx_0_9 : ∀ c, c < NC → kd c = 0 → (c + 28 < NC ∧ kd (c + 28) = 8) := by decide +kernel
theorem obf_0_9 {c : Nat} (h : Ob c 0) : Ob (c + 28) 8 := obx_0_9 c h.1 h.2
theorem obx_1_0 : ∀ c, c < NC → kd c = 1 → (c + 1 < NC ∧ kd (c + 1) = 5) := by decide +kernel
theorem obf_1_0 {c : Nat} (h : Ob c 1) : Ob (c + 1) 5 := obx_1_0 c h.1 h.2
theorem obx_1_1 : ∀ c, c < NC → kd c = 1 → (c + 8 < NC ∧ kd (c + 8) = 2) := by decide +kernel
theorem obf_1_1 {c : Nat} (h : Ob c 1) : Ob (c + 8) 2 := obx_1_1 c h.1 h.2
theorem obx_2_2 : ∀ c, c < NC → kd c = 2 → (c + 1 < NC ∧ kd (c + 1) = 8) := by decide +kernel
theorem obf_2_2 {c : Nat} (h : Ob c 2) : Ob (c + 1) 8 := obx_2_2 c h.1 h.2
theorem obx_2_3 : ∀ c, c < NC → kd c = 2 → (c + 2 < NC ∧ kd (c + 2) = 8) := by decide +kernel
theorem obf_2_3 {c : Nat} (h : Ob c 2) : Ob (c + 2) 8 := obx_2_3 c h.1 h.2
theorem obx_2_4 : ∀ c, c < NC → kd c = 2 → (c + 3 < NC ∧ kd (c + 3) = 8) := by decide +kernel
theorem obf_2_4 {c : Nat} (h : Ob c 2) : Ob (c + 3) 8 := obx_2_4 c h.1 h.2
theorem obx_2_5 : ∀ c, c < NC → kd c = 2 → (c + 4 < NC ∧ kd (c + 4) = 8) := by decide +kernel
theorem obf_2_5 {c : Nat} (h : Ob c 2) : Ob (c + 4) 8 := obx_2_5 c h.1 h.2
theorem obx_2_6 : ∀ c, c < NC → kd c = 2 → (c + 5 < NC ∧ kd (c + 5) = 8) := by decide +kernel
theorem obf_2_6 {c : Nat} (h : Ob c 2) : Ob (c + 5) 8 := obx_2_6 c h.1 h.2
theorem obx_2_7 : ∀ c, c < NC → kd c = 2 → (c + 6 < NC ∧ kd (c + 6) = 8) := by decide +kernel
theorem obf_2_7 {c : Nat} (h : Ob c 2) : Ob (c + 6) 8 := obx_2_7 c h.1 h.2
theorem obx_2_8 : ∀ c, c < NC → kd c = 2 → (c + 7 < NC ∧ kd (c + 7) = 8) := by decide +kernel
theorem obf_2_8 {c : Nat} (h : Ob c 2) : Ob (c + 7) 8 := obx_2_8 c h.1 h.2
theorem obx_2_9 : ∀ c, c < NC → kd c = 2 → (c + 8 < NC ∧ kd (c + 8) = 8) := by decide +kernel
theorem obf_2_9 {c : Nat} (h : Ob c 2) : Ob (c + 8) 8 := obx_2_9 c h.1 h.2
theorem obx_2_10 : ∀ c, c < NC → kd c = 2 → (c + 9 < NC ∧ kd (c + 9) = 8) := by decide +kernel
theorem obf_2_10 {c : Nat} (h : Ob c 2) : Ob (c + 9) 8 := obx_2_10 c h.1 h.2
theorem obx_2_11 : ∀ c, c < NC → kd c = 2 → (c + 10 < NC ∧ kd (c + 10) = 8) := by decide +kernel
theorem obf_2_11 {c : Nat} (h : Ob c 2) : Ob (c + 10) 8 := obx_2_11 c h.1 h.2
theorem obx_5_1 : ∀ c, c < NC → kd c = 5 → (c + 1 < NC ∧ kd (c + 1) = 8) := by decide +kernel
theorem obf_5_1 {c : Nat} (h : Ob c 5) : Ob (c + 1) 8 := obx_5_1 c h.1 h.2
theorem obx_5_2 : ∀ c, c < NC → kd c = 5 → (c + 2 < NC ∧ kd (c + 2) = 8) := by decide +kernel
theorem obf_5_2 {c : Nat} (h : Ob c 5) : Ob (c + 2) 8 := obx_5_2 c h.1 h.2
theorem obx_5_3 : ∀ c, c < NC → kd c = 5 → (c + 3 < NC ∧ kd (c + 3) = 8) := by decide +kernel
theorem obf_5_3 {c : Nat} (h : Ob c 5) : Ob (c + 3) 8 := obx_5_3 c h.1 h.2
theorem obx_5_4 : ∀ c, c < NC → kd c = 5 → (c + 4 < NC ∧ kd (c + 4) = 8) := by decide +kernel
theorem obf_5_4 {c : Nat} (h : Ob c 5) : Ob (c + 4) 8 := obx_5_4 c h.1 h.2
theorem obx_5_5 : ∀ c, c < NC → kd c = 5 → (c + 5 < NC ∧ kd (c + 5) = 8) := by decide +kernel
theorem obf_5_5 {c : Nat} (h : Ob c 5) : Ob (c + 5) 8 := obx_5_5 c h.1 h.2
theorem obx_5_6 : ∀ c, c < NC → kd c = 5 → (c + 6 < NC ∧ kd (c + 6) = 8) := by decide +kernel
theorem obf_5_6 {c : Nat} (h : Ob c 5) : Ob (c + 6) 8 := obx_5_6 c h.1 h.2
theorem ob_0 : Ob 0 7 := ⟨by decide, rfl⟩
theorem ob_1 : Ob 1 8 := ⟨by decide, rfl⟩
theorem ob_2 : Ob 2 8 := ⟨by decide, rfl⟩
theorem ob_3 : Ob 3 9 := ⟨by decide, rfl⟩
theorem ob_4 : Ob 4 8 := ⟨by decide, rfl⟩
theorem ob_5 : Ob 5 8 := ⟨by decide, rfl⟩
theorem ob_6 : Ob 6 8 := ⟨by decide, rfl⟩
theorem ob_7 : Ob 7 8 := ⟨by decide, rfl⟩
theorem ob_8 : Ob 8 8 := ⟨by decide, rfl⟩
theorem ob_9 : Ob 9 8 := ⟨by decide, rfl⟩
theorem ob_10 : Ob 10 8 := ⟨by decide, rfl⟩
theorem ob_11 : Ob 11 8 := ⟨by decide, rfl⟩
theorem ob_12 : Ob 12 8 := ⟨by decide, rfl⟩
theorem ob_13 : Ob 13 8 := ⟨by decide, rfl⟩
theorem ob_14 : Ob 14 6 := ⟨by decide, rfl⟩
theorem ob_15 : Ob 15 0 := ⟨by decide, rfl⟩
theorem ob_16 : Ob 16 1 := ⟨by decide, rfl⟩
theorem ob_17 : Ob 17 5 := ⟨by decide, rfl⟩
theorem ob_18 : Ob 18 8 := ⟨by decide, rfl⟩
theorem ob_19 : Ob 19 8 := ⟨by decide, rfl⟩
theorem ob_20 : Ob 20 8 := ⟨by decide, rfl⟩
theorem ob_21 : Ob 21 8 := ⟨by decide, rfl⟩
theorem ob_22 : Ob 22 8 := ⟨by decide, rfl⟩
theorem ob_23 : Ob 23 8 := ⟨by decide, rfl⟩
theorem ob_24 : Ob 24 2 := ⟨by decide, rfl⟩
theorem ob_25 : Ob 25 8 := ⟨by decide, rfl⟩
theorem ob_26 : Ob 26 8 := ⟨by decide, rfl⟩
theorem ob_27 : Ob 27 8 := ⟨by decide, rfl⟩
theorem ob_28 : Ob 28 8 := ⟨by decide, rfl⟩
theorem ob_29 : Ob 29 8 := ⟨by decide, rfl⟩
theorem ob_30 : Ob 30 8 := ⟨by decide, rfl⟩
theorem ob_31 : Ob 31 8 := ⟨by decide, rfl⟩
theorem ob_32 : Ob 32 8 := ⟨by decide, rfl⟩
theorem ob_33 : Ob 33 8 := ⟨by decide, rfl⟩
theorem ob_34 : Ob 34 8 := ⟨by decide, rfl⟩
theorem ob_35 : Ob 35 8 := ⟨by decide, rfl⟩
theorem ob_36 : Ob 36 8 := ⟨by decide, rfl⟩
theorem ob_37 : Ob 37 8 := ⟨by decide, rfl⟩
theorem ob_38 : Ob 38 8 := ⟨by decide, rfl⟩
theorem ob_39 : Ob 39 8 := ⟨by decide, rfl⟩
theorem ob_40 : Ob 40 8 := ⟨by decide, rfl⟩
theorem ob_41 : Ob 41 8 := ⟨by decide, rfl⟩
theorem ob_42 : Ob 42 8 := ⟨by decide, rfl⟩
theorem ob_43 : Ob 43 8 := ⟨by decide, rfl⟩
theorem ob_44 : Ob 44 0 := ⟨by decide, rfl⟩
theorem ob_45 : Ob 45 1 := ⟨by decide, rfl⟩
theorem ob_46 : Ob 46 5 := ⟨by decide, rfl⟩
theorem ob_47 : Ob 47 8 := ⟨by decide, rfl⟩
theorem ob_48 : Ob 48 8 := ⟨by decide, rfl⟩
theorem ob_49 : Ob 49 8 := ⟨by decide, rfl⟩
theorem ob_50 : Ob 50 8 := ⟨by decide, rfl⟩
theorem ob_51 : Ob 51 8 := ⟨by decide, rfl⟩
theorem ob_52 : Ob 52 8 := ⟨by decide, rfl⟩
theorem ob_53 : Ob 53 2 := ⟨by decide, rfl⟩
theorem ob_54 : Ob 54 8 := ⟨by decide, rfl⟩
theorem ob_55 : Ob 55 8 := ⟨by decide, rfl⟩
theorem ob_56 : Ob 56 8 := ⟨by decide, rfl⟩
theorem ob_57 : Ob 57 8 := ⟨by decide, rfl⟩
theorem ob_58 : Ob 58 8 := ⟨by decide, rfl⟩
theorem ob_59 : Ob 59 8 := ⟨by decide, rfl⟩
theorem ob_60 : Ob 60 8 := ⟨by decide, rfl⟩
theorem ob_61 : Ob 61 8 := ⟨by decide, rfl⟩
theorem ob_62 : Ob 62 8 := ⟨by decide, rfl⟩
theorem ob_63 : Ob 63 8 := ⟨by decide, rfl⟩
theorem ob_64 : Ob 64 8 := ⟨by decide, rfl⟩
theorem ob_65 : Ob 65 8 := ⟨by decide, rfl⟩
theorem ob_66 : Ob 66 8 := ⟨by decide, rfl⟩
theorem ob_67 : Ob 67 8 := ⟨by decide, rfl⟩
theorem ob_68 : Ob 68 8 := ⟨by decide, rfl⟩
theorem ob_69 : Ob 69 8 := ⟨by decide, rfl⟩
theorem ob_70 : Ob 70 8 := ⟨by decide, rfl⟩
theorem ob_71 : Ob 71 8 := ⟨by decide, rfl⟩
theorem ob_72 : Ob 72 8 := ⟨by decide, rfl⟩
theorem ob_73 : Ob 73 4 := ⟨by decide, rfl⟩
theorem ob_74 : Ob 74 3 := ⟨by decide, rfl⟩
theorem ob_75 : Ob 75 8 := ⟨by decide, rfl⟩
theorem ob_76 : Ob 76 1 := ⟨by decide, rfl⟩
theorem ob_77 : Ob 77 5 := ⟨by decide, rfl⟩
theorem ob_78 : Ob 78 8 := ⟨by decide, rfl⟩
theorem ob_79 : Ob 79 8 := ⟨by decide, rfl⟩
theorem ob_80 : Ob 80 8 := ⟨by decide, rfl⟩
theorem ob_81 : Ob 81 8 := ⟨by decide, rfl⟩
theorem ob_82 : Ob 82 8 := ⟨by decide, rfl⟩
theorem ob_83 : Ob 83 8 := ⟨by decide, rfl⟩
theorem ob_84 : Ob 84 2 := ⟨by decide, rfl⟩
theorem ob_85 : Ob 85 8 := ⟨by decide, rfl⟩
theorem ob_86 : Ob 86 8 := ⟨by decide, rfl⟩
theorem ob_87 : Ob 87 8 := ⟨by decide, rfl⟩
theorem ob_88 : Ob 88 8 := ⟨by decide, rfl⟩
theorem ob_89 : Ob 89 8 := ⟨by decide, rfl⟩
theorem ob_90 : Ob 90 8 := ⟨by decide, rfl⟩
theorem ob_91 : Ob 91 8 := ⟨by decide, rfl⟩
theorem ob_92 : Ob 92 8 := ⟨by decide, rfl⟩
theorem ob_93 : Ob 93 8 := ⟨by decide, rfl⟩
theorem ob_94 : Ob 94 8 := ⟨by decide, rfl⟩
theorem ob_95 : Ob 95 1 := ⟨by decide, rfl⟩
theorem ob_96 : Ob 96 5 := ⟨by decide, rfl⟩
theorem ob_97 : Ob 97 8 := ⟨by decide, rfl⟩
theorem ob_98 : Ob 98 8 := ⟨by decide, rfl⟩
theorem ob_99 : Ob 99 8 := ⟨by decide, rfl⟩
theorem ob_100 : Ob 100 8 := ⟨by decide, rfl⟩
theorem ob_101 : Ob 101 8 := ⟨by decide, rfl⟩
theorem ob_102 : Ob 102 8 := ⟨by decide, rfl⟩
theorem ob_103 : Ob 103 2 := ⟨by decide, rfl⟩
theorem ob_104 : Ob 104 8 := ⟨by decide, rfl⟩
theorem ob_105 : Ob 105 8 := ⟨by decide, rfl⟩
theorem ob_106 : Ob 106 8 := ⟨by decide, rfl⟩
theorem ob_107 : Ob 107 8 := ⟨by decide, rfl⟩
theorem ob_108 : Ob 108 8 := ⟨by decide, rfl⟩
theorem ob_109 : Ob 109 8 := ⟨by decide, rfl⟩
theorem ob_110 : Ob 110 8 := ⟨by decide, rfl⟩
theorem ob_111 : Ob 111 8 := ⟨by decide, rfl⟩
theorem ob_112 : Ob 112 8 := ⟨by decide, rfl⟩
theorem ob_113 : Ob 113 8 := ⟨by decide, rfl⟩
theorem ob_114 : Ob 114 1 := ⟨by decide, rfl⟩
theorem ob_115 : Ob 115 5 := ⟨by decide, rfl⟩
theorem ob_116 : Ob 116 8 := ⟨by decide, rfl⟩
theorem ob_117 : Ob 117 8 := ⟨by decide, rfl⟩
theorem ob_118 : Ob 118 8 := ⟨by decide, rfl⟩
theorem ob_119 : Ob 119 8 := ⟨by decide, rfl⟩
theorem ob_120 : Ob 120 8 := ⟨by decide, rfl⟩
theorem ob_121 : Ob 121 8 := ⟨by decide, rfl⟩
theorem ob_122 : Ob 122 2 := ⟨by decide, rfl⟩
theorem ob_123 : Ob 123 8 := ⟨by decide, rfl⟩
theorem ob_124 : Ob 124 8 := ⟨by decide, rfl⟩
theorem ob_125 : Ob 125 8 := ⟨by decide, rfl⟩
theorem ob_126 : Ob 126 8 := ⟨by decide, rfl⟩
theorem ob_127 : Ob 127 8 := ⟨by decide, rfl⟩
theorem ob_128 : Ob 128 8 := ⟨by decide, rfl⟩
theorem ob_129 : Ob 129 8 := ⟨by decide, rfl⟩
theorem ob_130 : Ob 130 8 := ⟨by decide, rfl⟩
theorem ob_131 : Ob 131 8 := ⟨by decide, rfl⟩
theorem ob_132 : Ob 132 8 := ⟨by decide, rfl⟩
theorem ob_133 : Ob 133 10 := ⟨by decide, rfl⟩
end
section
/-! ZoneCapacity.put([III)V -/
def tbX6_put : Tb := [(0, .aload_n 0, 1, 1), (1, .ifnull 17, 3, 4), (4, .iload_n 1, 1, 5), (5, .ifCond .lt 13, 3, 8), (8, .iload_n 1, 1, 9), (9, .aload_n 0, 1, 10), (10, .arraylength, 1, 11), (11, .if_icmp .ge 7, 3, 14), (14, .aload_n 0, 1, 15), (15, .iload_n 1, 1, 16), (16, .iload_n 2, 1, 17), (17, .iastore, 1, 18), (18, .return_, 1, 19)]
theorem dtX6_put : ∀ q ∈ tbX6_put, decode cX6_put q.1 = .ok (q.2.1, q.2.2.1) ∧ q.1 + q.2.2.1 = q.2.2.2 := by decide +kernel
theorem miX6_put : MI yX6_put cX6_put 3 none 3 := ⟨tw_mem (List.mem_of_getElem? (i := 116) (by decide +kernel)) rfl, by decide, by decide +kernel, tw_mem (List.mem_of_getElem? (i := 71) (by decide +kernel)) rfl⟩
abbrev rmX6_put : Room := { frames := 0, cells := 0, slots := 0, locals := 0 }
def f6_put (mm : Mem) (a0 : Nat) (a1 : Int32) (a2 : Int32) : Option Mem := if a1 < 0 then some mm else if a1 < (nI (ln a0)) then rdc a0 a1 (nm (up2 mm a0 a1.toNatClampNeg a2) (fun m1 => some m1)) else some mm
theorem ctX6_put {l : Launch} {C : Cfg} (hj : Dj C) {mm : Mem} {a0 : Nat} {a1 : Int32} {a2 : Int32} {x : Mem} (o_a0 : Ob a0 8) (hf : f6_put mm a0 a1 a2 = some x) : Ct l C yX6_put cX6_put 3 none 0 0 [.ref a0, .int a1, .int a2] mm none x := by
  refine Ct.of (tb := tbX6_put) hj miX6_put.2.1 miX6_put.1 dtX6_put (Nat.le_of_ble_eq_true rfl) ?_
  intro E B hQ hr X
  unfold f6_put at hf
  show G E 3 0 [(0, .ref a0), (1, .int a1), (2, .int a2)] [] mm
  refine z_aload_n B 0 rfl 0 0 rfl rfl ?_
  refine z_ifnull B 1 rfl ?_
  refine z_iload_n B 2 rfl 1 1 rfl rfl ?_
  by_cases hc : a1 < 0
  · replace hf := (if_pos hc).symm.trans hf
    refine z_if_lt_t B 3 rfl 18 (by decide) hc ?_
    cases hf
    exact z_vret B 12 rfl hQ hr
  · replace hf := (if_neg hc).symm.trans hf
    refine z_if_lt_f B 3 rfl 18 (by decide) hc ?_
    refine z_iload_n B 4 rfl 1 1 rfl rfl ?_
    refine z_aload_n B 5 rfl 0 0 rfl rfl ?_
    refine z_alen B 6 rfl o_a0 ?_
    by_cases hc : a1 < (nI (ln a0))
    · replace hf := (if_pos hc).symm.trans hf
      refine z_icmp_ge_f B 7 rfl 18 (by decide) hc ?_
      refine z_aload_n B 8 rfl 0 0 rfl rfl ?_
      refine z_iload_n B 9 rfl 1 1 rfl rfl ?_
      refine z_iload_n B 10 rfl 2 2 rfl rfl ?_
      obtain ⟨hx, hf⟩ := rdc_e hf
      refine z_iast B 11 rfl o_a0 hx ?_
      obtain ⟨m1, ex, hf⟩ := nm_x hf
      refine z_mem ex ?_
      cases hf
      exact z_vret B 12 rfl hQ hr
    · replace hf := (if_neg hc).symm.trans hf
      refine z_icmp_ge_t B 7 rfl 18 (by decide) hc ?_
      cases hf
      exact z_vret B 12 rfl hQ hr
/-! ZoneCapacity.at([II)I -/
def tbX6_at : Tb := [(0, .aload_n 0, 1, 1), (1, .ifnull 19, 3, 4), (4, .iload_n 1, 1, 5), (5, .ifCond .lt 15, 3, 8), (8, .iload_n 1, 1, 9), (9, .aload_n 0, 1, 10), (10, .arraylength, 1, 11), (11, .if_icmp .ge 9, 3, 14), (14, .aload_n 0, 1, 15), (15, .iload_n 1, 1, 16), (16, .iaload, 1, 17), (17, .goto 4, 3, 20), (20, .iconst 0, 1, 21), (21, .ireturn, 1, 22)]
theorem dtX6_at : ∀ q ∈ tbX6_at, decode cX6_at q.1 = .ok (q.2.1, q.2.2.1) ∧ q.1 + q.2.2.1 = q.2.2.2 := by decide +kernel
theorem miX6_at : MI yX6_at cX6_at 2 (some .int) 2 := ⟨tw_mem (List.mem_of_getElem? (i := 388) (by decide +kernel)) rfl, by decide, by decide +kernel, tw_mem (List.mem_of_getElem? (i := 71) (by decide +kernel)) rfl⟩
abbrev rmX6_at : Room := { frames := 0, cells := 0, slots := 0, locals := 0 }
def f6_at (mm : Mem) (a0 : Nat) (a1 : Int32) : Option Int32 := if a1 < 0 then some ((0 : Int32)) else if a1 < (nI (ln a0)) then rdc a0 a1 (nm (mm a0 a1.toNatClampNeg) (fun v1 => some (v1))) else some ((0 : Int32))
theorem ctX6_at {l : Launch} {C : Cfg} (hj : Dj C) {mm : Mem} {a0 : Nat} {a1 : Int32} {x : Int32} (o_a0 : Ob a0 8) (hf : f6_at mm a0 a1 = some x) : Ct l C yX6_at cX6_at 2 (some .int) 0 0 [.ref a0, .int a1] mm (some (.int x)) mm := by
  refine Ct.of (tb := tbX6_at) hj miX6_at.2.1 miX6_at.1 dtX6_at (Nat.le_of_ble_eq_true rfl) ?_
  intro E B hQ hr X
  unfold f6_at at hf
  show G E 2 0 [(0, .ref a0), (1, .int a1)] [] mm
  refine z_aload_n B 0 rfl 0 0 rfl rfl ?_
  refine z_ifnull B 1 rfl ?_
  refine z_iload_n B 2 rfl 1 1 rfl rfl ?_
  by_cases hc : a1 < 0
  · replace hf := (if_pos hc).symm.trans hf
    refine z_if_lt_t B 3 rfl 20 (by decide) hc ?_
    refine z_iconst 0 B 12 rfl (by decide) ?_
    cases hf
    exact z_iret B 13 rfl rfl hQ hr
  · replace hf := (if_neg hc).symm.trans hf
    refine z_if_lt_f B 3 rfl 20 (by decide) hc ?_
    refine z_iload_n B 4 rfl 1 1 rfl rfl ?_
    refine z_aload_n B 5 rfl 0 0 rfl rfl ?_
    refine z_alen B 6 rfl o_a0 ?_
    by_cases hc : a1 < (nI (ln a0))
    · replace hf := (if_pos hc).symm.trans hf
      refine z_icmp_ge_f B 7 rfl 20 (by decide) hc ?_
      refine z_aload_n B 8 rfl 0 0 rfl rfl ?_
      refine z_iload_n B 9 rfl 1 1 rfl rfl ?_
      obtain ⟨hx, hf⟩ := rdc_e hf
      refine z_iald B 10 rfl o_a0 hx ?_
      obtain ⟨v1, ex, hf⟩ := nm_x hf
      refine z_top ex ?_
      refine z_goto B 11 rfl 21 (by decide) ?_
      cases hf
      exact z_iret B 13 rfl rfl hQ hr
    · replace hf := (if_neg hc).symm.trans hf
      refine z_icmp_ge_t B 7 rfl 20 (by decide) hc ?_
      refine z_iconst 0 B 12 rfl (by decide) ?_
      cases hf
      exact z_iret B 13 rfl rfl hQ hr
/-! ZoneCapacity$Offers.rest(I)I -/
def tbX2_rest : Tb := [(0, .aload_n 0, 1, 1), (1, .getfield 22, 3, 4), (4, .iload_n 1, 1, 5), (5, .invokestatic 57, 3, 8), (8, .istore_n 2, 1, 9), (9, .iconst 0, 1, 10), (10, .istore_n 3, 1, 11), (11, .iload_n 3, 1, 12), (12, .aload_n 0, 1, 13), (13, .getfield 37, 3, 16), (16, .iload_n 1, 1, 17), (17, .invokestatic 57, 3, 20), (20, .if_icmp .ge 24, 3, 23), (23, .iload_n 2, 1, 24), (24, .aload_n 0, 1, 25), (25, .getfield 40, 3, 28), (28, .iload_n 1, 1, 29), (29, .iconst 3, 1, 30), (30, .imul, 1, 31), (31, .iload_n 3, 1, 32), (32, .iadd, 1, 33), (33, .invokestatic 57, 3, 36), (36, .isub, 1, 37), (37, .istore_n 2, 1, 38), (38, .iinc 3 1, 3, 41), (41, .goto (-30), 3, 44), (44, .iload_n 2, 1, 45), (45, .ireturn, 1, 46)]
theorem dtX2_rest : ∀ q ∈ tbX2_rest, decode cX2_rest q.1 = .ok (q.2.1, q.2.2.1) ∧ q.1 + q.2.2.1 = q.2.2.2 := by decide +kernel
theorem miX2_rest : MI yX2_rest cX2_rest 4 (some .int) 1 := ⟨tw_mem (List.mem_of_getElem? (i := 535) (by decide +kernel)) rfl, by decide, by decide +kernel, tw_mem (List.mem_of_getElem? (i := 75) (by decide +kernel)) rfl⟩
abbrev rmX2_rest : Room := { frames := 1, cells := 0, slots := 0, locals := 21 }
def wX2_rest : List Cond := [.fieldLink "ZoneCapacity$Offers" 22 "ZoneCapacity$Offers" "sizes" "[I", .static yX6_at, .fieldLink "ZoneCapacity$Offers" 37 "ZoneCapacity$Offers" "steps" "[I", .fieldLink "ZoneCapacity$Offers" 40 "ZoneCapacity$Offers" "stepUnits" "[I"]
theorem iX2_rest : ∀ w ∈ wX2_rest, w ∈ TW := tw_of (ids := [171, 387, 182, 184]) (by decide +kernel)
def f2_rest_l11 (mm : Mem) : Nat → Nat → Int32 → Int32 → Int32 → Option Int32
  | 0, _, _, _, _ => none
  | n + 1, x0, x1, x2, x3 => bd (f6_at mm (x0 + 8) x1) (fun r2 => if x3 < r2 then bd (f6_at mm (x0 + 9) ((x1 * (3 : Int32)) + x3)) (fun r3 => nm (x2 - r3) (fun v4 => nm (x3 + 1) (fun v5 => f2_rest_l11 mm n x0 x1 v4 v5))) else some (x2))
theorem f2_rest_l11_ok {E : Ev} {l : Launch} {C : Cfg} {mm : Mem} {x : Int32} (hj : Dj C) (X : Ec E l C rmX2_rest) (B : Bx E RX2 tbX2_rest 4 (some .int)) (hQ : Rt E) (hr : Rs E (some (.int x)) mm) (n : Nat) : ∀ (x0 : Nat) (x1 : Int32) (x2 : Int32) (x3 : Int32), Ob x0 2 → f2_rest_l11 mm n x0 x1 x2 x3 = some x → G E 4 11 [(0, .ref x0), (1, .int x1), (2, .int x2), (3, .int x3)] [] mm := by
  induction n with
  | zero =>
    intro x0 x1 x2 x3 o_x0 hf
    rw [f2_rest_l11] at hf
    cases hf
  | succ n ih =>
    intro x0 x1 x2 x3 o_x0 hf
    rw [f2_rest_l11] at hf
    refine z_iload_n B 7 rfl 3 3 rfl rfl ?_
    refine z_aload_n B 8 rfl 0 0 rfl rfl ?_
    refine z_getr 2 9 x0 B 9 rfl o_x0 rfl (iX2_rest _ (List.mem_of_getElem? (i := 2) rfl)) rfl ?_
    refine z_iload_n B 10 rfl 1 1 rfl rfl ?_
    obtain ⟨r2, ec, hf⟩ := bd_e hf
    refine z_callN [.ref (x0 + 8), .int x1] [.int x3] [.int r2, .int x3] X B 11 rfl miX6_at ⟨List.mem_of_getElem? (i := 15) rfl, (iX2_rest _ (List.mem_of_getElem? (i := 1) rfl))⟩ (ctX6_at hj (obf_2_9 o_x0) ec) ⟨Nat.le_of_ble_eq_true rfl, Nat.le_of_ble_eq_true rfl⟩ rfl rfl (Nat.le_of_ble_eq_true rfl) rfl ?_
    by_cases hc : x3 < r2
    · replace hf := (if_pos hc).symm.trans hf
      refine z_icmp_ge_f B 12 rfl 44 (by decide) hc ?_
      refine z_iload_n B 13 rfl 2 2 rfl rfl ?_
      refine z_aload_n B 14 rfl 0 0 rfl rfl ?_
      refine z_getr 2 10 x0 B 15 rfl o_x0 rfl (iX2_rest _ (List.mem_of_getElem? (i := 3) rfl)) rfl ?_
      refine z_iload_n B 16 rfl 1 1 rfl rfl ?_
      refine z_iconst 3 B 17 rfl (by decide) ?_
      refine z_imul B 18 rfl ?_
      refine z_iload_n B 19 rfl 3 3 rfl rfl ?_
      refine z_iadd B 20 rfl ?_
      obtain ⟨r3, ec, hf⟩ := bd_e hf
      refine z_callN [.ref (x0 + 9), .int ((x1 * (3 : Int32)) + x3)] [.int x2] [.int r3, .int x2] X B 21 rfl miX6_at ⟨List.mem_of_getElem? (i := 15) rfl, (iX2_rest _ (List.mem_of_getElem? (i := 1) rfl))⟩ (ctX6_at hj (obf_2_10 o_x0) ec) ⟨Nat.le_of_ble_eq_true rfl, Nat.le_of_ble_eq_true rfl⟩ rfl rfl (Nat.le_of_ble_eq_true rfl) rfl ?_
      refine z_isub B 22 rfl ?_
      obtain ⟨v4, ex, hf⟩ := nm_x hf
      refine z_top ex ?_
      refine z_istore_n [(2, .int v4), (0, .ref x0), (1, .int x1), (3, .int x3)] B 23 rfl 2 rfl (by decide) rfl ?_
      obtain ⟨v5, ex, hf⟩ := nm_x hf
      refine z_iinc v5 [(3, .int v5), (2, .int v4), (0, .ref x0), (1, .int x1)] B 24 rfl 3 rfl (ex.symm) (by decide) rfl ?_
      refine z_goto B 25 rfl 11 (by decide) ?_
      refine z_sub [(0, .ref x0), (1, .int x1), (2, .int v4), (3, .int v5)] [2, 3, 1, 0] rfl ?_
      exact ih _ _ _ _ o_x0  hf
    · replace hf := (if_neg hc).symm.trans hf
      refine z_icmp_ge_t B 12 rfl 44 (by decide) hc ?_
      refine z_iload_n B 26 rfl 2 2 rfl rfl ?_
      cases hf
      exact z_iret B 27 rfl rfl hQ hr
def f2_rest (mm : Mem) (a0 : Nat) (a1 : Int32) : Option Int32 := bd (f6_at mm (a0 + 3) a1) (fun r1 => f2_rest_l11 mm FU a0 a1 r1 (0 : Int32))
theorem ctX2_rest {l : Launch} {C : Cfg} (hj : Dj C) {mm : Mem} {a0 : Nat} {a1 : Int32} {x : Int32} (o_a0 : Ob a0 2) (hf : f2_rest mm a0 a1 = some x) : Ct l C yX2_rest cX2_rest 4 (some .int) 1 21 [.ref a0, .int a1] mm (some (.int x)) mm := by
  refine Ct.of (tb := tbX2_rest) hj miX2_rest.2.1 miX2_rest.1 dtX2_rest (Nat.le_of_ble_eq_true rfl) ?_
  intro E B hQ hr X
  unfold f2_rest at hf
  show G E 4 0 [(0, .ref a0), (1, .int a1)] [] mm
  refine z_aload_n B 0 rfl 0 0 rfl rfl ?_
  refine z_getr 2 4 a0 B 1 rfl o_a0 rfl (iX2_rest _ (List.mem_of_getElem? (i := 0) rfl)) rfl ?_
  refine z_iload_n B 2 rfl 1 1 rfl rfl ?_
  obtain ⟨r1, ec, hf⟩ := bd_e hf
  refine z_callN [.ref (a0 + 3), .int a1] [] [.int r1] X B 3 rfl miX6_at ⟨List.mem_of_getElem? (i := 15) rfl, (iX2_rest _ (List.mem_of_getElem? (i := 1) rfl))⟩ (ctX6_at hj (obf_2_4 o_a0) ec) ⟨Nat.le_of_ble_eq_true rfl, Nat.le_of_ble_eq_true rfl⟩ rfl rfl (Nat.le_of_ble_eq_true rfl) rfl ?_
  refine z_istore_n [(2, .int r1), (0, .ref a0), (1, .int a1)] B 4 rfl 2 rfl (by decide) rfl ?_
  refine z_iconst 0 B 5 rfl (by decide) ?_
  refine z_istore_n [(3, .int (0 : Int32)), (2, .int r1), (0, .ref a0), (1, .int a1)] B 6 rfl 3 rfl (by decide) rfl ?_
  refine z_sub [(0, .ref a0), (1, .int a1), (2, .int r1), (3, .int (0 : Int32))] [2, 3, 1, 0] rfl ?_
  exact f2_rest_l11_ok hj X B hQ hr FU _ _ _ _ o_a0  hf
/-! ZoneCapacity$Offers.unitsOf(II)I -/
def tbX2_unitsOf : Tb := [(0, .iload_n 2, 1, 1), (1, .iconst 3, 1, 2), (2, .if_icmp .ne 25, 3, 5), (5, .aload_n 0, 1, 6), (6, .getfield 31, 3, 9), (9, .iload_n 1, 1, 10), (10, .invokestatic 57, 3, 13), (13, .iconst 1, 1, 14), (14, .if_icmp .ne 11, 3, 17), (17, .aload_n 0, 1, 18), (18, .iload_n 1, 1, 19), (19, .invokevirtual 77, 3, 22), (22, .goto 4, 3, 25), (25, .iconst 0, 1, 26), (26, .ireturn, 1, 27), (27, .iload_n 2, 1, 28), (28, .aload_n 0, 1, 29), (29, .getfield 37, 3, 32), (32, .iload_n 1, 1, 33), (33, .invokestatic 57, 3, 36), (36, .if_icmp .ge 18, 3, 39), (39, .aload_n 0, 1, 40), (40, .getfield 40, 3, 43), (43, .iload_n 1, 1, 44), (44, .iconst 3, 1, 45), (45, .imul, 1, 46), (46, .iload_n 2, 1, 47), (47, .iadd, 1, 48), (48, .invokestatic 57, 3, 51), (51, .goto 4, 3, 54), (54, .iconst 0, 1, 55), (55, .ireturn, 1, 56)]
theorem dtX2_unitsOf : ∀ q ∈ tbX2_unitsOf, decode cX2_unitsOf q.1 = .ok (q.2.1, q.2.2.1) ∧ q.1 + q.2.2.1 = q.2.2.2 := by decide +kernel
theorem miX2_unitsOf : MI yX2_unitsOf cX2_unitsOf 3 (some .int) 2 := ⟨tw_mem (List.mem_of_getElem? (i := 638) (by decide +kernel)) rfl, by decide, by decide +kernel, tw_mem (List.mem_of_getElem? (i := 75) (by decide +kernel)) rfl⟩
abbrev rmX2_unitsOf : Room := { frames := 2, cells := 0, slots := 0, locals := 44 }
def wX2_unitsOf : List Cond := [.fieldLink "ZoneCapacity$Offers" 37 "ZoneCapacity$Offers" "steps" "[I", .static yX6_at, .fieldLink "ZoneCapacity$Offers" 40 "ZoneCapacity$Offers" "stepUnits" "[I", .fieldLink "ZoneCapacity$Offers" 31 "ZoneCapacity$Offers" "must" "[I", .methodLink "ZoneCapacity$Offers" 77 yX2_rest, .instanceMethod yX2_rest, .selects "ZoneCapacity$Offers" yX2_rest yX2_rest]
theorem iX2_unitsOf : ∀ w ∈ wX2_unitsOf, w ∈ TW := tw_of (ids := [182, 387, 184, 178, 639, 533, 534]) (by decide +kernel)
def f2_unitsOf (mm : Mem) (a0 : Nat) (a1 : Int32) (a2 : Int32) : Option Int32 := if a2 = (3 : Int32) then bd (f6_at mm (a0 + 6) a1) (fun r3 => if r3 = (1 : Int32) then bd (f2_rest mm a0 a1) (fun r4 => some (r4)) else some ((0 : Int32))) else bd (f6_at mm (a0 + 8) a1) (fun r1 => if a2 < r1 then bd (f6_at mm (a0 + 9) ((a1 * (3 : Int32)) + a2)) (fun r2 => some (r2)) else some ((0 : Int32)))
theorem ctX2_unitsOf {l : Launch} {C : Cfg} (hj : Dj C) {mm : Mem} {a0 : Nat} {a1 : Int32} {a2 : Int32} {x : Int32} (o_a0 : Ob a0 2) (hf : f2_unitsOf mm a0 a1 a2 = some x) : Ct l C yX2_unitsOf cX2_unitsOf 3 (some .int) 2 44 [.ref a0, .int a1, .int a2] mm (some (.int x)) mm := by
  refine Ct.of (tb := tbX2_unitsOf) hj miX2_unitsOf.2.1 miX2_unitsOf.1 dtX2_unitsOf (Nat.le_of_ble_eq_true rfl) ?_
  intro E B hQ hr X
  unfold f2_unitsOf at hf
  show G E 3 0 [(0, .ref a0), (1, .int a1), (2, .int a2)] [] mm
  refine z_iload_n B 0 rfl 2 2 rfl rfl ?_
  refine z_iconst 3 B 1 rfl (by decide) ?_
  by_cases hc : a2 = (3 : Int32)
  · replace hf := (if_pos hc).symm.trans hf
    refine z_icmp_ne_f B 2 rfl 27 (by decide) hc ?_
    refine z_aload_n B 3 rfl 0 0 rfl rfl ?_
    refine z_getr 2 7 a0 B 4 rfl o_a0 rfl (iX2_unitsOf _ (List.mem_of_getElem? (i := 3) rfl)) rfl ?_
    refine z_iload_n B 5 rfl 1 1 rfl rfl ?_
    obtain ⟨r3, ec, hf⟩ := bd_e hf
    refine z_callN [.ref (a0 + 6), .int a1] [] [.int r3] X B 6 rfl miX6_at ⟨List.mem_of_getElem? (i := 15) rfl, (iX2_unitsOf _ (List.mem_of_getElem? (i := 1) rfl))⟩ (ctX6_at hj (obf_2_7 o_a0) ec) ⟨Nat.le_of_ble_eq_true rfl, Nat.le_of_ble_eq_true rfl⟩ rfl rfl (Nat.le_of_ble_eq_true rfl) rfl ?_
    refine z_iconst 1 B 7 rfl (by decide) ?_
    by_cases hc : r3 = (1 : Int32)
    · replace hf := (if_pos hc).symm.trans hf
      refine z_icmp_ne_f B 8 rfl 25 (by decide) hc ?_
      refine z_aload_n B 9 rfl 0 0 rfl rfl ?_
      refine z_iload_n B 10 rfl 1 1 rfl rfl ?_
      obtain ⟨r4, ec, hf⟩ := bd_e hf
      refine z_callV a0 2 [.int a1] [] [.int r4] X B 11 rfl o_a0 rfl rfl miX2_rest ⟨(iX2_unitsOf _ (List.mem_of_getElem? (i := 4) rfl)), (iX2_unitsOf _ (List.mem_of_getElem? (i := 5) rfl)), (iX2_unitsOf _ (List.mem_of_getElem? (i := 6) rfl))⟩ (ctX2_rest hj o_a0 ec) ⟨Nat.le_of_ble_eq_true rfl, Nat.le_of_ble_eq_true rfl⟩ rfl rfl (Nat.le_of_ble_eq_true rfl) rfl ?_
      refine z_goto B 12 rfl 26 (by decide) ?_
      cases hf
      exact z_iret B 14 rfl rfl hQ hr
    · replace hf := (if_neg hc).symm.trans hf
      refine z_icmp_ne_t B 8 rfl 25 (by decide) hc ?_
      refine z_iconst 0 B 13 rfl (by decide) ?_
      cases hf
      exact z_iret B 14 rfl rfl hQ hr
  · replace hf := (if_neg hc).symm.trans hf
    refine z_icmp_ne_t B 2 rfl 27 (by decide) hc ?_
    refine z_iload_n B 15 rfl 2 2 rfl rfl ?_
    refine z_aload_n B 16 rfl 0 0 rfl rfl ?_
    refine z_getr 2 9 a0 B 17 rfl o_a0 rfl (iX2_unitsOf _ (List.mem_of_getElem? (i := 0) rfl)) rfl ?_
    refine z_iload_n B 18 rfl 1 1 rfl rfl ?_
    obtain ⟨r1, ec, hf⟩ := bd_e hf
    refine z_callN [.ref (a0 + 8), .int a1] [.int a2] [.int r1, .int a2] X B 19 rfl miX6_at ⟨List.mem_of_getElem? (i := 15) rfl, (iX2_unitsOf _ (List.mem_of_getElem? (i := 1) rfl))⟩ (ctX6_at hj (obf_2_9 o_a0) ec) ⟨Nat.le_of_ble_eq_true rfl, Nat.le_of_ble_eq_true rfl⟩ rfl rfl (Nat.le_of_ble_eq_true rfl) rfl ?_
    by_cases hc : a2 < r1
    · replace hf := (if_pos hc).symm.trans hf
      refine z_icmp_ge_f B 20 rfl 54 (by decide) hc ?_
      refine z_aload_n B 21 rfl 0 0 rfl rfl ?_
      refine z_getr 2 10 a0 B 22 rfl o_a0 rfl (iX2_unitsOf _ (List.mem_of_getElem? (i := 2) rfl)) rfl ?_
      refine z_iload_n B 23 rfl 1 1 rfl rfl ?_
      refine z_iconst 3 B 24 rfl (by decide) ?_
      refine z_imul B 25 rfl ?_
      refine z_iload_n B 26 rfl 2 2 rfl rfl ?_
      refine z_iadd B 27 rfl ?_
      obtain ⟨r2, ec, hf⟩ := bd_e hf
      refine z_callN [.ref (a0 + 9), .int ((a1 * (3 : Int32)) + a2)] [] [.int r2] X B 28 rfl miX6_at ⟨List.mem_of_getElem? (i := 15) rfl, (iX2_unitsOf _ (List.mem_of_getElem? (i := 1) rfl))⟩ (ctX6_at hj (obf_2_10 o_a0) ec) ⟨Nat.le_of_ble_eq_true rfl, Nat.le_of_ble_eq_true rfl⟩ rfl rfl (Nat.le_of_ble_eq_true rfl) rfl ?_
      refine z_goto B 29 rfl 55 (by decide) ?_
      cases hf
      exact z_iret B 31 rfl rfl hQ hr
    · replace hf := (if_neg hc).symm.trans hf
      refine z_icmp_ge_t B 20 rfl 54 (by decide) hc ?_
      refine z_iconst 0 B 30 rfl (by decide) ?_
      cases hf
      exact z_iret B 31 rfl rfl hQ hr
/-! ZoneCapacity$Offers.itsOf(II)I -/
def tbX2_itsOf : Tb := [(0, .iload_n 2, 1, 1), (1, .iconst 3, 1, 2), (2, .if_icmp .ne 5, 3, 5), (5, .iconst 0, 1, 6), (6, .ireturn, 1, 7), (7, .aload_n 0, 1, 8), (8, .getfield 43, 3, 11), (11, .iload_n 1, 1, 12), (12, .iconst 3, 1, 13), (13, .imul, 1, 14), (14, .iload_n 2, 1, 15), (15, .iadd, 1, 16), (16, .invokestatic 57, 3, 19), (19, .istore_n 3, 1, 20), (20, .aload_n 0, 1, 21), (21, .getfield 34, 3, 24), (24, .iload_n 1, 1, 25), (25, .invokestatic 57, 3, 28), (28, .ifCond .ne 23, 3, 31), (31, .iload_n 3, 1, 32), (32, .aload_n 0, 1, 33), (33, .getfield 15, 3, 36), (36, .aload_n 0, 1, 37), (37, .getfield 25, 3, 40), (40, .iload_n 1, 1, 41), (41, .invokestatic 57, 3, 44), (44, .invokestatic 57, 3, 47), (47, .invokestatic 81, 3, 50), (50, .istore_n 3, 1, 51), (51, .aload_n 0, 1, 52), (52, .getfield 31, 3, 55), (55, .iload_n 1, 1, 56), (56, .invokestatic 57, 3, 59), (59, .iconst 1, 1, 60), (60, .if_icmp .ne 14, 3, 63), (63, .iload_n 3, 1, 64), (64, .aload_n 0, 1, 65), (65, .getfield 9, 3, 68), (68, .invokestatic 86, 3, 71), (71, .goto 4, 3, 74), (74, .iload_n 3, 1, 75), (75, .ireturn, 1, 76)]
theorem dtX2_itsOf : ∀ q ∈ tbX2_itsOf, decode cX2_itsOf q.1 = .ok (q.2.1, q.2.2.1) ∧ q.1 + q.2.2.1 = q.2.2.2 := by decide +kernel
theorem miX2_itsOf : MI yX2_itsOf cX2_itsOf 4 (some .int) 2 := ⟨tw_mem (List.mem_of_getElem? (i := 643) (by decide +kernel)) rfl, by decide, by decide +kernel, tw_mem (List.mem_of_getElem? (i := 75) (by decide +kernel)) rfl⟩
abbrev rmX2_itsOf : Room := { frames := 1, cells := 0, slots := 0, locals := 21 }
def wX2_itsOf : List Cond := [.fieldLink "ZoneCapacity$Offers" 43 "ZoneCapacity$Offers" "stepPrices" "[I", .static yX6_at, .fieldLink "ZoneCapacity$Offers" 34 "ZoneCapacity$Offers" "free" "[I", .fieldLink "ZoneCapacity$Offers" 31 "ZoneCapacity$Offers" "must" "[I", .fieldLink "ZoneCapacity$Offers" 9 "ZoneCapacity$Offers" "ceiling" "I", .methodLink "ZoneCapacity$Offers" 86 ⟨"java/lang/Math", "min", "(II)I"⟩, .static ⟨"java/lang/Math", "min", "(II)I"⟩, .initialized "java/lang/Math", .code Lib.Math.min.name Lib.Math.min.code 2 (some .int), .fieldLink "ZoneCapacity$Offers" 15 "ZoneCapacity$Offers" "floors" "[I", .fieldLink "ZoneCapacity$Offers" 25 "ZoneCapacity$Offers" "kinds" "[I", .methodLink "ZoneCapacity$Offers" 81 ⟨"java/lang/Math", "max", "(II)I"⟩, .static ⟨"java/lang/Math", "max", "(II)I"⟩, .code Lib.Math.max.name Lib.Math.max.code 2 (some .int)]
theorem iX2_itsOf : ∀ w ∈ wX2_itsOf, w ∈ TW := tw_of (ids := [185, 387, 180, 178, 162, 647, 648, 87, 649, 165, 173, 644, 645, 646]) (by decide +kernel)
def f2_itsOf_j51 (mm : Mem) (x0 : Nat) (x1 : Int32) (x3 : Int32) : Option Int32 := bd (f6_at mm (x0 + 6) x1) (fun r3 => if r3 = (1 : Int32) then nm (mni x3 (mm x0 1)) (fun v4 => some (v4)) else some (x3))
theorem f2_itsOf_j51_ok {E : Ev} {l : Launch} {C : Cfg} {mm : Mem} {x : Int32} (hj : Dj C) (X : Ec E l C rmX2_itsOf) (B : Bx E RX2 tbX2_itsOf 4 (some .int)) (hQ : Rt E) (hr : Rs E (some (.int x)) mm) (x0 : Nat) (x1 : Int32) (x3 : Int32) (o_x0 : Ob x0 2) (hf : f2_itsOf_j51 mm x0 x1 x3 = some x) : G E 4 51 [(0, .ref x0), (1, .int x1), (3, .int x3)] [] mm := by
  unfold f2_itsOf_j51 at hf
  refine z_aload_n B 29 rfl 0 0 rfl rfl ?_
  refine z_getr 2 7 x0 B 30 rfl o_x0 rfl (iX2_itsOf _ (List.mem_of_getElem? (i := 3) rfl)) rfl ?_
  refine z_iload_n B 31 rfl 1 1 rfl rfl ?_
  obtain ⟨r3, ec, hf⟩ := bd_e hf
  refine z_callN [.ref (x0 + 6), .int x1] [] [.int r3] X B 32 rfl miX6_at ⟨List.mem_of_getElem? (i := 15) rfl, (iX2_itsOf _ (List.mem_of_getElem? (i := 1) rfl))⟩ (ctX6_at hj (obf_2_7 o_x0) ec) ⟨Nat.le_of_ble_eq_true rfl, Nat.le_of_ble_eq_true rfl⟩ rfl rfl (Nat.le_of_ble_eq_true rfl) rfl ?_
  refine z_iconst 1 B 33 rfl (by decide) ?_
  by_cases hc : r3 = (1 : Int32)
  · replace hf := (if_pos hc).symm.trans hf
    refine z_icmp_ne_f B 34 rfl 74 (by decide) hc ?_
    refine z_iload_n B 35 rfl 3 2 rfl rfl ?_
    refine z_aload_n B 36 rfl 0 0 rfl rfl ?_
    refine z_geti 2 1 x0 B 37 rfl o_x0 rfl (iX2_itsOf _ (List.mem_of_getElem? (i := 4) rfl)) rfl ?_
    refine z_mmin X B 38 rfl ⟨(iX2_itsOf _ (List.mem_of_getElem? (i := 5) rfl)), (iX2_itsOf _ (List.mem_of_getElem? (i := 6) rfl)), (iX2_itsOf _ (List.mem_of_getElem? (i := 7) rfl)), (iX2_itsOf _ (List.mem_of_getElem? (i := 8) rfl))⟩ ⟨Nat.le_of_ble_eq_true rfl, Nat.le_of_ble_eq_true rfl⟩ (Nat.le_of_ble_eq_true rfl) ?_
    obtain ⟨v4, ex, hf⟩ := nm_x hf
    refine z_top ex ?_
    refine z_goto B 39 rfl 75 (by decide) ?_
    cases hf
    exact z_iret B 41 rfl rfl hQ hr
  · replace hf := (if_neg hc).symm.trans hf
    refine z_icmp_ne_t B 34 rfl 74 (by decide) hc ?_
    refine z_iload_n B 40 rfl 3 2 rfl rfl ?_
    cases hf
    exact z_iret B 41 rfl rfl hQ hr
def f2_itsOf (mm : Mem) (a0 : Nat) (a1 : Int32) (a2 : Int32) : Option Int32 := if a2 = (3 : Int32) then some ((0 : Int32)) else bd (f6_at mm (a0 + 10) ((a1 * (3 : Int32)) + a2)) (fun r1 => bd (f6_at mm (a0 + 7) a1) (fun r2 => if r2 = 0 then bd (f6_at mm (a0 + 4) a1) (fun r5 => bd (f6_at mm (a0 + 1) r5) (fun r6 => nm (mxi r1 r6) (fun v7 => f2_itsOf_j51 mm a0 a1 v7))) else f2_itsOf_j51 mm a0 a1 r1))
theorem ctX2_itsOf {l : Launch} {C : Cfg} (hj : Dj C) {mm : Mem} {a0 : Nat} {a1 : Int32} {a2 : Int32} {x : Int32} (o_a0 : Ob a0 2) (hf : f2_itsOf mm a0 a1 a2 = some x) : Ct l C yX2_itsOf cX2_itsOf 4 (some .int) 1 21 [.ref a0, .int a1, .int a2] mm (some (.int x)) mm := by
  refine Ct.of (tb := tbX2_itsOf) hj miX2_itsOf.2.1 miX2_itsOf.1 dtX2_itsOf (Nat.le_of_ble_eq_true rfl) ?_
  intro E B hQ hr X
  unfold f2_itsOf at hf
  show G E 4 0 [(0, .ref a0), (1, .int a1), (2, .int a2)] [] mm
  refine z_iload_n B 0 rfl 2 2 rfl rfl ?_
  refine z_iconst 3 B 1 rfl (by decide) ?_
  by_cases hc : a2 = (3 : Int32)
  · replace hf := (if_pos hc).symm.trans hf
    refine z_icmp_ne_f B 2 rfl 7 (by decide) hc ?_
    refine z_iconst 0 B 3 rfl (by decide) ?_
    cases hf
    exact z_iret B 4 rfl rfl hQ hr
  · replace hf := (if_neg hc).symm.trans hf
    refine z_icmp_ne_t B 2 rfl 7 (by decide) hc ?_
    refine z_aload_n B 5 rfl 0 0 rfl rfl ?_
    refine z_getr 2 11 a0 B 6 rfl o_a0 rfl (iX2_itsOf _ (List.mem_of_getElem? (i := 0) rfl)) rfl ?_
    refine z_iload_n B 7 rfl 1 1 rfl rfl ?_
    refine z_iconst 3 B 8 rfl (by decide) ?_
    refine z_imul B 9 rfl ?_
    refine z_iload_n B 10 rfl 2 2 rfl rfl ?_
    refine z_iadd B 11 rfl ?_
    obtain ⟨r1, ec, hf⟩ := bd_e hf
    refine z_callN [.ref (a0 + 10), .int ((a1 * (3 : Int32)) + a2)] [] [.int r1] X B 12 rfl miX6_at ⟨List.mem_of_getElem? (i := 15) rfl, (iX2_itsOf _ (List.mem_of_getElem? (i := 1) rfl))⟩ (ctX6_at hj (obf_2_11 o_a0) ec) ⟨Nat.le_of_ble_eq_true rfl, Nat.le_of_ble_eq_true rfl⟩ rfl rfl (Nat.le_of_ble_eq_true rfl) rfl ?_
    refine z_istore_n [(3, .int r1), (0, .ref a0), (1, .int a1), (2, .int a2)] B 13 rfl 3 rfl (by decide) rfl ?_
    refine z_aload_n B 14 rfl 0 1 rfl rfl ?_
    refine z_getr 2 8 a0 B 15 rfl o_a0 rfl (iX2_itsOf _ (List.mem_of_getElem? (i := 2) rfl)) rfl ?_
    refine z_iload_n B 16 rfl 1 2 rfl rfl ?_
    obtain ⟨r2, ec, hf⟩ := bd_e hf
    refine z_callN [.ref (a0 + 7), .int a1] [] [.int r2] X B 17 rfl miX6_at ⟨List.mem_of_getElem? (i := 15) rfl, (iX2_itsOf _ (List.mem_of_getElem? (i := 1) rfl))⟩ (ctX6_at hj (obf_2_8 o_a0) ec) ⟨Nat.le_of_ble_eq_true rfl, Nat.le_of_ble_eq_true rfl⟩ rfl rfl (Nat.le_of_ble_eq_true rfl) rfl ?_
    by_cases hc : r2 = 0
    · replace hf := (if_pos hc).symm.trans hf
      refine z_if_ne_f B 18 rfl 51 (by decide) hc ?_
      refine z_iload_n B 19 rfl 3 0 rfl rfl ?_
      refine z_aload_n B 20 rfl 0 1 rfl rfl ?_
      refine z_getr 2 2 a0 B 21 rfl o_a0 rfl (iX2_itsOf _ (List.mem_of_getElem? (i := 9) rfl)) rfl ?_
      refine z_aload_n B 22 rfl 0 1 rfl rfl ?_
      refine z_getr 2 5 a0 B 23 rfl o_a0 rfl (iX2_itsOf _ (List.mem_of_getElem? (i := 10) rfl)) rfl ?_
      refine z_iload_n B 24 rfl 1 2 rfl rfl ?_
      obtain ⟨r5, ec, hf⟩ := bd_e hf
      refine z_callN [.ref (a0 + 4), .int a1] [.ref (a0 + 1), .int r1] [.int r5, .ref (a0 + 1), .int r1] X B 25 rfl miX6_at ⟨List.mem_of_getElem? (i := 15) rfl, (iX2_itsOf _ (List.mem_of_getElem? (i := 1) rfl))⟩ (ctX6_at hj (obf_2_5 o_a0) ec) ⟨Nat.le_of_ble_eq_true rfl, Nat.le_of_ble_eq_true rfl⟩ rfl rfl (Nat.le_of_ble_eq_true rfl) rfl ?_
      obtain ⟨r6, ec, hf⟩ := bd_e hf
      refine z_callN [.ref (a0 + 1), .int r5] [.int r1] [.int r6, .int r1] X B 26 rfl miX6_at ⟨List.mem_of_getElem? (i := 15) rfl, (iX2_itsOf _ (List.mem_of_getElem? (i := 1) rfl))⟩ (ctX6_at hj (obf_2_2 o_a0) ec) ⟨Nat.le_of_ble_eq_true rfl, Nat.le_of_ble_eq_true rfl⟩ rfl rfl (Nat.le_of_ble_eq_true rfl) rfl ?_
      refine z_mmax X B 27 rfl ⟨(iX2_itsOf _ (List.mem_of_getElem? (i := 11) rfl)), (iX2_itsOf _ (List.mem_of_getElem? (i := 12) rfl)), (iX2_itsOf _ (List.mem_of_getElem? (i := 7) rfl)), (iX2_itsOf _ (List.mem_of_getElem? (i := 13) rfl))⟩ ⟨Nat.le_of_ble_eq_true rfl, Nat.le_of_ble_eq_true rfl⟩ (Nat.le_of_ble_eq_true rfl) ?_
      obtain ⟨v7, ex, hf⟩ := nm_x hf
      refine z_top ex ?_
      refine z_istore_n [(3, .int v7), (0, .ref a0), (1, .int a1), (2, .int a2)] B 28 rfl 3 rfl (by decide) rfl ?_
      refine z_sub [(0, .ref a0), (1, .int a1), (3, .int v7)] [1, 2, 0] rfl ?_
      exact f2_itsOf_j51_ok hj X B hQ hr _ _ _ o_a0  hf
    · replace hf := (if_neg hc).symm.trans hf
      refine z_if_ne_t B 18 rfl 51 (by decide) hc ?_
      refine z_sub [(0, .ref a0), (1, .int a1), (3, .int r1)] [1, 2, 0] rfl ?_
      exact f2_itsOf_j51_ok hj X B hQ hr _ _ _ o_a0  hf
/-! ZoneCapacity$Auction.readLines()V -/
def tbX0_readLines : Tb := [(0, .aload_n 0, 1, 1), (1, .getfield 12, 3, 4), (4, .getfield 85, 3, 7), (7, .astore_n 1, 1, 8), (8, .iconst 0, 1, 9), (9, .istore_n 2, 1, 10), (10, .iload_n 2, 1, 11), (11, .aload_n 1, 1, 12), (12, .getfield 89, 3, 15), (15, .if_icmp .ge 58, 3, 18), (18, .iconst 0, 1, 19), (19, .istore_n 3, 1, 20), (20, .iload_n 3, 1, 21), (21, .iconst 4, 1, 22), (22, .if_icmp .ge 45, 3, 25), (25, .aload_n 0, 1, 26), (26, .getfield 31, 3, 29), (29, .iload_n 2, 1, 30), (30, .iconst 4, 1, 31), (31, .imul, 1, 32), (32, .iload_n 3, 1, 33), (33, .iadd, 1, 34), (34, .aload_n 1, 1, 35), (35, .iload_n 2, 1, 36), (36, .iload_n 3, 1, 37), (37, .invokevirtual 92, 3, 40), (40, .invokestatic 56, 3, 43), (43, .aload_n 0, 1, 44), (44, .getfield 34, 3, 47), (47, .iload_n 2, 1, 48), (48, .iconst 4, 1, 49), (49, .imul, 1, 50), (50, .iload_n 3, 1, 51), (51, .iadd, 1, 52), (52, .aload_n 1, 1, 53), (53, .iload_n 2, 1, 54), (54, .iload_n 3, 1, 55), (55, .invokevirtual 95, 3, 58), (58, .invokestatic 56, 3, 61), (61, .iinc 3 1, 3, 64), (64, .goto (-44), 3, 67), (67, .iinc 2 1, 3, 70), (70, .goto (-60), 3, 73), (73, .return_, 1, 74)]
theorem dtX0_readLines : ∀ q ∈ tbX0_readLines, decode cX0_readLines q.1 = .ok (q.2.1, q.2.2.1) ∧ q.1 + q.2.2.1 = q.2.2.2 := by decide +kernel
theorem miX0_readLines : MI yX0_readLines cX0_readLines 4 none 0 := ⟨tw_mem (List.mem_of_getElem? (i := 685) (by decide +kernel)) rfl, by decide, by decide +kernel, tw_mem (List.mem_of_getElem? (i := 72) (by decide +kernel)) rfl⟩
abbrev rmX0_readLines : Room := { frames := 3, cells := 0, slots := 0, locals := 66 }
def wX0_readLines : List Cond := [.fieldLink "ZoneCapacity$Auction" 12 "ZoneCapacity$Auction" "market" "LZoneCapacity$Market;", .fieldLink "ZoneCapacity$Auction" 85 "ZoneCapacity$Market" "offers" "LZoneCapacity$Offers;", .fieldLink "ZoneCapacity$Auction" 89 "ZoneCapacity$Offers" "many" "I", .fieldLink "ZoneCapacity$Auction" 31 "ZoneCapacity$Auction" "units" "[I", .methodLink "ZoneCapacity$Auction" 92 yX2_unitsOf, .instanceMethod yX2_unitsOf, .selects "ZoneCapacity$Offers" yX2_unitsOf yX2_unitsOf, .static yX6_put, .fieldLink "ZoneCapacity$Auction" 34 "ZoneCapacity$Auction" "its" "[I", .methodLink "ZoneCapacity$Auction" 95 yX2_itsOf, .instanceMethod yX2_itsOf, .selects "ZoneCapacity$Offers" yX2_itsOf yX2_itsOf]
theorem iX0_readLines : ∀ w ∈ wX0_readLines, w ∈ TW := tw_of (ids := [224, 216, 159, 234, 686, 636, 637, 115, 235, 688, 641, 642]) (by decide +kernel)
def f0_readLines_l20 (k10 : Nat → Nat → Int32 → Mem → Option Mem) : Nat → Nat → Nat → Int32 → Int32 → Mem → Option Mem
  | 0, _, _, _, _, _ => none
  | n + 1, x0, x1, x2, x3, mm => if x3 < (4 : Int32) then bd (f2_unitsOf mm x1 x2 x3) (fun r2 => bd (f6_put mm (x0 + 24) ((x2 * (4 : Int32)) + x3) r2) (fun r3 => bd (f2_itsOf r3 x1 x2 x3) (fun r4 => bd (f6_put r3 (x0 + 25) ((x2 * (4 : Int32)) + x3) r4) (fun r5 => nm (x3 + 1) (fun v6 => f0_readLines_l20 k10 n x0 x1 x2 v6 r5))))) else nm (x2 + 1) (fun v1 => k10 x0 x1 v1 mm)
theorem f0_readLines_l20_ok {E : Ev} {l : Launch} {C : Cfg} {x : Mem} {k10 : Nat → Nat → Int32 → Mem → Option Mem} (hj : Dj C) (X : Ec E l C rmX0_readLines) (B : Bx E RX0 tbX0_readLines 4 none) (hQ : Rt E) (hr : Rs E none x) (hk10 : ∀ (x0 : Nat) (x1 : Nat) (x2 : Int32) (mm : Mem), Ob x0 0 → Ob x1 2 → k10 x0 x1 x2 mm = some x → G E 4 10 [(0, .ref x0), (1, .ref x1), (2, .int x2)] [] mm) (n : Nat) : ∀ (x0 : Nat) (x1 : Nat) (x2 : Int32) (x3 : Int32) (mm : Mem), Ob x0 0 → Ob x1 2 → f0_readLines_l20 k10 n x0 x1 x2 x3 mm = some x → G E 4 20 [(0, .ref x0), (1, .ref x1), (2, .int x2), (3, .int x3)] [] mm := by
  induction n with
  | zero =>
    intro x0 x1 x2 x3 mm o_x0 o_x1 hf
    rw [f0_readLines_l20] at hf
    cases hf
  | succ n ih =>
    intro x0 x1 x2 x3 mm o_x0 o_x1 hf
    rw [f0_readLines_l20] at hf
    refine z_iload_n B 12 rfl 3 3 rfl rfl ?_
    refine z_iconst 4 B 13 rfl (by decide) ?_
    by_cases hc : x3 < (4 : Int32)
    · replace hf := (if_pos hc).symm.trans hf
      refine z_icmp_ge_f B 14 rfl 67 (by decide) hc ?_
      refine z_aload_n B 15 rfl 0 0 rfl rfl ?_
      refine z_getr 0 5 x0 B 16 rfl o_x0 rfl (iX0_readLines _ (List.mem_of_getElem? (i := 3) rfl)) rfl ?_
      refine z_iload_n B 17 rfl 2 2 rfl rfl ?_
      refine z_iconst 4 B 18 rfl (by decide) ?_
      refine z_imul B 19 rfl ?_
      refine z_iload_n B 20 rfl 3 3 rfl rfl ?_
      refine z_iadd B 21 rfl ?_
      refine z_aload_n B 22 rfl 1 1 rfl rfl ?_
      refine z_iload_n B 23 rfl 2 2 rfl rfl ?_
      refine z_iload_n B 24 rfl 3 3 rfl rfl ?_
      obtain ⟨r2, ec, hf⟩ := bd_e hf
      refine z_callV x1 2 [.int x2, .int x3] [.int ((x2 * (4 : Int32)) + x3), .ref (x0 + 24)] [.int r2, .int ((x2 * (4 : Int32)) + x3), .ref (x0 + 24)] X B 25 rfl o_x1 rfl rfl miX2_unitsOf ⟨(iX0_readLines _ (List.mem_of_getElem? (i := 4) rfl)), (iX0_readLines _ (List.mem_of_getElem? (i := 5) rfl)), (iX0_readLines _ (List.mem_of_getElem? (i := 6) rfl))⟩ (ctX2_unitsOf hj o_x1 ec) ⟨Nat.le_of_ble_eq_true rfl, Nat.le_of_ble_eq_true rfl⟩ rfl rfl (Nat.le_of_ble_eq_true rfl) rfl ?_
      obtain ⟨r3, ec, hf⟩ := bd_e hf
      refine z_callN [.ref (x0 + 24), .int ((x2 * (4 : Int32)) + x3), .int r2] [] [] X B 26 rfl miX6_put ⟨List.mem_of_getElem? (i := 18) rfl, (iX0_readLines _ (List.mem_of_getElem? (i := 7) rfl))⟩ (ctX6_put hj (obf_0_5 o_x0) ec) ⟨Nat.le_of_ble_eq_true rfl, Nat.le_of_ble_eq_true rfl⟩ rfl rfl (Nat.le_of_ble_eq_true rfl) rfl ?_
      refine z_aload_n B 27 rfl 0 0 rfl rfl ?_
      refine z_getr 0 6 x0 B 28 rfl o_x0 rfl (iX0_readLines _ (List.mem_of_getElem? (i := 8) rfl)) rfl ?_
      refine z_iload_n B 29 rfl 2 2 rfl rfl ?_
      refine z_iconst 4 B 30 rfl (by decide) ?_
      refine z_imul B 31 rfl ?_
      refine z_iload_n B 32 rfl 3 3 rfl rfl ?_
      refine z_iadd B 33 rfl ?_
      refine z_aload_n B 34 rfl 1 1 rfl rfl ?_
      refine z_iload_n B 35 rfl 2 2 rfl rfl ?_
      refine z_iload_n B 36 rfl 3 3 rfl rfl ?_
      obtain ⟨r4, ec, hf⟩ := bd_e hf
      refine z_callV x1 2 [.int x2, .int x3] [.int ((x2 * (4 : Int32)) + x3), .ref (x0 + 25)] [.int r4, .int ((x2 * (4 : Int32)) + x3), .ref (x0 + 25)] X B 37 rfl o_x1 rfl rfl miX2_itsOf ⟨(iX0_readLines _ (List.mem_of_getElem? (i := 9) rfl)), (iX0_readLines _ (List.mem_of_getElem? (i := 10) rfl)), (iX0_readLines _ (List.mem_of_getElem? (i := 11) rfl))⟩ (ctX2_itsOf hj o_x1 ec) ⟨Nat.le_of_ble_eq_true rfl, Nat.le_of_ble_eq_true rfl⟩ rfl rfl (Nat.le_of_ble_eq_true rfl) rfl ?_
      obtain ⟨r5, ec, hf⟩ := bd_e hf
      refine z_callN [.ref (x0 + 25), .int ((x2 * (4 : Int32)) + x3), .int r4] [] [] X B 38 rfl miX6_put ⟨List.mem_of_getElem? (i := 18) rfl, (iX0_readLines _ (List.mem_of_getElem? (i := 7) rfl))⟩ (ctX6_put hj (obf_0_6 o_x0) ec) ⟨Nat.le_of_ble_eq_true rfl, Nat.le_of_ble_eq_true rfl⟩ rfl rfl (Nat.le_of_ble_eq_true rfl) rfl ?_
      obtain ⟨v6, ex, hf⟩ := nm_x hf
      refine z_iinc v6 [(3, .int v6), (0, .ref x0), (1, .ref x1), (2, .int x2)] B 39 rfl 3 rfl (ex.symm) (by decide) rfl ?_
      refine z_goto B 40 rfl 20 (by decide) ?_
      refine z_sub [(0, .ref x0), (1, .ref x1), (2, .int x2), (3, .int v6)] [1, 2, 3, 0] rfl ?_
      exact ih _ _ _ _ _ o_x0 o_x1  hf
    · replace hf := (if_neg hc).symm.trans hf
      refine z_icmp_ge_t B 14 rfl 67 (by decide) hc ?_
      obtain ⟨v1, ex, hf⟩ := nm_x hf
      refine z_iinc v1 [(2, .int v1), (0, .ref x0), (1, .ref x1), (3, .int x3)] B 41 rfl 2 rfl (ex.symm) (by decide) rfl ?_
      refine z_goto B 42 rfl 10 (by decide) ?_
      refine z_sub [(0, .ref x0), (1, .ref x1), (2, .int v1)] [1, 2, 0] rfl ?_
      exact hk10 _ _ _ _ o_x0 o_x1  hf
def f0_readLines_l10 : Nat → Nat → Nat → Int32 → Mem → Option Mem
  | 0, _, _, _, _ => none
  | n + 1, x0, x1, x2, mm => if x2 < (mm x1 0) then f0_readLines_l20 (fun x0 x1 x2 mm => f0_readLines_l10 n x0 x1 x2 mm) FU x0 x1 x2 (0 : Int32) mm else some mm
theorem f0_readLines_l10_ok {E : Ev} {l : Launch} {C : Cfg} {x : Mem} (hj : Dj C) (X : Ec E l C rmX0_readLines) (B : Bx E RX0 tbX0_readLines 4 none) (hQ : Rt E) (hr : Rs E none x) (n : Nat) : ∀ (x0 : Nat) (x1 : Nat) (x2 : Int32) (mm : Mem), Ob x0 0 → Ob x1 2 → f0_readLines_l10 n x0 x1 x2 mm = some x → G E 4 10 [(0, .ref x0), (1, .ref x1), (2, .int x2)] [] mm := by
  induction n with
  | zero =>
    intro x0 x1 x2 mm o_x0 o_x1 hf
    rw [f0_readLines_l10] at hf
    cases hf
  | succ n ih =>
    intro x0 x1 x2 mm o_x0 o_x1 hf
    rw [f0_readLines_l10] at hf
    refine z_iload_n B 6 rfl 2 2 rfl rfl ?_
    refine z_aload_n B 7 rfl 1 1 rfl rfl ?_
    refine z_geti 2 0 x1 B 8 rfl o_x1 rfl (iX0_readLines _ (List.mem_of_getElem? (i := 2) rfl)) rfl ?_
    by_cases hc : x2 < (mm x1 0)
    · replace hf := (if_pos hc).symm.trans hf
      refine z_icmp_ge_f B 9 rfl 73 (by decide) hc ?_
      refine z_iconst 0 B 10 rfl (by decide) ?_
      refine z_istore_n [(3, .int (0 : Int32)), (0, .ref x0), (1, .ref x1), (2, .int x2)] B 11 rfl 3 rfl (by decide) rfl ?_
      refine z_sub [(0, .ref x0), (1, .ref x1), (2, .int x2), (3, .int (0 : Int32))] [1, 2, 3, 0] rfl ?_
      exact f0_readLines_l20_ok hj X B hQ hr ih FU _ _ _ _ _ o_x0 o_x1  hf
    · replace hf := (if_neg hc).symm.trans hf
      refine z_icmp_ge_t B 9 rfl 73 (by decide) hc ?_
      cases hf
      exact z_vret B 43 rfl hQ hr
def f0_readLines (mm : Mem) (a0 : Nat) : Option Mem := f0_readLines_l10 FU a0 (a0 + 1 + 8) (0 : Int32) mm
theorem ctX0_readLines {l : Launch} {C : Cfg} (hj : Dj C) {mm : Mem} {a0 : Nat} {x : Mem} (o_a0 : Ob a0 0) (hf : f0_readLines mm a0 = some x) : Ct l C yX0_readLines cX0_readLines 4 none 3 66 [.ref a0] mm none x := by
  refine Ct.of (tb := tbX0_readLines) hj miX0_readLines.2.1 miX0_readLines.1 dtX0_readLines (Nat.le_of_ble_eq_true rfl) ?_
  intro E B hQ hr X
  unfold f0_readLines at hf
  show G E 4 0 [(0, .ref a0)] [] mm
  refine z_aload_n B 0 rfl 0 0 rfl rfl ?_
  refine z_getr 0 0 a0 B 1 rfl o_a0 rfl (iX0_readLines _ (List.mem_of_getElem? (i := 0) rfl)) rfl ?_
  refine z_getr 1 1 (a0 + 1) B 2 rfl (obf_0_0 o_a0) rfl (iX0_readLines _ (List.mem_of_getElem? (i := 1) rfl)) rfl ?_
  refine z_astore_n [(1, .ref (a0 + 1 + 8)), (0, .ref a0)] B 3 rfl 1 rfl (by decide) rfl ?_
  refine z_iconst 0 B 4 rfl (by decide) ?_
  refine z_istore_n [(2, .int (0 : Int32)), (1, .ref (a0 + 1 + 8)), (0, .ref a0)] B 5 rfl 2 rfl (by decide) rfl ?_
  refine z_sub [(0, .ref a0), (1, .ref (a0 + 1 + 8)), (2, .int (0 : Int32))] [2, 1, 0] rfl ?_
  exact f0_readLines_l10_ok hj X B hQ hr FU _ _ _ _ o_a0 (obf_1_1 (obf_0_0 o_a0))  hf
/-! ZoneCapacity$Zones.firstPrice(I)I -/
def tbX5_firstPrice : Tb := [(0, .aload_n 0, 1, 1), (1, .getfield 25, 3, 4), (4, .iload_n 1, 1, 5), (5, .invokestatic 46, 3, 8), (8, .ifCond .ne 7, 3, 11), (11, .iconst 0, 1, 12), (12, .goto 13, 3, 15), (15, .aload_n 0, 1, 16), (16, .getfield 31, 3, 19), (19, .iload_n 1, 1, 20), (20, .iconst 4, 1, 21), (21, .imul, 1, 22), (22, .invokestatic 46, 3, 25), (25, .ireturn, 1, 26)]
theorem dtX5_firstPrice : ∀ q ∈ tbX5_firstPrice, decode cX5_firstPrice q.1 = .ok (q.2.1, q.2.2.1) ∧ q.1 + q.2.2.1 = q.2.2.2 := by decide +kernel
theorem miX5_firstPrice : MI yX5_firstPrice cX5_firstPrice 2 (some .int) 1 := ⟨tw_mem (List.mem_of_getElem? (i := 720) (by decide +kernel)) rfl, by decide, by decide +kernel, tw_mem (List.mem_of_getElem? (i := 74) (by decide +kernel)) rfl⟩
abbrev rmX5_firstPrice : Room := { frames := 1, cells := 0, slots := 0, locals := 21 }
def wX5_firstPrice : List Cond := [.fieldLink "ZoneCapacity$Zones" 25 "ZoneCapacity$Zones" "points" "[I", .static yX6_at, .fieldLink "ZoneCapacity$Zones" 31 "ZoneCapacity$Zones" "pointPrices" "[I"]
theorem iX5_firstPrice : ∀ w ∈ wX5_firstPrice, w ∈ TW := tw_of (ids := [132, 387, 135]) (by decide +kernel)
def f5_firstPrice (mm : Mem) (a0 : Nat) (a1 : Int32) : Option Int32 := bd (f6_at mm (a0 + 4) a1) (fun r1 => if r1 = 0 then some ((0 : Int32)) else bd (f6_at mm (a0 + 6) (a1 * (4 : Int32))) (fun r2 => some (r2)))
theorem ctX5_firstPrice {l : Launch} {C : Cfg} (hj : Dj C) {mm : Mem} {a0 : Nat} {a1 : Int32} {x : Int32} (o_a0 : Ob a0 5) (hf : f5_firstPrice mm a0 a1 = some x) : Ct l C yX5_firstPrice cX5_firstPrice 2 (some .int) 1 21 [.ref a0, .int a1] mm (some (.int x)) mm := by
  refine Ct.of (tb := tbX5_firstPrice) hj miX5_firstPrice.2.1 miX5_firstPrice.1 dtX5_firstPrice (Nat.le_of_ble_eq_true rfl) ?_
  intro E B hQ hr X
  unfold f5_firstPrice at hf
  show G E 2 0 [(0, .ref a0), (1, .int a1)] [] mm
  refine z_aload_n B 0 rfl 0 0 rfl rfl ?_
  refine z_getr 5 4 a0 B 1 rfl o_a0 rfl (iX5_firstPrice _ (List.mem_of_getElem? (i := 0) rfl)) rfl ?_
  refine z_iload_n B 2 rfl 1 1 rfl rfl ?_
  obtain ⟨r1, ec, hf⟩ := bd_e hf
  refine z_callN [.ref (a0 + 4), .int a1] [] [.int r1] X B 3 rfl miX6_at ⟨List.mem_of_getElem? (i := 13) rfl, (iX5_firstPrice _ (List.mem_of_getElem? (i := 1) rfl))⟩ (ctX6_at hj (obf_5_4 o_a0) ec) ⟨Nat.le_of_ble_eq_true rfl, Nat.le_of_ble_eq_true rfl⟩ rfl rfl (Nat.le_of_ble_eq_true rfl) rfl ?_
  by_cases hc : r1 = 0
  · replace hf := (if_pos hc).symm.trans hf
    refine z_if_ne_f B 4 rfl 15 (by decide) hc ?_
    refine z_iconst 0 B 5 rfl (by decide) ?_
    refine z_goto B 6 rfl 25 (by decide) ?_
    cases hf
    exact z_iret B 13 rfl rfl hQ hr
  · replace hf := (if_neg hc).symm.trans hf
    refine z_if_ne_t B 4 rfl 15 (by decide) hc ?_
    refine z_aload_n B 7 rfl 0 0 rfl rfl ?_
    refine z_getr 5 6 a0 B 8 rfl o_a0 rfl (iX5_firstPrice _ (List.mem_of_getElem? (i := 2) rfl)) rfl ?_
    refine z_iload_n B 9 rfl 1 1 rfl rfl ?_
    refine z_iconst 4 B 10 rfl (by decide) ?_
    refine z_imul B 11 rfl ?_
    obtain ⟨r2, ec, hf⟩ := bd_e hf
    refine z_callN [.ref (a0 + 6), .int (a1 * (4 : Int32))] [] [.int r2] X B 12 rfl miX6_at ⟨List.mem_of_getElem? (i := 13) rfl, (iX5_firstPrice _ (List.mem_of_getElem? (i := 1) rfl))⟩ (ctX6_at hj (obf_5_6 o_a0) ec) ⟨Nat.le_of_ble_eq_true rfl, Nat.le_of_ble_eq_true rfl⟩ rfl rfl (Nat.le_of_ble_eq_true rfl) rfl ?_
    cases hf
    exact z_iret B 13 rfl rfl hQ hr
/-! ZoneCapacity$Auction.readTop()V -/
def tbX0_readTop : Tb := [(0, .aload_n 0, 1, 1), (1, .iconst 0, 1, 2), (2, .putfield 98, 3, 5), (5, .iconst 0, 1, 6), (6, .istore_n 1, 1, 7), (7, .iload_n 1, 1, 8), (8, .aload_n 0, 1, 9), (9, .getfield 12, 3, 12), (12, .getfield 60, 3, 15), (15, .getfield 64, 3, 18), (18, .if_icmp .ge 31, 3, 21), (21, .aload_n 0, 1, 22), (22, .aload_n 0, 1, 23), (23, .getfield 98, 3, 26), (26, .aload_n 0, 1, 27), (27, .getfield 12, 3, 30), (30, .getfield 60, 3, 33), (33, .iload_n 1, 1, 34), (34, .invokevirtual 101, 3, 37), (37, .invokestatic 105, 3, 40), (40, .putfield 98, 3, 43), (43, .iinc 1 1, 3, 46), (46, .goto (-39), 3, 49), (49, .return_, 1, 50)]
theorem dtX0_readTop : ∀ q ∈ tbX0_readTop, decode cX0_readTop q.1 = .ok (q.2.1, q.2.2.1) ∧ q.1 + q.2.2.1 = q.2.2.2 := by decide +kernel
theorem miX0_readTop : MI yX0_readTop cX0_readTop 2 none 0 := ⟨tw_mem (List.mem_of_getElem? (i := 716) (by decide +kernel)) rfl, by decide, by decide +kernel, tw_mem (List.mem_of_getElem? (i := 72) (by decide +kernel)) rfl⟩
abbrev rmX0_readTop : Room := { frames := 2, cells := 0, slots := 0, locals := 42 }
def wX0_readTop : List Cond := [.fieldLink "ZoneCapacity$Auction" 98 "ZoneCapacity$Auction" "top" "I", .fieldLink "ZoneCapacity$Auction" 12 "ZoneCapacity$Auction" "market" "LZoneCapacity$Market;", .fieldLink "ZoneCapacity$Auction" 60 "ZoneCapacity$Market" "zones" "LZoneCapacity$Zones;", .fieldLink "ZoneCapacity$Auction" 64 "ZoneCapacity$Zones" "many" "I", .methodLink "ZoneCapacity$Auction" 101 yX5_firstPrice, .instanceMethod yX5_firstPrice, .selects "ZoneCapacity$Zones" yX5_firstPrice yX5_firstPrice, .methodLink "ZoneCapacity$Auction" 105 ⟨"java/lang/Math", "max", "(II)I"⟩, .static ⟨"java/lang/Math", "max", "(II)I"⟩, .initialized "java/lang/Math", .code Lib.Math.max.name Lib.Math.max.code 2 (some .int)]
theorem iX0_readTop : ∀ w ∈ wX0_readTop, w ∈ TW := tw_of (ids := [240, 224, 212, 118, 717, 718, 719, 721, 645, 87, 646]) (by decide +kernel)
def f0_readTop_l7 : Nat → Nat → Int32 → Mem → Option Mem
  | 0, _, _, _ => none
  | n + 1, x0, x1, mm => if x1 < (mm (x0 + 1 + 1) 0) then bd (f5_firstPrice mm (x0 + 1 + 1) x1) (fun r2 => nm (mxi (mm x0 11) r2) (fun v3 => nm (up2 mm x0 11 v3) (fun m4 => nm (x1 + 1) (fun v5 => f0_readTop_l7 n x0 v5 m4)))) else some mm
theorem f0_readTop_l7_ok {E : Ev} {l : Launch} {C : Cfg} {x : Mem} (hj : Dj C) (X : Ec E l C rmX0_readTop) (B : Bx E RX0 tbX0_readTop 2 none) (hQ : Rt E) (hr : Rs E none x) (n : Nat) : ∀ (x0 : Nat) (x1 : Int32) (mm : Mem), Ob x0 0 → f0_readTop_l7 n x0 x1 mm = some x → G E 2 7 [(0, .ref x0), (1, .int x1)] [] mm := by
  induction n with
  | zero =>
    intro x0 x1 mm o_x0 hf
    rw [f0_readTop_l7] at hf
    cases hf
  | succ n ih =>
    intro x0 x1 mm o_x0 hf
    rw [f0_readTop_l7] at hf
    refine z_iload_n B 5 rfl 1 1 rfl rfl ?_
    refine z_aload_n B 6 rfl 0 0 rfl rfl ?_
    refine z_getr 0 0 x0 B 7 rfl o_x0 rfl (iX0_readTop _ (List.mem_of_getElem? (i := 1) rfl)) rfl ?_
    refine z_getr 1 0 (x0 + 1) B 8 rfl (obf_0_0 o_x0) rfl (iX0_readTop _ (List.mem_of_getElem? (i := 2) rfl)) rfl ?_
    refine z_geti 5 0 (x0 + 1 + 1) B 9 rfl (obf_1_0 (obf_0_0 o_x0)) rfl (iX0_readTop _ (List.mem_of_getElem? (i := 3) rfl)) rfl ?_
    by_cases hc : x1 < (mm (x0 + 1 + 1) 0)
    · replace hf := (if_pos hc).symm.trans hf
      refine z_icmp_ge_f B 10 rfl 49 (by decide) hc ?_
      refine z_aload_n B 11 rfl 0 0 rfl rfl ?_
      refine z_aload_n B 12 rfl 0 0 rfl rfl ?_
      refine z_geti 0 11 x0 B 13 rfl o_x0 rfl (iX0_readTop _ (List.mem_of_getElem? (i := 0) rfl)) rfl ?_
      refine z_aload_n B 14 rfl 0 0 rfl rfl ?_
      refine z_getr 0 0 x0 B 15 rfl o_x0 rfl (iX0_readTop _ (List.mem_of_getElem? (i := 1) rfl)) rfl ?_
      refine z_getr 1 0 (x0 + 1) B 16 rfl (obf_0_0 o_x0) rfl (iX0_readTop _ (List.mem_of_getElem? (i := 2) rfl)) rfl ?_
      refine z_iload_n B 17 rfl 1 1 rfl rfl ?_
      obtain ⟨r2, ec, hf⟩ := bd_e hf
      refine z_callV (x0 + 1 + 1) 5 [.int x1] [.int (mm x0 11), .ref x0] [.int r2, .int (mm x0 11), .ref x0] X B 18 rfl (obf_1_0 (obf_0_0 o_x0)) rfl rfl miX5_firstPrice ⟨(iX0_readTop _ (List.mem_of_getElem? (i := 4) rfl)), (iX0_readTop _ (List.mem_of_getElem? (i := 5) rfl)), (iX0_readTop _ (List.mem_of_getElem? (i := 6) rfl))⟩ (ctX5_firstPrice hj (obf_1_0 (obf_0_0 o_x0)) ec) ⟨Nat.le_of_ble_eq_true rfl, Nat.le_of_ble_eq_true rfl⟩ rfl rfl (Nat.le_of_ble_eq_true rfl) rfl ?_
      refine z_mmax X B 19 rfl ⟨(iX0_readTop _ (List.mem_of_getElem? (i := 7) rfl)), (iX0_readTop _ (List.mem_of_getElem? (i := 8) rfl)), (iX0_readTop _ (List.mem_of_getElem? (i := 9) rfl)), (iX0_readTop _ (List.mem_of_getElem? (i := 10) rfl))⟩ ⟨Nat.le_of_ble_eq_true rfl, Nat.le_of_ble_eq_true rfl⟩ (Nat.le_of_ble_eq_true rfl) ?_
      obtain ⟨v3, ex, hf⟩ := nm_x hf
      refine z_top ex ?_
      refine z_puti 0 11 x0 B 20 rfl o_x0 rfl (iX0_readTop _ (List.mem_of_getElem? (i := 0) rfl)) rfl (ty := .int) (by decide) rfl rfl rfl ?_
      obtain ⟨m4, ex, hf⟩ := nm_x hf
      refine z_mem ex ?_
      obtain ⟨v5, ex, hf⟩ := nm_x hf
      refine z_iinc v5 [(1, .int v5), (0, .ref x0)] B 21 rfl 1 rfl (ex.symm) (by decide) rfl ?_
      refine z_goto B 22 rfl 7 (by decide) ?_
      refine z_sub [(0, .ref x0), (1, .int v5)] [1, 0] rfl ?_
      exact ih _ _ _ o_x0  hf
    · replace hf := (if_neg hc).symm.trans hf
      refine z_icmp_ge_t B 10 rfl 49 (by decide) hc ?_
      cases hf
      exact z_vret B 23 rfl hQ hr
def f0_readTop (mm : Mem) (a0 : Nat) : Option Mem := nm (up2 mm a0 11 (0 : Int32)) (fun m1 => f0_readTop_l7 FU a0 (0 : Int32) m1)
theorem ctX0_readTop {l : Launch} {C : Cfg} (hj : Dj C) {mm : Mem} {a0 : Nat} {x : Mem} (o_a0 : Ob a0 0) (hf : f0_readTop mm a0 = some x) : Ct l C yX0_readTop cX0_readTop 2 none 2 42 [.ref a0] mm none x := by
  refine Ct.of (tb := tbX0_readTop) hj miX0_readTop.2.1 miX0_readTop.1 dtX0_readTop (Nat.le_of_ble_eq_true rfl) ?_
  intro E B hQ hr X
  unfold f0_readTop at hf
  show G E 2 0 [(0, .ref a0)] [] mm
  refine z_aload_n B 0 rfl 0 0 rfl rfl ?_
  refine z_iconst 0 B 1 rfl (by decide) ?_
  refine z_puti 0 11 a0 B 2 rfl o_a0 rfl (iX0_readTop _ (List.mem_of_getElem? (i := 0) rfl)) rfl (ty := .int) (by decide) rfl rfl rfl ?_
  obtain ⟨m1, ex, hf⟩ := nm_x hf
  refine z_mem ex ?_
  refine z_iconst 0 B 3 rfl (by decide) ?_
  refine z_istore_n [(1, .int (0 : Int32)), (0, .ref a0)] B 4 rfl 1 rfl (by decide) rfl ?_
  refine z_sub [(0, .ref a0), (1, .int (0 : Int32))] [1, 0] rfl ?_
  exact f0_readTop_l7_ok hj X B hQ hr FU _ _ _ o_a0  hf
/-! ZoneCapacity$Zones.wantedBetween(IIII)I -/
def tbX5_wantedBetween : Tb := [(0, .iload_n 0, 1, 1), (1, .iload_n 1, 1, 2), (2, .isub, 1, 3), (3, .istore 4, 2, 5), (5, .iload 4, 2, 7), (7, .ifCond .gt 5, 3, 10), (10, .iconst 0, 1, 11), (11, .ireturn, 1, 12), (12, .iload_n 0, 1, 13), (13, .iload_n 3, 1, 14), (14, .isub, 1, 15), (15, .iconst 1, 1, 16), (16, .iadd, 1, 17), (17, .iload_n 2, 1, 18), (18, .imul, 1, 19), (19, .iconst 1, 1, 20), (20, .isub, 1, 21), (21, .iload 4, 2, 23), (23, .idiv, 1, 24), (24, .ireturn, 1, 25)]
theorem dtX5_wantedBetween : ∀ q ∈ tbX5_wantedBetween, decode cX5_wantedBetween q.1 = .ok (q.2.1, q.2.2.1) ∧ q.1 + q.2.2.1 = q.2.2.2 := by decide +kernel
theorem miX5_wantedBetween : MI yX5_wantedBetween cX5_wantedBetween 5 (some .int) 4 := ⟨tw_mem (List.mem_of_getElem? (i := 672) (by decide +kernel)) rfl, by decide, by decide +kernel, tw_mem (List.mem_of_getElem? (i := 74) (by decide +kernel)) rfl⟩
abbrev rmX5_wantedBetween : Room := { frames := 0, cells := 0, slots := 0, locals := 0 }
def f5_wantedBetween (mm : Mem) (a0 : Int32) (a1 : Int32) (a2 : Int32) (a3 : Int32) : Option Int32 := nm (a0 - a1) (fun v1 => if 0 < v1 then dvz v1 (some (((((a0 - a3) + (1 : Int32)) * a2) - (1 : Int32)) / v1)) else some ((0 : Int32)))
theorem ctX5_wantedBetween {l : Launch} {C : Cfg} (hj : Dj C) {mm : Mem} {a0 : Int32} {a1 : Int32} {a2 : Int32} {a3 : Int32} {x : Int32} (hf : f5_wantedBetween mm a0 a1 a2 a3 = some x) : Ct l C yX5_wantedBetween cX5_wantedBetween 5 (some .int) 0 0 [.int a0, .int a1, .int a2, .int a3] mm (some (.int x)) mm := by
  refine Ct.of (tb := tbX5_wantedBetween) hj miX5_wantedBetween.2.1 miX5_wantedBetween.1 dtX5_wantedBetween (Nat.le_of_ble_eq_true rfl) ?_
  intro E B hQ hr X
  unfold f5_wantedBetween at hf
  show G E 5 0 [(0, .int a0), (1, .int a1), (2, .int a2), (3, .int a3)] [] mm
  refine z_iload_n B 0 rfl 0 0 rfl rfl ?_
  refine z_iload_n B 1 rfl 1 1 rfl rfl ?_
  refine z_isub B 2 rfl ?_
  obtain ⟨v1, ex, hf⟩ := nm_x hf
  refine z_top ex ?_
  refine z_istore [(4, .int v1), (0, .int a0), (1, .int a1), (2, .int a2), (3, .int a3)] B 3 rfl (by decide) rfl ?_
  refine z_iload B 4 rfl 0 rfl ?_
  by_cases hc : 0 < v1
  · replace hf := (if_pos hc).symm.trans hf
    refine z_if_gt_t B 5 rfl 12 (by decide) hc ?_
    refine z_iload_n B 8 rfl 0 1 rfl rfl ?_
    refine z_iload_n B 9 rfl 3 4 rfl rfl ?_
    refine z_isub B 10 rfl ?_
    refine z_iconst 1 B 11 rfl (by decide) ?_
    refine z_iadd B 12 rfl ?_
    refine z_iload_n B 13 rfl 2 3 rfl rfl ?_
    refine z_imul B 14 rfl ?_
    refine z_iconst 1 B 15 rfl (by decide) ?_
    refine z_isub B 16 rfl ?_
    refine z_iload B 17 rfl 0 rfl ?_
    obtain ⟨hz, hf⟩ := dvz_e hf
    refine z_idiv B 18 rfl hz ?_
    cases hf
    exact z_iret B 19 rfl rfl hQ hr
  · replace hf := (if_neg hc).symm.trans hf
    refine z_if_gt_f B 5 rfl 12 (by decide) hc ?_
    refine z_iconst 0 B 6 rfl (by decide) ?_
    cases hf
    exact z_iret B 7 rfl rfl hQ hr
/-! ZoneCapacity$Zones.wantedFrom(II)I -/
def tbX5_wantedFrom : Tb := [(0, .iconst 0, 1, 1), (1, .istore_n 3, 1, 2), (2, .iconst 0, 1, 3), (3, .istore 4, 2, 5), (5, .iconst 0, 1, 6), (6, .istore 5, 2, 8), (8, .iload 5, 2, 10), (10, .aload_n 0, 1, 11), (11, .getfield 25, 3, 14), (14, .iload_n 1, 1, 15), (15, .invokestatic 46, 3, 18), (18, .if_icmp .ge 76, 3, 21), (21, .aload_n 0, 1, 22), (22, .getfield 28, 3, 25), (25, .iload_n 1, 1, 26), (26, .iconst 4, 1, 27), (27, .imul, 1, 28), (28, .iload 5, 2, 30), (30, .iadd, 1, 31), (31, .invokestatic 46, 3, 34), (34, .istore 6, 2, 36), (36, .aload_n 0, 1, 37), (37, .getfield 31, 3, 40), (40, .iload_n 1, 1, 41), (41, .iconst 4, 1, 42), (42, .imul, 1, 43), (43, .iload 5, 2, 45), (45, .iadd, 1, 46), (46, .invokestatic 46, 3, 49), (49, .istore 7, 2, 51), (51, .iload 7, 2, 53), (53, .iload_n 2, 1, 54), (54, .if_icmp .ge 27, 3, 57), (57, .iload 5, 2, 59), (59, .ifCond .ne 7, 3, 62), (62, .iconst 0, 1, 63), (63, .goto 17, 3, 66), (66, .iload_n 3, 1, 67), (67, .iload 4, 2, 69), (69, .iload 7, 2, 71), (71, .iload 6, 2, 73), (73, .iload_n 3, 1, 74), (74, .isub, 1, 75), (75, .iload_n 2, 1, 76), (76, .invokestatic 60, 3, 79), (79, .iadd, 1, 80), (80, .ireturn, 1, 81), (81, .iload 6, 2, 83), (83, .istore_n 3, 1, 84), (84, .iload 7, 2, 86), (86, .istore 4, 2, 88), (88, .iinc 5 1, 3, 91), (91, .goto (-83), 3, 94), (94, .iload_n 3, 1, 95), (95, .ireturn, 1, 96)]
theorem dtX5_wantedFrom : ∀ q ∈ tbX5_wantedFrom, decode cX5_wantedFrom q.1 = .ok (q.2.1, q.2.2.1) ∧ q.1 + q.2.2.1 = q.2.2.2 := by decide +kernel
theorem miX5_wantedFrom : MI yX5_wantedFrom cX5_wantedFrom 8 (some .int) 2 := ⟨tw_mem (List.mem_of_getElem? (i := 669) (by decide +kernel)) rfl, by decide, by decide +kernel, tw_mem (List.mem_of_getElem? (i := 74) (by decide +kernel)) rfl⟩
abbrev rmX5_wantedFrom : Room := { frames := 1, cells := 0, slots := 0, locals := 24 }
def wX5_wantedFrom : List Cond := [.fieldLink "ZoneCapacity$Zones" 25 "ZoneCapacity$Zones" "points" "[I", .static yX6_at, .fieldLink "ZoneCapacity$Zones" 28 "ZoneCapacity$Zones" "pointUnits" "[I", .fieldLink "ZoneCapacity$Zones" 31 "ZoneCapacity$Zones" "pointPrices" "[I", .methodLink "ZoneCapacity$Zones" 60 yX5_wantedBetween, .static yX5_wantedBetween]
theorem iX5_wantedFrom : ∀ w ∈ wX5_wantedFrom, w ∈ TW := tw_of (ids := [132, 387, 134, 135, 670, 671]) (by decide +kernel)
def f5_wantedFrom_l8 (mm : Mem) : Nat → Nat → Int32 → Int32 → Int32 → Int32 → Int32 → Option Int32
  | 0, _, _, _, _, _, _ => none
  | n + 1, x0, x1, x2, x3, x4, x5 => bd (f6_at mm (x0 + 4) x1) (fun r1 => if x5 < r1 then bd (f6_at mm (x0 + 5) ((x1 * (4 : Int32)) + x5)) (fun r2 => bd (f6_at mm (x0 + 6) ((x1 * (4 : Int32)) + x5)) (fun r3 => if r3 < x2 then if x5 = 0 then some ((0 : Int32)) else bd (f5_wantedBetween mm x4 r3 (r2 - x3) x2) (fun r5 => some (x3 + r5)) else nm (x5 + 1) (fun v4 => f5_wantedFrom_l8 mm n x0 x1 x2 r2 r3 v4))) else some (x3))
theorem f5_wantedFrom_l8_ok {E : Ev} {l : Launch} {C : Cfg} {mm : Mem} {x : Int32} (hj : Dj C) (X : Ec E l C rmX5_wantedFrom) (B : Bx E RX5 tbX5_wantedFrom 8 (some .int)) (hQ : Rt E) (hr : Rs E (some (.int x)) mm) (n : Nat) : ∀ (x0 : Nat) (x1 : Int32) (x2 : Int32) (x3 : Int32) (x4 : Int32) (x5 : Int32), Ob x0 5 → f5_wantedFrom_l8 mm n x0 x1 x2 x3 x4 x5 = some x → G E 8 8 [(0, .ref x0), (1, .int x1), (2, .int x2), (3, .int x3), (4, .int x4), (5, .int x5)] [] mm := by
  induction n with
  | zero =>
    intro x0 x1 x2 x3 x4 x5 o_x0 hf
    rw [f5_wantedFrom_l8] at hf
    cases hf
  | succ n ih =>
    intro x0 x1 x2 x3 x4 x5 o_x0 hf
    rw [f5_wantedFrom_l8] at hf
    refine z_iload B 6 rfl 5 rfl ?_
    refine z_aload_n B 7 rfl 0 0 rfl rfl ?_
    refine z_getr 5 4 x0 B 8 rfl o_x0 rfl (iX5_wantedFrom _ (List.mem_of_getElem? (i := 0) rfl)) rfl ?_
    refine z_iload_n B 9 rfl 1 1 rfl rfl ?_
    obtain ⟨r1, ec, hf⟩ := bd_e hf
    refine z_callN [.ref (x0 + 4), .int x1] [.int x5] [.int r1, .int x5] X B 10 rfl miX6_at ⟨List.mem_of_getElem? (i := 13) rfl, (iX5_wantedFrom _ (List.mem_of_getElem? (i := 1) rfl))⟩ (ctX6_at hj (obf_5_4 o_x0) ec) ⟨Nat.le_of_ble_eq_true rfl, Nat.le_of_ble_eq_true rfl⟩ rfl rfl (Nat.le_of_ble_eq_true rfl) rfl ?_
    by_cases hc : x5 < r1
    · replace hf := (if_pos hc).symm.trans hf
      refine z_icmp_ge_f B 11 rfl 94 (by decide) hc ?_
      refine z_aload_n B 12 rfl 0 0 rfl rfl ?_
      refine z_getr 5 5 x0 B 13 rfl o_x0 rfl (iX5_wantedFrom _ (List.mem_of_getElem? (i := 2) rfl)) rfl ?_
      refine z_iload_n B 14 rfl 1 1 rfl rfl ?_
      refine z_iconst 4 B 15 rfl (by decide) ?_
      refine z_imul B 16 rfl ?_
      refine z_iload B 17 rfl 5 rfl ?_
      refine z_iadd B 18 rfl ?_
      obtain ⟨r2, ec, hf⟩ := bd_e hf
      refine z_callN [.ref (x0 + 5), .int ((x1 * (4 : Int32)) + x5)] [] [.int r2] X B 19 rfl miX6_at ⟨List.mem_of_getElem? (i := 13) rfl, (iX5_wantedFrom _ (List.mem_of_getElem? (i := 1) rfl))⟩ (ctX6_at hj (obf_5_5 o_x0) ec) ⟨Nat.le_of_ble_eq_true rfl, Nat.le_of_ble_eq_true rfl⟩ rfl rfl (Nat.le_of_ble_eq_true rfl) rfl ?_
      refine z_istore [(6, .int r2), (0, .ref x0), (1, .int x1), (2, .int x2), (3, .int x3), (4, .int x4), (5, .int x5)] B 20 rfl (by decide) rfl ?_
      refine z_aload_n B 21 rfl 0 1 rfl rfl ?_
      refine z_getr 5 6 x0 B 22 rfl o_x0 rfl (iX5_wantedFrom _ (List.mem_of_getElem? (i := 3) rfl)) rfl ?_
      refine z_iload_n B 23 rfl 1 2 rfl rfl ?_
      refine z_iconst 4 B 24 rfl (by decide) ?_
      refine z_imul B 25 rfl ?_
      refine z_iload B 26 rfl 6 rfl ?_
      refine z_iadd B 27 rfl ?_
      obtain ⟨r3, ec, hf⟩ := bd_e hf
      refine z_callN [.ref (x0 + 6), .int ((x1 * (4 : Int32)) + x5)] [] [.int r3] X B 28 rfl miX6_at ⟨List.mem_of_getElem? (i := 13) rfl, (iX5_wantedFrom _ (List.mem_of_getElem? (i := 1) rfl))⟩ (ctX6_at hj (obf_5_6 o_x0) ec) ⟨Nat.le_of_ble_eq_true rfl, Nat.le_of_ble_eq_true rfl⟩ rfl rfl (Nat.le_of_ble_eq_true rfl) rfl ?_
      refine z_istore [(7, .int r3), (6, .int r2), (0, .ref x0), (1, .int x1), (2, .int x2), (3, .int x3), (4, .int x4), (5, .int x5)] B 29 rfl (by decide) rfl ?_
      refine z_iload B 30 rfl 0 rfl ?_
      refine z_iload_n B 31 rfl 2 4 rfl rfl ?_
      by_cases hc : r3 < x2
      · replace hf := (if_pos hc).symm.trans hf
        refine z_icmp_ge_f B 32 rfl 81 (by decide) hc ?_
        refine z_iload B 33 rfl 7 rfl ?_
        by_cases hc : x5 = 0
        · replace hf := (if_pos hc).symm.trans hf
          refine z_if_ne_f B 34 rfl 66 (by decide) hc ?_
          refine z_iconst 0 B 35 rfl (by decide) ?_
          refine z_goto B 36 rfl 80 (by decide) ?_
          cases hf
          exact z_iret B 46 rfl rfl hQ hr
        · replace hf := (if_neg hc).symm.trans hf
          refine z_if_ne_t B 34 rfl 66 (by decide) hc ?_
          refine z_iload_n B 37 rfl 3 5 rfl rfl ?_
          refine z_iload B 38 rfl 6 rfl ?_
          refine z_iload B 39 rfl 0 rfl ?_
          refine z_iload B 40 rfl 1 rfl ?_
          refine z_iload_n B 41 rfl 3 5 rfl rfl ?_
          refine z_isub B 42 rfl ?_
          refine z_iload_n B 43 rfl 2 4 rfl rfl ?_
          obtain ⟨r5, ec, hf⟩ := bd_e hf
          refine z_callS [.int x4, .int r3, .int (r2 - x3), .int x2] [.int x3] [.int r5, .int x3] X B 44 rfl miX5_wantedBetween ⟨(iX5_wantedFrom _ (List.mem_of_getElem? (i := 4) rfl)), (iX5_wantedFrom _ (List.mem_of_getElem? (i := 5) rfl))⟩ (ctX5_wantedBetween hj ec) ⟨Nat.le_of_ble_eq_true rfl, Nat.le_of_ble_eq_true rfl⟩ rfl rfl (Nat.le_of_ble_eq_true rfl) rfl ?_
          refine z_iadd B 45 rfl ?_
          cases hf
          exact z_iret B 46 rfl rfl hQ hr
      · replace hf := (if_neg hc).symm.trans hf
        refine z_icmp_ge_t B 32 rfl 81 (by decide) hc ?_
        refine z_iload B 47 rfl 1 rfl ?_
        refine z_istore_n [(3, .int r2), (7, .int r3), (6, .int r2), (0, .ref x0), (1, .int x1), (2, .int x2), (4, .int x4), (5, .int x5)] B 48 rfl 3 rfl (by decide) rfl ?_
        refine z_iload B 49 rfl 1 rfl ?_
        refine z_istore [(4, .int r3), (3, .int r2), (7, .int r3), (6, .int r2), (0, .ref x0), (1, .int x1), (2, .int x2), (5, .int x5)] B 50 rfl (by decide) rfl ?_
        obtain ⟨v4, ex, hf⟩ := nm_x hf
        refine z_iinc v4 [(5, .int v4), (4, .int r3), (3, .int r2), (7, .int r3), (6, .int r2), (0, .ref x0), (1, .int x1), (2, .int x2)] B 51 rfl 7 rfl (ex.symm) (by decide) rfl ?_
        refine z_goto B 52 rfl 8 (by decide) ?_
        refine z_sub [(0, .ref x0), (1, .int x1), (2, .int x2), (3, .int r2), (4, .int r3), (5, .int v4)] [5, 6, 7, 2, 1, 0] rfl ?_
        exact ih _ _ _ _ _ _ o_x0  hf
    · replace hf := (if_neg hc).symm.trans hf
      refine z_icmp_ge_t B 11 rfl 94 (by decide) hc ?_
      refine z_iload_n B 53 rfl 3 3 rfl rfl ?_
      cases hf
      exact z_iret B 54 rfl rfl hQ hr
def f5_wantedFrom (mm : Mem) (a0 : Nat) (a1 : Int32) (a2 : Int32) : Option Int32 := f5_wantedFrom_l8 mm FU a0 a1 a2 (0 : Int32) (0 : Int32) (0 : Int32)
theorem ctX5_wantedFrom {l : Launch} {C : Cfg} (hj : Dj C) {mm : Mem} {a0 : Nat} {a1 : Int32} {a2 : Int32} {x : Int32} (o_a0 : Ob a0 5) (hf : f5_wantedFrom mm a0 a1 a2 = some x) : Ct l C yX5_wantedFrom cX5_wantedFrom 8 (some .int) 1 24 [.ref a0, .int a1, .int a2] mm (some (.int x)) mm := by
  refine Ct.of (tb := tbX5_wantedFrom) hj miX5_wantedFrom.2.1 miX5_wantedFrom.1 dtX5_wantedFrom (Nat.le_of_ble_eq_true rfl) ?_
  intro E B hQ hr X
  unfold f5_wantedFrom at hf
  show G E 8 0 [(0, .ref a0), (1, .int a1), (2, .int a2)] [] mm
  refine z_iconst 0 B 0 rfl (by decide) ?_
  refine z_istore_n [(3, .int (0 : Int32)), (0, .ref a0), (1, .int a1), (2, .int a2)] B 1 rfl 3 rfl (by decide) rfl ?_
  refine z_iconst 0 B 2 rfl (by decide) ?_
  refine z_istore [(4, .int (0 : Int32)), (3, .int (0 : Int32)), (0, .ref a0), (1, .int a1), (2, .int a2)] B 3 rfl (by decide) rfl ?_
  refine z_iconst 0 B 4 rfl (by decide) ?_
  refine z_istore [(5, .int (0 : Int32)), (4, .int (0 : Int32)), (3, .int (0 : Int32)), (0, .ref a0), (1, .int a1), (2, .int a2)] B 5 rfl (by decide) rfl ?_
  refine z_sub [(0, .ref a0), (1, .int a1), (2, .int a2), (3, .int (0 : Int32)), (4, .int (0 : Int32)), (5, .int (0 : Int32))] [3, 4, 5, 2, 1, 0] rfl ?_
  exact f5_wantedFrom_l8_ok hj X B hQ hr FU _ _ _ _ _ _ o_a0  hf
/-! ZoneCapacity$Auction.unitsBelow(II)I -/
def tbX0_unitsBelow : Tb := [(0, .iconst 0, 1, 1), (1, .istore_n 3, 1, 2), (2, .iload_n 1, 1, 3), (3, .iconst 4, 1, 4), (4, .imul, 1, 5), (5, .istore 4, 2, 7), (7, .iload 4, 2, 9), (9, .iload_n 1, 1, 10), (10, .iconst 4, 1, 11), (11, .imul, 1, 12), (12, .iconst 4, 1, 13), (13, .iadd, 1, 14), (14, .if_icmp .ge 34, 3, 17), (17, .aload_n 0, 1, 18), (18, .getfield 34, 3, 21), (21, .iload 4, 2, 23), (23, .invokestatic 69, 3, 26), (26, .iload_n 2, 1, 27), (27, .if_icmp .ge 15, 3, 30), (30, .iload_n 3, 1, 31), (31, .aload_n 0, 1, 32), (32, .getfield 31, 3, 35), (35, .iload 4, 2, 37), (37, .invokestatic 69, 3, 40), (40, .iadd, 1, 41), (41, .istore_n 3, 1, 42), (42, .iinc 4 1, 3, 45), (45, .goto (-38), 3, 48), (48, .iload_n 3, 1, 49), (49, .ireturn, 1, 50)]
theorem dtX0_unitsBelow : ∀ q ∈ tbX0_unitsBelow, decode cX0_unitsBelow q.1 = .ok (q.2.1, q.2.2.1) ∧ q.1 + q.2.2.1 = q.2.2.2 := by decide +kernel
theorem miX0_unitsBelow : MI yX0_unitsBelow cX0_unitsBelow 5 (some .int) 2 := ⟨tw_mem (List.mem_of_getElem? (i := 698) (by decide +kernel)) rfl, by decide, by decide +kernel, tw_mem (List.mem_of_getElem? (i := 72) (by decide +kernel)) rfl⟩
abbrev rmX0_unitsBelow : Room := { frames := 1, cells := 0, slots := 0, locals := 21 }
def wX0_unitsBelow : List Cond := [.fieldLink "ZoneCapacity$Auction" 34 "ZoneCapacity$Auction" "its" "[I", .static yX6_at, .fieldLink "ZoneCapacity$Auction" 31 "ZoneCapacity$Auction" "units" "[I"]
theorem iX0_unitsBelow : ∀ w ∈ wX0_unitsBelow, w ∈ TW := tw_of (ids := [235, 387, 234]) (by decide +kernel)
def f0_unitsBelow_j42 (k7 : Nat → Int32 → Int32 → Int32 → Int32 → Option Int32) (mm : Mem) (x0 : Nat) (x1 : Int32) (x2 : Int32) (x3 : Int32) (x4 : Int32) : Option Int32 := nm (x4 + 1) (fun v3 => k7 x0 x1 x2 x3 v3)
theorem f0_unitsBelow_j42_ok {E : Ev} {l : Launch} {C : Cfg} {mm : Mem} {x : Int32} {k7 : Nat → Int32 → Int32 → Int32 → Int32 → Option Int32} (hj : Dj C) (X : Ec E l C rmX0_unitsBelow) (B : Bx E RX0 tbX0_unitsBelow 5 (some .int)) (hQ : Rt E) (hr : Rs E (some (.int x)) mm) (hk7 : ∀ (x0 : Nat) (x1 : Int32) (x2 : Int32) (x3 : Int32) (x4 : Int32), Ob x0 0 → k7 x0 x1 x2 x3 x4 = some x → G E 5 7 [(0, .ref x0), (1, .int x1), (2, .int x2), (3, .int x3), (4, .int x4)] [] mm) (x0 : Nat) (x1 : Int32) (x2 : Int32) (x3 : Int32) (x4 : Int32) (o_x0 : Ob x0 0) (hf : f0_unitsBelow_j42 k7 mm x0 x1 x2 x3 x4 = some x) : G E 5 42 [(0, .ref x0), (1, .int x1), (2, .int x2), (3, .int x3), (4, .int x4)] [] mm := by
  unfold f0_unitsBelow_j42 at hf
  obtain ⟨v3, ex, hf⟩ := nm_x hf
  refine z_iinc v3 [(4, .int v3), (0, .ref x0), (1, .int x1), (2, .int x2), (3, .int x3)] B 26 rfl 4 rfl (ex.symm) (by decide) rfl ?_
  refine z_goto B 27 rfl 7 (by decide) ?_
  refine z_sub [(0, .ref x0), (1, .int x1), (2, .int x2), (3, .int x3), (4, .int v3)] [1, 2, 3, 4, 0] rfl ?_
  exact hk7 _ _ _ _ _ o_x0  hf
def f0_unitsBelow_l7 (mm : Mem) : Nat → Nat → Int32 → Int32 → Int32 → Int32 → Option Int32
  | 0, _, _, _, _, _ => none
  | n + 1, x0, x1, x2, x3, x4 => if x4 < ((x1 * (4 : Int32)) + (4 : Int32)) then bd (f6_at mm (x0 + 25) x4) (fun r2 => if r2 < x2 then bd (f6_at mm (x0 + 24) x4) (fun r4 => nm (x3 + r4) (fun v5 => f0_unitsBelow_j42 (fun x0 x1 x2 x3 x4 => f0_unitsBelow_l7 mm n x0 x1 x2 x3 x4) mm x0 x1 x2 v5 x4)) else f0_unitsBelow_j42 (fun x0 x1 x2 x3 x4 => f0_unitsBelow_l7 mm n x0 x1 x2 x3 x4) mm x0 x1 x2 x3 x4) else some (x3)
theorem f0_unitsBelow_l7_ok {E : Ev} {l : Launch} {C : Cfg} {mm : Mem} {x : Int32} (hj : Dj C) (X : Ec E l C rmX0_unitsBelow) (B : Bx E RX0 tbX0_unitsBelow 5 (some .int)) (hQ : Rt E) (hr : Rs E (some (.int x)) mm) (n : Nat) : ∀ (x0 : Nat) (x1 : Int32) (x2 : Int32) (x3 : Int32) (x4 : Int32), Ob x0 0 → f0_unitsBelow_l7 mm n x0 x1 x2 x3 x4 = some x → G E 5 7 [(0, .ref x0), (1, .int x1), (2, .int x2), (3, .int x3), (4, .int x4)] [] mm := by
  induction n with
  | zero =>
    intro x0 x1 x2 x3 x4 o_x0 hf
    rw [f0_unitsBelow_l7] at hf
    cases hf
  | succ n ih =>
    intro x0 x1 x2 x3 x4 o_x0 hf
    rw [f0_unitsBelow_l7] at hf
    refine z_iload B 6 rfl 4 rfl ?_
    refine z_iload_n B 7 rfl 1 1 rfl rfl ?_
    refine z_iconst 4 B 8 rfl (by decide) ?_
    refine z_imul B 9 rfl ?_
    refine z_iconst 4 B 10 rfl (by decide) ?_
    refine z_iadd B 11 rfl ?_
    by_cases hc : x4 < ((x1 * (4 : Int32)) + (4 : Int32))
    · replace hf := (if_pos hc).symm.trans hf
      refine z_icmp_ge_f B 12 rfl 48 (by decide) hc ?_
      refine z_aload_n B 13 rfl 0 0 rfl rfl ?_
      refine z_getr 0 6 x0 B 14 rfl o_x0 rfl (iX0_unitsBelow _ (List.mem_of_getElem? (i := 0) rfl)) rfl ?_
      refine z_iload B 15 rfl 4 rfl ?_
      obtain ⟨r2, ec, hf⟩ := bd_e hf
      refine z_callN [.ref (x0 + 25), .int x4] [] [.int r2] X B 16 rfl miX6_at ⟨List.mem_of_getElem? (i := 19) rfl, (iX0_unitsBelow _ (List.mem_of_getElem? (i := 1) rfl))⟩ (ctX6_at hj (obf_0_6 o_x0) ec) ⟨Nat.le_of_ble_eq_true rfl, Nat.le_of_ble_eq_true rfl⟩ rfl rfl (Nat.le_of_ble_eq_true rfl) rfl ?_
      refine z_iload_n B 17 rfl 2 2 rfl rfl ?_
      by_cases hc : r2 < x2
      · replace hf := (if_pos hc).symm.trans hf
        refine z_icmp_ge_f B 18 rfl 42 (by decide) hc ?_
        refine z_iload_n B 19 rfl 3 3 rfl rfl ?_
        refine z_aload_n B 20 rfl 0 0 rfl rfl ?_
        refine z_getr 0 5 x0 B 21 rfl o_x0 rfl (iX0_unitsBelow _ (List.mem_of_getElem? (i := 2) rfl)) rfl ?_
        refine z_iload B 22 rfl 4 rfl ?_
        obtain ⟨r4, ec, hf⟩ := bd_e hf
        refine z_callN [.ref (x0 + 24), .int x4] [.int x3] [.int r4, .int x3] X B 23 rfl miX6_at ⟨List.mem_of_getElem? (i := 19) rfl, (iX0_unitsBelow _ (List.mem_of_getElem? (i := 1) rfl))⟩ (ctX6_at hj (obf_0_5 o_x0) ec) ⟨Nat.le_of_ble_eq_true rfl, Nat.le_of_ble_eq_true rfl⟩ rfl rfl (Nat.le_of_ble_eq_true rfl) rfl ?_
        refine z_iadd B 24 rfl ?_
        obtain ⟨v5, ex, hf⟩ := nm_x hf
        refine z_top ex ?_
        refine z_istore_n [(3, .int v5), (0, .ref x0), (1, .int x1), (2, .int x2), (4, .int x4)] B 25 rfl 3 rfl (by decide) rfl ?_
        refine z_sub [(0, .ref x0), (1, .int x1), (2, .int x2), (3, .int v5), (4, .int x4)] [1, 2, 3, 0, 4] rfl ?_
        exact f0_unitsBelow_j42_ok hj X B hQ hr ih _ _ _ _ _ o_x0  hf
      · replace hf := (if_neg hc).symm.trans hf
        refine z_icmp_ge_t B 18 rfl 42 (by decide) hc ?_
        exact f0_unitsBelow_j42_ok hj X B hQ hr ih _ _ _ _ _ o_x0  hf
    · replace hf := (if_neg hc).symm.trans hf
      refine z_icmp_ge_t B 12 rfl 48 (by decide) hc ?_
      refine z_iload_n B 28 rfl 3 3 rfl rfl ?_
      cases hf
      exact z_iret B 29 rfl rfl hQ hr
def f0_unitsBelow (mm : Mem) (a0 : Nat) (a1 : Int32) (a2 : Int32) : Option Int32 := nm (a1 * (4 : Int32)) (fun v1 => f0_unitsBelow_l7 mm FU a0 a1 a2 (0 : Int32) v1)
theorem ctX0_unitsBelow {l : Launch} {C : Cfg} (hj : Dj C) {mm : Mem} {a0 : Nat} {a1 : Int32} {a2 : Int32} {x : Int32} (o_a0 : Ob a0 0) (hf : f0_unitsBelow mm a0 a1 a2 = some x) : Ct l C yX0_unitsBelow cX0_unitsBelow 5 (some .int) 1 21 [.ref a0, .int a1, .int a2] mm (some (.int x)) mm := by
  refine Ct.of (tb := tbX0_unitsBelow) hj miX0_unitsBelow.2.1 miX0_unitsBelow.1 dtX0_unitsBelow (Nat.le_of_ble_eq_true rfl) ?_
  intro E B hQ hr X
  unfold f0_unitsBelow at hf
  show G E 5 0 [(0, .ref a0), (1, .int a1), (2, .int a2)] [] mm
  refine z_iconst 0 B 0 rfl (by decide) ?_
  refine z_istore_n [(3, .int (0 : Int32)), (0, .ref a0), (1, .int a1), (2, .int a2)] B 1 rfl 3 rfl (by decide) rfl ?_
  refine z_iload_n B 2 rfl 1 2 rfl rfl ?_
  refine z_iconst 4 B 3 rfl (by decide) ?_
  refine z_imul B 4 rfl ?_
  obtain ⟨v1, ex, hf⟩ := nm_x hf
  refine z_top ex ?_
  refine z_istore [(4, .int v1), (3, .int (0 : Int32)), (0, .ref a0), (1, .int a1), (2, .int a2)] B 5 rfl (by decide) rfl ?_
  refine z_sub [(0, .ref a0), (1, .int a1), (2, .int a2), (3, .int (0 : Int32)), (4, .int v1)] [2, 3, 4, 1, 0] rfl ?_
  exact f0_unitsBelow_l7_ok hj X B hQ hr FU _ _ _ _ _ o_a0  hf
/-! ZoneCapacity$Zones.cut(II)I -/
def tbX5_cut : Tb := [(0, .aload_n 0, 1, 1), (1, .getfield 19, 3, 4), (4, .iload_n 1, 1, 5), (5, .invokestatic 46, 3, 8), (8, .ineg, 1, 9), (9, .aload_n 0, 1, 10), (10, .getfield 22, 3, 13), (13, .iload_n 1, 1, 14), (14, .invokestatic 46, 3, 17), (17, .iload_n 2, 1, 18), (18, .invokestatic 54, 3, 21), (21, .invokestatic 64, 3, 24), (24, .ireturn, 1, 25)]
theorem dtX5_cut : ∀ q ∈ tbX5_cut, decode cX5_cut q.1 = .ok (q.2.1, q.2.2.1) ∧ q.1 + q.2.2.1 = q.2.2.2 := by decide +kernel
theorem miX5_cut : MI yX5_cut cX5_cut 3 (some .int) 2 := ⟨tw_mem (List.mem_of_getElem? (i := 702) (by decide +kernel)) rfl, by decide, by decide +kernel, tw_mem (List.mem_of_getElem? (i := 74) (by decide +kernel)) rfl⟩
abbrev rmX5_cut : Room := { frames := 1, cells := 0, slots := 0, locals := 21 }
def wX5_cut : List Cond := [.fieldLink "ZoneCapacity$Zones" 19 "ZoneCapacity$Zones" "in" "[I", .static yX6_at, .fieldLink "ZoneCapacity$Zones" 22 "ZoneCapacity$Zones" "out" "[I", .methodLink "ZoneCapacity$Zones" 54 ⟨"java/lang/Math", "min", "(II)I"⟩, .static ⟨"java/lang/Math", "min", "(II)I"⟩, .initialized "java/lang/Math", .code Lib.Math.min.name Lib.Math.min.code 2 (some .int), .methodLink "ZoneCapacity$Zones" 64 ⟨"java/lang/Math", "max", "(II)I"⟩, .static ⟨"java/lang/Math", "max", "(II)I"⟩, .code Lib.Math.max.name Lib.Math.max.code 2 (some .int)]
theorem iX5_cut : ∀ w ∈ wX5_cut, w ∈ TW := tw_of (ids := [124, 387, 128, 703, 648, 87, 649, 704, 645, 646]) (by decide +kernel)
def f5_cut (mm : Mem) (a0 : Nat) (a1 : Int32) (a2 : Int32) : Option Int32 := bd (f6_at mm (a0 + 2) a1) (fun r1 => bd (f6_at mm (a0 + 3) a1) (fun r2 => nm (mni r2 a2) (fun v3 => nm (mxi (-r1) v3) (fun v4 => some (v4)))))
theorem ctX5_cut {l : Launch} {C : Cfg} (hj : Dj C) {mm : Mem} {a0 : Nat} {a1 : Int32} {a2 : Int32} {x : Int32} (o_a0 : Ob a0 5) (hf : f5_cut mm a0 a1 a2 = some x) : Ct l C yX5_cut cX5_cut 3 (some .int) 1 21 [.ref a0, .int a1, .int a2] mm (some (.int x)) mm := by
  refine Ct.of (tb := tbX5_cut) hj miX5_cut.2.1 miX5_cut.1 dtX5_cut (Nat.le_of_ble_eq_true rfl) ?_
  intro E B hQ hr X
  unfold f5_cut at hf
  show G E 3 0 [(0, .ref a0), (1, .int a1), (2, .int a2)] [] mm
  refine z_aload_n B 0 rfl 0 0 rfl rfl ?_
  refine z_getr 5 2 a0 B 1 rfl o_a0 rfl (iX5_cut _ (List.mem_of_getElem? (i := 0) rfl)) rfl ?_
  refine z_iload_n B 2 rfl 1 1 rfl rfl ?_
  obtain ⟨r1, ec, hf⟩ := bd_e hf
  refine z_callN [.ref (a0 + 2), .int a1] [] [.int r1] X B 3 rfl miX6_at ⟨List.mem_of_getElem? (i := 13) rfl, (iX5_cut _ (List.mem_of_getElem? (i := 1) rfl))⟩ (ctX6_at hj (obf_5_2 o_a0) ec) ⟨Nat.le_of_ble_eq_true rfl, Nat.le_of_ble_eq_true rfl⟩ rfl rfl (Nat.le_of_ble_eq_true rfl) rfl ?_
  refine z_ineg B 4 rfl ?_
  refine z_aload_n B 5 rfl 0 0 rfl rfl ?_
  refine z_getr 5 3 a0 B 6 rfl o_a0 rfl (iX5_cut _ (List.mem_of_getElem? (i := 2) rfl)) rfl ?_
  refine z_iload_n B 7 rfl 1 1 rfl rfl ?_
  obtain ⟨r2, ec, hf⟩ := bd_e hf
  refine z_callN [.ref (a0 + 3), .int a1] [.int (-r1)] [.int r2, .int (-r1)] X B 8 rfl miX6_at ⟨List.mem_of_getElem? (i := 13) rfl, (iX5_cut _ (List.mem_of_getElem? (i := 1) rfl))⟩ (ctX6_at hj (obf_5_3 o_a0) ec) ⟨Nat.le_of_ble_eq_true rfl, Nat.le_of_ble_eq_true rfl⟩ rfl rfl (Nat.le_of_ble_eq_true rfl) rfl ?_
  refine z_iload_n B 9 rfl 2 2 rfl rfl ?_
  refine z_mmin X B 10 rfl ⟨(iX5_cut _ (List.mem_of_getElem? (i := 3) rfl)), (iX5_cut _ (List.mem_of_getElem? (i := 4) rfl)), (iX5_cut _ (List.mem_of_getElem? (i := 5) rfl)), (iX5_cut _ (List.mem_of_getElem? (i := 6) rfl))⟩ ⟨Nat.le_of_ble_eq_true rfl, Nat.le_of_ble_eq_true rfl⟩ (Nat.le_of_ble_eq_true rfl) ?_
  obtain ⟨v3, ex, hf⟩ := nm_x hf
  refine z_top ex ?_
  refine z_mmax X B 11 rfl ⟨(iX5_cut _ (List.mem_of_getElem? (i := 7) rfl)), (iX5_cut _ (List.mem_of_getElem? (i := 8) rfl)), (iX5_cut _ (List.mem_of_getElem? (i := 5) rfl)), (iX5_cut _ (List.mem_of_getElem? (i := 9) rfl))⟩ ⟨Nat.le_of_ble_eq_true rfl, Nat.le_of_ble_eq_true rfl⟩ (Nat.le_of_ble_eq_true rfl) ?_
  obtain ⟨v4, ex, hf⟩ := nm_x hf
  refine z_top ex ?_
  cases hf
  exact z_iret B 12 rfl rfl hQ hr
/-! ZoneCapacity$Auction.fillLevels(II[I)V -/
def tbX0_fillLevels : Tb := [(0, .aload_n 0, 1, 1), (1, .getfield 12, 3, 4), (4, .getfield 60, 3, 7), (7, .astore 4, 2, 9), (9, .aload_n 0, 1, 10), (10, .getfield 12, 3, 13), (13, .getfield 85, 3, 16), (16, .astore 5, 2, 18), (18, .iload_n 1, 1, 19), (19, .istore 6, 2, 21), (21, .iload 6, 2, 23), (23, .aload 4, 2, 25), (25, .getfield 64, 3, 28), (28, .if_icmp .ge 24, 3, 31), (31, .aload_n 3, 1, 32), (32, .iload 6, 2, 34), (34, .aload 4, 2, 36), (36, .iload 6, 2, 38), (38, .iload_n 2, 1, 39), (39, .invokevirtual 110, 3, 42), (42, .ineg, 1, 43), (43, .invokestatic 56, 3, 46), (46, .iinc 6 1, 3, 49), (49, .goto (-28), 3, 52), (52, .iconst 0, 1, 53), (53, .istore 6, 2, 55), (55, .iload 6, 2, 57), (57, .aload 5, 2, 59), (59, .getfield 89, 3, 62), (62, .if_icmp .ge 47, 3, 65), (65, .aload 5, 2, 67), (67, .getfield 113, 3, 70), (70, .iload 6, 2, 72), (72, .invokestatic 69, 3, 75), (75, .istore 7, 2, 77), (77, .iload 7, 2, 79), (79, .iload_n 1, 1, 80), (80, .if_icmp .lt 23, 3, 83), (83, .aload_n 3, 1, 84), (84, .iload 7, 2, 86), (86, .aload_n 3, 1, 87), (87, .iload 7, 2, 89), (89, .invokestatic 69, 3, 92), (92, .aload_n 0, 1, 93), (93, .iload 6, 2, 95), (95, .iload_n 2, 1, 96), (96, .invokevirtual 115, 3, 99), (99, .iadd, 1, 100), (100, .invokestatic 56, 3, 103), (103, .iinc 6 1, 3, 106), (106, .goto (-51), 3, 109), (109, .aload 4, 2, 111), (111, .getfield 64, 3, 114), (114, .iconst 1, 1, 115), (115, .isub, 1, 116), (116, .istore 6, 2, 118), (118, .iload 6, 2, 120), (120, .iload_n 1, 1, 121), (121, .if_icmp .le 53, 3, 124), (124, .aload 4, 2, 126), (126, .getfield 118, 3, 129), (129, .iload 6, 2, 131), (131, .invokestatic 69, 3, 134), (134, .istore 7, 2, 136), (136, .iload 7, 2, 138), (138, .iload_n 1, 1, 139), (139, .if_icmp .lt 29, 3, 142), (142, .aload_n 3, 1, 143), (143, .iload 7, 2, 145), (145, .aload_n 3, 1, 146), (146, .iload 7, 2, 148), (148, .invokestatic 69, 3, 151), (151, .aload 4, 2, 153), (153, .iload 6, 2, 155), (155, .aload_n 3, 1, 156), (156, .iload 6, 2, 158), (158, .invokestatic 69, 3, 161), (161, .invokevirtual 121, 3, 164), (164, .iadd, 1, 165), (165, .invokestatic 56, 3, 168), (168, .iinc 6 (-1), 3, 171), (171, .goto (-53), 3, 174), (174, .return_, 1, 175)]
theorem dtX0_fillLevels : ∀ q ∈ tbX0_fillLevels, decode cX0_fillLevels q.1 = .ok (q.2.1, q.2.2.1) ∧ q.1 + q.2.2.1 = q.2.2.2 := by decide +kernel
theorem miX0_fillLevels : MI yX0_fillLevels cX0_fillLevels 8 none 3 := ⟨tw_mem (List.mem_of_getElem? (i := 692) (by decide +kernel)) rfl, by decide, by decide +kernel, tw_mem (List.mem_of_getElem? (i := 72) (by decide +kernel)) rfl⟩
abbrev rmX0_fillLevels : Room := { frames := 2, cells := 0, slots := 0, locals := 51 }
def wX0_fillLevels : List Cond := [.fieldLink "ZoneCapacity$Auction" 12 "ZoneCapacity$Auction" "market" "LZoneCapacity$Market;", .fieldLink "ZoneCapacity$Auction" 60 "ZoneCapacity$Market" "zones" "LZoneCapacity$Zones;", .fieldLink "ZoneCapacity$Auction" 85 "ZoneCapacity$Market" "offers" "LZoneCapacity$Offers;", .fieldLink "ZoneCapacity$Auction" 64 "ZoneCapacity$Zones" "many" "I", .fieldLink "ZoneCapacity$Auction" 89 "ZoneCapacity$Offers" "many" "I", .fieldLink "ZoneCapacity$Auction" 118 "ZoneCapacity$Zones" "outer" "[I", .static yX6_at, .methodLink "ZoneCapacity$Auction" 121 yX5_cut, .instanceMethod yX5_cut, .selects "ZoneCapacity$Zones" yX5_cut yX5_cut, .static yX6_put, .fieldLink "ZoneCapacity$Auction" 113 "ZoneCapacity$Offers" "zones" "[I", .methodLink "ZoneCapacity$Auction" 115 yX0_unitsBelow, .instanceMethod yX0_unitsBelow, .selects "ZoneCapacity$Auction" yX0_unitsBelow yX0_unitsBelow, .methodLink "ZoneCapacity$Auction" 110 yX5_wantedFrom, .instanceMethod yX5_wantedFrom, .selects "ZoneCapacity$Zones" yX5_wantedFrom yX5_wantedFrom]
theorem iX0_fillLevels : ∀ w ∈ wX0_fillLevels, w ∈ TW := tw_of (ids := [224, 212, 216, 118, 159, 122, 387, 699, 700, 701, 115, 169, 695, 697, 16, 693, 667, 668]) (by decide +kernel)
def f0_fillLevels_j168 (k118 : Int32 → Nat → Nat → Int32 → Mem → Option Mem) (x1 : Int32) (x3 : Nat) (x4 : Nat) (x6 : Int32) (mm : Mem) : Option Mem := nm (x6 + (-1)) (fun v3 => k118 x1 x3 x4 v3 mm)
theorem f0_fillLevels_j168_ok {E : Ev} {l : Launch} {C : Cfg} {x : Mem} {k118 : Int32 → Nat → Nat → Int32 → Mem → Option Mem} (hj : Dj C) (X : Ec E l C rmX0_fillLevels) (B : Bx E RX0 tbX0_fillLevels 8 none) (hQ : Rt E) (hr : Rs E none x) (hk118 : ∀ (x1 : Int32) (x3 : Nat) (x4 : Nat) (x6 : Int32) (mm : Mem), Ob x3 8 → Ob x4 5 → k118 x1 x3 x4 x6 mm = some x → G E 8 118 [(1, .int x1), (3, .ref x3), (4, .ref x4), (6, .int x6)] [] mm) (x1 : Int32) (x3 : Nat) (x4 : Nat) (x6 : Int32) (mm : Mem) (o_x3 : Ob x3 8) (o_x4 : Ob x4 5) (hf : f0_fillLevels_j168 k118 x1 x3 x4 x6 mm = some x) : G E 8 168 [(1, .int x1), (3, .ref x3), (4, .ref x4), (6, .int x6)] [] mm := by
  unfold f0_fillLevels_j168 at hf
  obtain ⟨v3, ex, hf⟩ := nm_x hf
  refine z_iinc v3 [(6, .int v3), (1, .int x1), (3, .ref x3), (4, .ref x4)] B 80 rfl 3 rfl (ex.symm) (by decide) rfl ?_
  refine z_goto B 81 rfl 118 (by decide) ?_
  refine z_sub [(1, .int x1), (3, .ref x3), (4, .ref x4), (6, .int v3)] [1, 2, 3, 0] rfl ?_
  exact hk118 _ _ _ _ _ o_x3 o_x4  hf
def f0_fillLevels_l118 : Nat → Int32 → Nat → Nat → Int32 → Mem → Option Mem
  | 0, _, _, _, _, _ => none
  | n + 1, x1, x3, x4, x6, mm => if x1 < x6 then bd (f6_at mm (x4 + 1) x6) (fun r2 => if r2 < x1 then f0_fillLevels_j168 (fun x1 x3 x4 x6 mm => f0_fillLevels_l118 n x1 x3 x4 x6 mm) x1 x3 x4 x6 mm else bd (f6_at mm x3 r2) (fun r4 => bd (f6_at mm x3 x6) (fun r5 => bd (f5_cut mm x4 x6 r5) (fun r6 => bd (f6_put mm x3 r2 (r4 + r6)) (fun r7 => f0_fillLevels_j168 (fun x1 x3 x4 x6 mm => f0_fillLevels_l118 n x1 x3 x4 x6 mm) x1 x3 x4 x6 r7))))) else some mm
theorem f0_fillLevels_l118_ok {E : Ev} {l : Launch} {C : Cfg} {x : Mem} (hj : Dj C) (X : Ec E l C rmX0_fillLevels) (B : Bx E RX0 tbX0_fillLevels 8 none) (hQ : Rt E) (hr : Rs E none x) (n : Nat) : ∀ (x1 : Int32) (x3 : Nat) (x4 : Nat) (x6 : Int32) (mm : Mem), Ob x3 8 → Ob x4 5 → f0_fillLevels_l118 n x1 x3 x4 x6 mm = some x → G E 8 118 [(1, .int x1), (3, .ref x3), (4, .ref x4), (6, .int x6)] [] mm := by
  induction n with
  | zero =>
    intro x1 x3 x4 x6 mm o_x3 o_x4 hf
    rw [f0_fillLevels_l118] at hf
    cases hf
  | succ n ih =>
    intro x1 x3 x4 x6 mm o_x3 o_x4 hf
    rw [f0_fillLevels_l118] at hf
    refine z_iload B 56 rfl 3 rfl ?_
    refine z_iload_n B 57 rfl 1 0 rfl rfl ?_
    by_cases hc : x1 < x6
    · replace hf := (if_pos hc).symm.trans hf
      refine z_icmp_le_f B 58 rfl 174 (by decide) hc ?_
      refine z_aload B 59 rfl 2 rfl ?_
      refine z_getr 5 1 x4 B 60 rfl o_x4 rfl (iX0_fillLevels _ (List.mem_of_getElem? (i := 5) rfl)) rfl ?_
      refine z_iload B 61 rfl 3 rfl ?_
      obtain ⟨r2, ec, hf⟩ := bd_e hf
      refine z_callN [.ref (x4 + 1), .int x6] [] [.int r2] X B 62 rfl miX6_at ⟨List.mem_of_getElem? (i := 19) rfl, (iX0_fillLevels _ (List.mem_of_getElem? (i := 6) rfl))⟩ (ctX6_at hj (obf_5_1 o_x4) ec) ⟨Nat.le_of_ble_eq_true rfl, Nat.le_of_ble_eq_true rfl⟩ rfl rfl (Nat.le_of_ble_eq_true rfl) rfl ?_
      refine z_istore [(7, .int r2), (1, .int x1), (3, .ref x3), (4, .ref x4), (6, .int x6)] B 63 rfl (by decide) rfl ?_
      refine z_iload B 64 rfl 0 rfl ?_
      refine z_iload_n B 65 rfl 1 1 rfl rfl ?_
      by_cases hc : r2 < x1
      · replace hf := (if_pos hc).symm.trans hf
        refine z_icmp_lt_t B 66 rfl 168 (by decide) hc ?_
        refine z_sub [(1, .int x1), (3, .ref x3), (4, .ref x4), (6, .int x6)] [1, 2, 3, 4] rfl ?_
        exact f0_fillLevels_j168_ok hj X B hQ hr ih _ _ _ _ _ o_x3 o_x4  hf
      · replace hf := (if_neg hc).symm.trans hf
        refine z_icmp_lt_f B 66 rfl 168 (by decide) hc ?_
        refine z_aload_n B 67 rfl 3 2 rfl rfl ?_
        refine z_iload B 68 rfl 0 rfl ?_
        refine z_aload_n B 69 rfl 3 2 rfl rfl ?_
        refine z_iload B 70 rfl 0 rfl ?_
        obtain ⟨r4, ec, hf⟩ := bd_e hf
        refine z_callN [.ref x3, .int r2] [.int r2, .ref x3] [.int r4, .int r2, .ref x3] X B 71 rfl miX6_at ⟨List.mem_of_getElem? (i := 19) rfl, (iX0_fillLevels _ (List.mem_of_getElem? (i := 6) rfl))⟩ (ctX6_at hj o_x3 ec) ⟨Nat.le_of_ble_eq_true rfl, Nat.le_of_ble_eq_true rfl⟩ rfl rfl (Nat.le_of_ble_eq_true rfl) rfl ?_
        refine z_aload B 72 rfl 3 rfl ?_
        refine z_iload B 73 rfl 4 rfl ?_
        refine z_aload_n B 74 rfl 3 2 rfl rfl ?_
        refine z_iload B 75 rfl 4 rfl ?_
        obtain ⟨r5, ec, hf⟩ := bd_e hf
        refine z_callN [.ref x3, .int x6] [.int x6, .ref x4, .int r4, .int r2, .ref x3] [.int r5, .int x6, .ref x4, .int r4, .int r2, .ref x3] X B 76 rfl miX6_at ⟨List.mem_of_getElem? (i := 19) rfl, (iX0_fillLevels _ (List.mem_of_getElem? (i := 6) rfl))⟩ (ctX6_at hj o_x3 ec) ⟨Nat.le_of_ble_eq_true rfl, Nat.le_of_ble_eq_true rfl⟩ rfl rfl (Nat.le_of_ble_eq_true rfl) rfl ?_
        obtain ⟨r6, ec, hf⟩ := bd_e hf
        refine z_callV x4 5 [.int x6, .int r5] [.int r4, .int r2, .ref x3] [.int r6, .int r4, .int r2, .ref x3] X B 77 rfl o_x4 rfl rfl miX5_cut ⟨(iX0_fillLevels _ (List.mem_of_getElem? (i := 7) rfl)), (iX0_fillLevels _ (List.mem_of_getElem? (i := 8) rfl)), (iX0_fillLevels _ (List.mem_of_getElem? (i := 9) rfl))⟩ (ctX5_cut hj o_x4 ec) ⟨Nat.le_of_ble_eq_true rfl, Nat.le_of_ble_eq_true rfl⟩ rfl rfl (Nat.le_of_ble_eq_true rfl) rfl ?_
        refine z_iadd B 78 rfl ?_
        obtain ⟨r7, ec, hf⟩ := bd_e hf
        refine z_callN [.ref x3, .int r2, .int (r4 + r6)] [] [] X B 79 rfl miX6_put ⟨List.mem_of_getElem? (i := 18) rfl, (iX0_fillLevels _ (List.mem_of_getElem? (i := 10) rfl))⟩ (ctX6_put hj o_x3 ec) ⟨Nat.le_of_ble_eq_true rfl, Nat.le_of_ble_eq_true rfl⟩ rfl rfl (Nat.le_of_ble_eq_true rfl) rfl ?_
        refine z_sub [(1, .int x1), (3, .ref x3), (4, .ref x4), (6, .int x6)] [1, 2, 3, 4] rfl ?_
        exact f0_fillLevels_j168_ok hj X B hQ hr ih _ _ _ _ _ o_x3 o_x4  hf
    · replace hf := (if_neg hc).symm.trans hf
      refine z_icmp_le_t B 58 rfl 174 (by decide) hc ?_
      cases hf
      exact z_vret B 82 rfl hQ hr
def f0_fillLevels_j103 (k55 : Nat → Int32 → Int32 → Nat → Nat → Nat → Int32 → Mem → Option Mem) (x0 : Nat) (x1 : Int32) (x2 : Int32) (x3 : Nat) (x4 : Nat) (x5 : Nat) (x6 : Int32) (mm : Mem) : Option Mem := nm (x6 + 1) (fun v9 => k55 x0 x1 x2 x3 x4 x5 v9 mm)
theorem f0_fillLevels_j103_ok {E : Ev} {l : Launch} {C : Cfg} {x : Mem} {k55 : Nat → Int32 → Int32 → Nat → Nat → Nat → Int32 → Mem → Option Mem} (hj : Dj C) (X : Ec E l C rmX0_fillLevels) (B : Bx E RX0 tbX0_fillLevels 8 none) (hQ : Rt E) (hr : Rs E none x) (hk55 : ∀ (x0 : Nat) (x1 : Int32) (x2 : Int32) (x3 : Nat) (x4 : Nat) (x5 : Nat) (x6 : Int32) (mm : Mem), Ob x0 0 → Ob x3 8 → Ob x4 5 → Ob x5 2 → k55 x0 x1 x2 x3 x4 x5 x6 mm = some x → G E 8 55 [(0, .ref x0), (1, .int x1), (2, .int x2), (3, .ref x3), (4, .ref x4), (5, .ref x5), (6, .int x6)] [] mm) (x0 : Nat) (x1 : Int32) (x2 : Int32) (x3 : Nat) (x4 : Nat) (x5 : Nat) (x6 : Int32) (mm : Mem) (o_x0 : Ob x0 0) (o_x3 : Ob x3 8) (o_x4 : Ob x4 5) (o_x5 : Ob x5 2) (hf : f0_fillLevels_j103 k55 x0 x1 x2 x3 x4 x5 x6 mm = some x) : G E 8 103 [(0, .ref x0), (1, .int x1), (2, .int x2), (3, .ref x3), (4, .ref x4), (5, .ref x5), (6, .int x6)] [] mm := by
  unfold f0_fillLevels_j103 at hf
  obtain ⟨v9, ex, hf⟩ := nm_x hf
  refine z_iinc v9 [(6, .int v9), (0, .ref x0), (1, .int x1), (2, .int x2), (3, .ref x3), (4, .ref x4), (5, .ref x5)] B 49 rfl 6 rfl (ex.symm) (by decide) rfl ?_
  refine z_goto B 50 rfl 55 (by decide) ?_
  refine z_sub [(0, .ref x0), (1, .int x1), (2, .int x2), (3, .ref x3), (4, .ref x4), (5, .ref x5), (6, .int v9)] [1, 2, 3, 4, 5, 6, 0] rfl ?_
  exact hk55 _ _ _ _ _ _ _ _ o_x0 o_x3 o_x4 o_x5  hf
def f0_fillLevels_l55 : Nat → Nat → Int32 → Int32 → Nat → Nat → Nat → Int32 → Mem → Option Mem
  | 0, _, _, _, _, _, _, _, _ => none
  | n + 1, x0, x1, x2, x3, x4, x5, x6, mm => if x6 < (mm x5 0) then bd (f6_at mm (x5 + 2) x6) (fun r8 => if r8 < x1 then f0_fillLevels_j103 (fun x0 x1 x2 x3 x4 x5 x6 mm => f0_fillLevels_l55 n x0 x1 x2 x3 x4 x5 x6 mm) x0 x1 x2 x3 x4 x5 x6 mm else bd (f6_at mm x3 r8) (fun r10 => bd (f0_unitsBelow mm x0 x6 x2) (fun r11 => bd (f6_put mm x3 r8 (r10 + r11)) (fun r12 => f0_fillLevels_j103 (fun x0 x1 x2 x3 x4 x5 x6 mm => f0_fillLevels_l55 n x0 x1 x2 x3 x4 x5 x6 mm) x0 x1 x2 x3 x4 x5 x6 r12)))) else nm ((mm x4 0) - (1 : Int32)) (fun v1 => f0_fillLevels_l118 FU x1 x3 x4 v1 mm)
theorem f0_fillLevels_l55_ok {E : Ev} {l : Launch} {C : Cfg} {x : Mem} (hj : Dj C) (X : Ec E l C rmX0_fillLevels) (B : Bx E RX0 tbX0_fillLevels 8 none) (hQ : Rt E) (hr : Rs E none x) (n : Nat) : ∀ (x0 : Nat) (x1 : Int32) (x2 : Int32) (x3 : Nat) (x4 : Nat) (x5 : Nat) (x6 : Int32) (mm : Mem), Ob x0 0 → Ob x3 8 → Ob x4 5 → Ob x5 2 → f0_fillLevels_l55 n x0 x1 x2 x3 x4 x5 x6 mm = some x → G E 8 55 [(0, .ref x0), (1, .int x1), (2, .int x2), (3, .ref x3), (4, .ref x4), (5, .ref x5), (6, .int x6)] [] mm := by
  induction n with
  | zero =>
    intro x0 x1 x2 x3 x4 x5 x6 mm o_x0 o_x3 o_x4 o_x5 hf
    rw [f0_fillLevels_l55] at hf
    cases hf
  | succ n ih =>
    intro x0 x1 x2 x3 x4 x5 x6 mm o_x0 o_x3 o_x4 o_x5 hf
    rw [f0_fillLevels_l55] at hf
    refine z_iload B 26 rfl 6 rfl ?_
    refine z_aload B 27 rfl 5 rfl ?_
    refine z_geti 2 0 x5 B 28 rfl o_x5 rfl (iX0_fillLevels _ (List.mem_of_getElem? (i := 4) rfl)) rfl ?_
    by_cases hc : x6 < (mm x5 0)
    · replace hf := (if_pos hc).symm.trans hf
      refine z_icmp_ge_f B 29 rfl 109 (by decide) hc ?_
      refine z_aload B 30 rfl 5 rfl ?_
      refine z_getr 2 3 x5 B 31 rfl o_x5 rfl (iX0_fillLevels _ (List.mem_of_getElem? (i := 11) rfl)) rfl ?_
      refine z_iload B 32 rfl 6 rfl ?_
      obtain ⟨r8, ec, hf⟩ := bd_e hf
      refine z_callN [.ref (x5 + 2), .int x6] [] [.int r8] X B 33 rfl miX6_at ⟨List.mem_of_getElem? (i := 19) rfl, (iX0_fillLevels _ (List.mem_of_getElem? (i := 6) rfl))⟩ (ctX6_at hj (obf_2_3 o_x5) ec) ⟨Nat.le_of_ble_eq_true rfl, Nat.le_of_ble_eq_true rfl⟩ rfl rfl (Nat.le_of_ble_eq_true rfl) rfl ?_
      refine z_istore [(7, .int r8), (0, .ref x0), (1, .int x1), (2, .int x2), (3, .ref x3), (4, .ref x4), (5, .ref x5), (6, .int x6)] B 34 rfl (by decide) rfl ?_
      refine z_iload B 35 rfl 0 rfl ?_
      refine z_iload_n B 36 rfl 1 2 rfl rfl ?_
      by_cases hc : r8 < x1
      · replace hf := (if_pos hc).symm.trans hf
        refine z_icmp_lt_t B 37 rfl 103 (by decide) hc ?_
        refine z_sub [(0, .ref x0), (1, .int x1), (2, .int x2), (3, .ref x3), (4, .ref x4), (5, .ref x5), (6, .int x6)] [1, 2, 3, 4, 5, 6, 7] rfl ?_
        exact f0_fillLevels_j103_ok hj X B hQ hr ih _ _ _ _ _ _ _ _ o_x0 o_x3 o_x4 o_x5  hf
      · replace hf := (if_neg hc).symm.trans hf
        refine z_icmp_lt_f B 37 rfl 103 (by decide) hc ?_
        refine z_aload_n B 38 rfl 3 4 rfl rfl ?_
        refine z_iload B 39 rfl 0 rfl ?_
        refine z_aload_n B 40 rfl 3 4 rfl rfl ?_
        refine z_iload B 41 rfl 0 rfl ?_
        obtain ⟨r10, ec, hf⟩ := bd_e hf
        refine z_callN [.ref x3, .int r8] [.int r8, .ref x3] [.int r10, .int r8, .ref x3] X B 42 rfl miX6_at ⟨List.mem_of_getElem? (i := 19) rfl, (iX0_fillLevels _ (List.mem_of_getElem? (i := 6) rfl))⟩ (ctX6_at hj o_x3 ec) ⟨Nat.le_of_ble_eq_true rfl, Nat.le_of_ble_eq_true rfl⟩ rfl rfl (Nat.le_of_ble_eq_true rfl) rfl ?_
        refine z_aload_n B 43 rfl 0 1 rfl rfl ?_
        refine z_iload B 44 rfl 7 rfl ?_
        refine z_iload_n B 45 rfl 2 3 rfl rfl ?_
        obtain ⟨r11, ec, hf⟩ := bd_e hf
        refine z_callV x0 0 [.int x6, .int x2] [.int r10, .int r8, .ref x3] [.int r11, .int r10, .int r8, .ref x3] X B 46 rfl o_x0 rfl rfl miX0_unitsBelow ⟨(iX0_fillLevels _ (List.mem_of_getElem? (i := 12) rfl)), (iX0_fillLevels _ (List.mem_of_getElem? (i := 13) rfl)), (iX0_fillLevels _ (List.mem_of_getElem? (i := 14) rfl))⟩ (ctX0_unitsBelow hj o_x0 ec) ⟨Nat.le_of_ble_eq_true rfl, Nat.le_of_ble_eq_true rfl⟩ rfl rfl (Nat.le_of_ble_eq_true rfl) rfl ?_
        refine z_iadd B 47 rfl ?_
        obtain ⟨r12, ec, hf⟩ := bd_e hf
        refine z_callN [.ref x3, .int r8, .int (r10 + r11)] [] [] X B 48 rfl miX6_put ⟨List.mem_of_getElem? (i := 18) rfl, (iX0_fillLevels _ (List.mem_of_getElem? (i := 10) rfl))⟩ (ctX6_put hj o_x3 ec) ⟨Nat.le_of_ble_eq_true rfl, Nat.le_of_ble_eq_true rfl⟩ rfl rfl (Nat.le_of_ble_eq_true rfl) rfl ?_
        refine z_sub [(0, .ref x0), (1, .int x1), (2, .int x2), (3, .ref x3), (4, .ref x4), (5, .ref x5), (6, .int x6)] [1, 2, 3, 4, 5, 6, 7] rfl ?_
        exact f0_fillLevels_j103_ok hj X B hQ hr ih _ _ _ _ _ _ _ _ o_x0 o_x3 o_x4 o_x5  hf
    · replace hf := (if_neg hc).symm.trans hf
      refine z_icmp_ge_t B 29 rfl 109 (by decide) hc ?_
      refine z_aload B 51 rfl 4 rfl ?_
      refine z_geti 5 0 x4 B 52 rfl o_x4 rfl (iX0_fillLevels _ (List.mem_of_getElem? (i := 3) rfl)) rfl ?_
      refine z_iconst 1 B 53 rfl (by decide) ?_
      refine z_isub B 54 rfl ?_
      obtain ⟨v1, ex, hf⟩ := nm_x hf
      refine z_top ex ?_
      refine z_istore [(6, .int v1), (0, .ref x0), (1, .int x1), (2, .int x2), (3, .ref x3), (4, .ref x4), (5, .ref x5)] B 55 rfl (by decide) rfl ?_
      refine z_sub [(1, .int x1), (3, .ref x3), (4, .ref x4), (6, .int v1)] [2, 4, 5, 0] rfl ?_
      exact f0_fillLevels_l118_ok hj X B hQ hr FU _ _ _ _ _ o_x3 o_x4  hf
def f0_fillLevels_l21 : Nat → Nat → Int32 → Int32 → Nat → Nat → Nat → Int32 → Mem → Option Mem
  | 0, _, _, _, _, _, _, _, _ => none
  | n + 1, x0, x1, x2, x3, x4, x5, x6, mm => if x6 < (mm x4 0) then bd (f5_wantedFrom mm x4 x6 x2) (fun r13 => bd (f6_put mm x3 x6 (-r13)) (fun r14 => nm (x6 + 1) (fun v15 => f0_fillLevels_l21 n x0 x1 x2 x3 x4 x5 v15 r14))) else f0_fillLevels_l55 FU x0 x1 x2 x3 x4 x5 (0 : Int32) mm
theorem f0_fillLevels_l21_ok {E : Ev} {l : Launch} {C : Cfg} {x : Mem} (hj : Dj C) (X : Ec E l C rmX0_fillLevels) (B : Bx E RX0 tbX0_fillLevels 8 none) (hQ : Rt E) (hr : Rs E none x) (n : Nat) : ∀ (x0 : Nat) (x1 : Int32) (x2 : Int32) (x3 : Nat) (x4 : Nat) (x5 : Nat) (x6 : Int32) (mm : Mem), Ob x0 0 → Ob x3 8 → Ob x4 5 → Ob x5 2 → f0_fillLevels_l21 n x0 x1 x2 x3 x4 x5 x6 mm = some x → G E 8 21 [(0, .ref x0), (1, .int x1), (2, .int x2), (3, .ref x3), (4, .ref x4), (5, .ref x5), (6, .int x6)] [] mm := by
  induction n with
  | zero =>
    intro x0 x1 x2 x3 x4 x5 x6 mm o_x0 o_x3 o_x4 o_x5 hf
    rw [f0_fillLevels_l21] at hf
    cases hf
  | succ n ih =>
    intro x0 x1 x2 x3 x4 x5 x6 mm o_x0 o_x3 o_x4 o_x5 hf
    rw [f0_fillLevels_l21] at hf
    refine z_iload B 10 rfl 6 rfl ?_
    refine z_aload B 11 rfl 4 rfl ?_
    refine z_geti 5 0 x4 B 12 rfl o_x4 rfl (iX0_fillLevels _ (List.mem_of_getElem? (i := 3) rfl)) rfl ?_
    by_cases hc : x6 < (mm x4 0)
    · replace hf := (if_pos hc).symm.trans hf
      refine z_icmp_ge_f B 13 rfl 52 (by decide) hc ?_
      refine z_aload_n B 14 rfl 3 3 rfl rfl ?_
      refine z_iload B 15 rfl 6 rfl ?_
      refine z_aload B 16 rfl 4 rfl ?_
      refine z_iload B 17 rfl 6 rfl ?_
      refine z_iload_n B 18 rfl 2 2 rfl rfl ?_
      obtain ⟨r13, ec, hf⟩ := bd_e hf
      refine z_callV x4 5 [.int x6, .int x2] [.int x6, .ref x3] [.int r13, .int x6, .ref x3] X B 19 rfl o_x4 rfl rfl miX5_wantedFrom ⟨(iX0_fillLevels _ (List.mem_of_getElem? (i := 15) rfl)), (iX0_fillLevels _ (List.mem_of_getElem? (i := 16) rfl)), (iX0_fillLevels _ (List.mem_of_getElem? (i := 17) rfl))⟩ (ctX5_wantedFrom hj o_x4 ec) ⟨Nat.le_of_ble_eq_true rfl, Nat.le_of_ble_eq_true rfl⟩ rfl rfl (Nat.le_of_ble_eq_true rfl) rfl ?_
      refine z_ineg B 20 rfl ?_
      obtain ⟨r14, ec, hf⟩ := bd_e hf
      refine z_callN [.ref x3, .int x6, .int (-r13)] [] [] X B 21 rfl miX6_put ⟨List.mem_of_getElem? (i := 18) rfl, (iX0_fillLevels _ (List.mem_of_getElem? (i := 10) rfl))⟩ (ctX6_put hj o_x3 ec) ⟨Nat.le_of_ble_eq_true rfl, Nat.le_of_ble_eq_true rfl⟩ rfl rfl (Nat.le_of_ble_eq_true rfl) rfl ?_
      obtain ⟨v15, ex, hf⟩ := nm_x hf
      refine z_iinc v15 [(6, .int v15), (0, .ref x0), (1, .int x1), (2, .int x2), (3, .ref x3), (4, .ref x4), (5, .ref x5)] B 22 rfl 6 rfl (ex.symm) (by decide) rfl ?_
      refine z_goto B 23 rfl 21 (by decide) ?_
      refine z_sub [(0, .ref x0), (1, .int x1), (2, .int x2), (3, .ref x3), (4, .ref x4), (5, .ref x5), (6, .int v15)] [1, 2, 3, 4, 5, 6, 0] rfl ?_
      exact ih _ _ _ _ _ _ _ _ o_x0 o_x3 o_x4 o_x5  hf
    · replace hf := (if_neg hc).symm.trans hf
      refine z_icmp_ge_t B 13 rfl 52 (by decide) hc ?_
      refine z_iconst 0 B 24 rfl (by decide) ?_
      refine z_istore [(6, .int (0 : Int32)), (0, .ref x0), (1, .int x1), (2, .int x2), (3, .ref x3), (4, .ref x4), (5, .ref x5)] B 25 rfl (by decide) rfl ?_
      refine z_sub [(0, .ref x0), (1, .int x1), (2, .int x2), (3, .ref x3), (4, .ref x4), (5, .ref x5), (6, .int (0 : Int32))] [1, 2, 3, 4, 5, 6, 0] rfl ?_
      exact f0_fillLevels_l55_ok hj X B hQ hr FU _ _ _ _ _ _ _ _ o_x0 o_x3 o_x4 o_x5  hf
def f0_fillLevels (mm : Mem) (a0 : Nat) (a1 : Int32) (a2 : Int32) (a3 : Nat) : Option Mem := f0_fillLevels_l21 FU a0 a1 a2 a3 (a0 + 1 + 1) (a0 + 1 + 8) a1 mm
theorem ctX0_fillLevels {l : Launch} {C : Cfg} (hj : Dj C) {mm : Mem} {a0 : Nat} {a1 : Int32} {a2 : Int32} {a3 : Nat} {x : Mem} (o_a0 : Ob a0 0) (o_a3 : Ob a3 8) (hf : f0_fillLevels mm a0 a1 a2 a3 = some x) : Ct l C yX0_fillLevels cX0_fillLevels 8 none 2 51 [.ref a0, .int a1, .int a2, .ref a3] mm none x := by
  refine Ct.of (tb := tbX0_fillLevels) hj miX0_fillLevels.2.1 miX0_fillLevels.1 dtX0_fillLevels (Nat.le_of_ble_eq_true rfl) ?_
  intro E B hQ hr X
  unfold f0_fillLevels at hf
  show G E 8 0 [(0, .ref a0), (1, .int a1), (2, .int a2), (3, .ref a3)] [] mm
  refine z_aload_n B 0 rfl 0 0 rfl rfl ?_
  refine z_getr 0 0 a0 B 1 rfl o_a0 rfl (iX0_fillLevels _ (List.mem_of_getElem? (i := 0) rfl)) rfl ?_
  refine z_getr 1 0 (a0 + 1) B 2 rfl (obf_0_0 o_a0) rfl (iX0_fillLevels _ (List.mem_of_getElem? (i := 1) rfl)) rfl ?_
  refine z_astore [(4, .ref (a0 + 1 + 1)), (0, .ref a0), (1, .int a1), (2, .int a2), (3, .ref a3)] B 3 rfl (by decide) rfl ?_
  refine z_aload_n B 4 rfl 0 1 rfl rfl ?_
  refine z_getr 0 0 a0 B 5 rfl o_a0 rfl (iX0_fillLevels _ (List.mem_of_getElem? (i := 0) rfl)) rfl ?_
  refine z_getr 1 1 (a0 + 1) B 6 rfl (obf_0_0 o_a0) rfl (iX0_fillLevels _ (List.mem_of_getElem? (i := 2) rfl)) rfl ?_
  refine z_astore [(5, .ref (a0 + 1 + 8)), (4, .ref (a0 + 1 + 1)), (0, .ref a0), (1, .int a1), (2, .int a2), (3, .ref a3)] B 7 rfl (by decide) rfl ?_
  refine z_iload_n B 8 rfl 1 3 rfl rfl ?_
  refine z_istore [(6, .int a1), (5, .ref (a0 + 1 + 8)), (4, .ref (a0 + 1 + 1)), (0, .ref a0), (1, .int a1), (2, .int a2), (3, .ref a3)] B 9 rfl (by decide) rfl ?_
  refine z_sub [(0, .ref a0), (1, .int a1), (2, .int a2), (3, .ref a3), (4, .ref (a0 + 1 + 1)), (5, .ref (a0 + 1 + 8)), (6, .int a1)] [3, 4, 5, 6, 2, 1, 0] rfl ?_
  exact f0_fillLevels_l21_ok hj X B hQ hr FU _ _ _ _ _ _ _ _ o_a0 o_a3 (obf_1_0 (obf_0_0 o_a0)) (obf_1_1 (obf_0_0 o_a0))  hf
/-! ZoneCapacity$Auction.leastPrice(II)I -/
def tbX0_leastPrice : Tb := [(0, .iconst 0, 1, 1), (1, .istore_n 3, 1, 2), (2, .sipush 8192, 3, 5), (5, .istore 4, 2, 7), (7, .iload 4, 2, 9), (9, .ifCond .le 53, 3, 12), (12, .iload_n 3, 1, 13), (13, .iload 4, 2, 15), (15, .iadd, 1, 16), (16, .aload_n 0, 1, 17), (17, .getfield 98, 3, 20), (20, .if_icmp .gt 33, 3, 23), (23, .aload_n 0, 1, 24), (24, .iload_n 1, 1, 25), (25, .iload_n 3, 1, 26), (26, .iload 4, 2, 28), (28, .iadd, 1, 29), (29, .aload_n 0, 1, 30), (30, .getfield 37, 3, 33), (33, .invokevirtual 81, 3, 36), (36, .aload_n 0, 1, 37), (37, .getfield 37, 3, 40), (40, .iload_n 1, 1, 41), (41, .invokestatic 69, 3, 44), (44, .iload_n 2, 1, 45), (45, .if_icmp .ge 8, 3, 48), (48, .iload_n 3, 1, 49), (49, .iload 4, 2, 51), (51, .iadd, 1, 52), (52, .istore_n 3, 1, 53), (53, .iload 4, 2, 55), (55, .iconst 1, 1, 56), (56, .ishr, 1, 57), (57, .istore 4, 2, 59), (59, .goto (-52), 3, 62), (62, .iload_n 3, 1, 63), (63, .ireturn, 1, 64)]
theorem dtX0_leastPrice : ∀ q ∈ tbX0_leastPrice, decode cX0_leastPrice q.1 = .ok (q.2.1, q.2.2.1) ∧ q.1 + q.2.2.1 = q.2.2.2 := by decide +kernel
theorem miX0_leastPrice : MI yX0_leastPrice cX0_leastPrice 5 (some .int) 2 := ⟨tw_mem (List.mem_of_getElem? (i := 725) (by decide +kernel)) rfl, by decide, by decide +kernel, tw_mem (List.mem_of_getElem? (i := 72) (by decide +kernel)) rfl⟩
abbrev rmX0_leastPrice : Room := { frames := 3, cells := 0, slots := 0, locals := 78 }
def wX0_leastPrice : List Cond := [.fieldLink "ZoneCapacity$Auction" 98 "ZoneCapacity$Auction" "top" "I", .fieldLink "ZoneCapacity$Auction" 37 "ZoneCapacity$Auction" "levels" "[I", .methodLink "ZoneCapacity$Auction" 81 yX0_fillLevels, .instanceMethod yX0_fillLevels, .selects "ZoneCapacity$Auction" yX0_fillLevels yX0_fillLevels, .static yX6_at]
theorem iX0_leastPrice : ∀ w ∈ wX0_leastPrice, w ∈ TW := tw_of (ids := [240, 236, 689, 691, 15, 387]) (by decide +kernel)
def f0_leastPrice_j53 (k7 : Nat → Int32 → Int32 → Int32 → Int32 → Mem → Option (Int32 × Mem)) (x0 : Nat) (x1 : Int32) (x2 : Int32) (x3 : Int32) (x4 : Int32) (mm : Mem) : Option (Int32 × Mem) := nm (x4 >>> ((1 : Int32) &&& 31)) (fun v1 => k7 x0 x1 x2 x3 v1 mm)
theorem f0_leastPrice_j53_ok {E : Ev} {l : Launch} {C : Cfg} {x : (Int32 × Mem)} {k7 : Nat → Int32 → Int32 → Int32 → Int32 → Mem → Option (Int32 × Mem)} (hj : Dj C) (X : Ec E l C rmX0_leastPrice) (B : Bx E RX0 tbX0_leastPrice 5 (some .int)) (hQ : Rt E) (hr : Rs E (some (.int x.1)) x.2) (hk7 : ∀ (x0 : Nat) (x1 : Int32) (x2 : Int32) (x3 : Int32) (x4 : Int32) (mm : Mem), Ob x0 0 → k7 x0 x1 x2 x3 x4 mm = some x → G E 5 7 [(0, .ref x0), (1, .int x1), (2, .int x2), (3, .int x3), (4, .int x4)] [] mm) (x0 : Nat) (x1 : Int32) (x2 : Int32) (x3 : Int32) (x4 : Int32) (mm : Mem) (o_x0 : Ob x0 0) (hf : f0_leastPrice_j53 k7 x0 x1 x2 x3 x4 mm = some x) : G E 5 53 [(0, .ref x0), (1, .int x1), (2, .int x2), (3, .int x3), (4, .int x4)] [] mm := by
  unfold f0_leastPrice_j53 at hf
  refine z_iload B 30 rfl 4 rfl ?_
  refine z_iconst 1 B 31 rfl (by decide) ?_
  refine z_ishr B 32 rfl ?_
  obtain ⟨v1, ex, hf⟩ := nm_x hf
  refine z_top ex ?_
  refine z_istore [(4, .int v1), (0, .ref x0), (1, .int x1), (2, .int x2), (3, .int x3)] B 33 rfl (by decide) rfl ?_
  refine z_goto B 34 rfl 7 (by decide) ?_
  refine z_sub [(0, .ref x0), (1, .int x1), (2, .int x2), (3, .int x3), (4, .int v1)] [1, 2, 3, 4, 0] rfl ?_
  exact hk7 _ _ _ _ _ _ o_x0  hf
def f0_leastPrice_l7 : Nat → Nat → Int32 → Int32 → Int32 → Int32 → Mem → Option (Int32 × Mem)
  | 0, _, _, _, _, _, _ => none
  | n + 1, x0, x1, x2, x3, x4, mm => if 0 < x4 then if (mm x0 11) < (x3 + x4) then f0_leastPrice_j53 (fun x0 x1 x2 x3 x4 mm => f0_leastPrice_l7 n x0 x1 x2 x3 x4 mm) x0 x1 x2 x3 x4 mm else bd (f0_fillLevels mm x0 x1 (x3 + x4) (x0 + 26)) (fun r2 => bd (f6_at r2 (x0 + 26) x1) (fun r3 => if r3 < x2 then nm (x3 + x4) (fun v4 => f0_leastPrice_j53 (fun x0 x1 x2 x3 x4 mm => f0_leastPrice_l7 n x0 x1 x2 x3 x4 mm) x0 x1 x2 v4 x4 r2) else f0_leastPrice_j53 (fun x0 x1 x2 x3 x4 mm => f0_leastPrice_l7 n x0 x1 x2 x3 x4 mm) x0 x1 x2 x3 x4 r2)) else some (x3, mm)
theorem f0_leastPrice_l7_ok {E : Ev} {l : Launch} {C : Cfg} {x : (Int32 × Mem)} (hj : Dj C) (X : Ec E l C rmX0_leastPrice) (B : Bx E RX0 tbX0_leastPrice 5 (some .int)) (hQ : Rt E) (hr : Rs E (some (.int x.1)) x.2) (n : Nat) : ∀ (x0 : Nat) (x1 : Int32) (x2 : Int32) (x3 : Int32) (x4 : Int32) (mm : Mem), Ob x0 0 → f0_leastPrice_l7 n x0 x1 x2 x3 x4 mm = some x → G E 5 7 [(0, .ref x0), (1, .int x1), (2, .int x2), (3, .int x3), (4, .int x4)] [] mm := by
  induction n with
  | zero =>
    intro x0 x1 x2 x3 x4 mm o_x0 hf
    rw [f0_leastPrice_l7] at hf
    cases hf
  | succ n ih =>
    intro x0 x1 x2 x3 x4 mm o_x0 hf
    rw [f0_leastPrice_l7] at hf
    refine z_iload B 4 rfl 4 rfl ?_
    by_cases hc : 0 < x4
    · replace hf := (if_pos hc).symm.trans hf
      refine z_if_le_f B 5 rfl 62 (by decide) hc ?_
      refine z_iload_n B 6 rfl 3 3 rfl rfl ?_
      refine z_iload B 7 rfl 4 rfl ?_
      refine z_iadd B 8 rfl ?_
      refine z_aload_n B 9 rfl 0 0 rfl rfl ?_
      refine z_geti 0 11 x0 B 10 rfl o_x0 rfl (iX0_leastPrice _ (List.mem_of_getElem? (i := 0) rfl)) rfl ?_
      by_cases hc : (mm x0 11) < (x3 + x4)
      · replace hf := (if_pos hc).symm.trans hf
        refine z_icmp_gt_t B 11 rfl 53 (by decide) hc ?_
        exact f0_leastPrice_j53_ok hj X B hQ hr ih _ _ _ _ _ _ o_x0  hf
      · replace hf := (if_neg hc).symm.trans hf
        refine z_icmp_gt_f B 11 rfl 53 (by decide) hc ?_
        refine z_aload_n B 12 rfl 0 0 rfl rfl ?_
        refine z_iload_n B 13 rfl 1 1 rfl rfl ?_
        refine z_iload_n B 14 rfl 3 3 rfl rfl ?_
        refine z_iload B 15 rfl 4 rfl ?_
        refine z_iadd B 16 rfl ?_
        refine z_aload_n B 17 rfl 0 0 rfl rfl ?_
        refine z_getr 0 7 x0 B 18 rfl o_x0 rfl (iX0_leastPrice _ (List.mem_of_getElem? (i := 1) rfl)) rfl ?_
        obtain ⟨r2, ec, hf⟩ := bd_e hf
        refine z_callV x0 0 [.int x1, .int (x3 + x4), .ref (x0 + 26)] [] [] X B 19 rfl o_x0 rfl rfl miX0_fillLevels ⟨(iX0_leastPrice _ (List.mem_of_getElem? (i := 2) rfl)), (iX0_leastPrice _ (List.mem_of_getElem? (i := 3) rfl)), (iX0_leastPrice _ (List.mem_of_getElem? (i := 4) rfl))⟩ (ctX0_fillLevels hj o_x0 (obf_0_7 o_x0) ec) ⟨Nat.le_of_ble_eq_true rfl, Nat.le_of_ble_eq_true rfl⟩ rfl rfl (Nat.le_of_ble_eq_true rfl) rfl ?_
        refine z_aload_n B 20 rfl 0 0 rfl rfl ?_
        refine z_getr 0 7 x0 B 21 rfl o_x0 rfl (iX0_leastPrice _ (List.mem_of_getElem? (i := 1) rfl)) rfl ?_
        refine z_iload_n B 22 rfl 1 1 rfl rfl ?_
        obtain ⟨r3, ec, hf⟩ := bd_e hf
        refine z_callN [.ref (x0 + 26), .int x1] [] [.int r3] X B 23 rfl miX6_at ⟨List.mem_of_getElem? (i := 19) rfl, (iX0_leastPrice _ (List.mem_of_getElem? (i := 5) rfl))⟩ (ctX6_at hj (obf_0_7 o_x0) ec) ⟨Nat.le_of_ble_eq_true rfl, Nat.le_of_ble_eq_true rfl⟩ rfl rfl (Nat.le_of_ble_eq_true rfl) rfl ?_
        refine z_iload_n B 24 rfl 2 2 rfl rfl ?_
        by_cases hc : r3 < x2
        · replace hf := (if_pos hc).symm.trans hf
          refine z_icmp_ge_f B 25 rfl 53 (by decide) hc ?_
          refine z_iload_n B 26 rfl 3 3 rfl rfl ?_
          refine z_iload B 27 rfl 4 rfl ?_
          refine z_iadd B 28 rfl ?_
          obtain ⟨v4, ex, hf⟩ := nm_x hf
          refine z_top ex ?_
          refine z_istore_n [(3, .int v4), (0, .ref x0), (1, .int x1), (2, .int x2), (4, .int x4)] B 29 rfl 3 rfl (by decide) rfl ?_
          refine z_sub [(0, .ref x0), (1, .int x1), (2, .int x2), (3, .int v4), (4, .int x4)] [1, 2, 3, 0, 4] rfl ?_
          exact f0_leastPrice_j53_ok hj X B hQ hr ih _ _ _ _ _ _ o_x0  hf
        · replace hf := (if_neg hc).symm.trans hf
          refine z_icmp_ge_t B 25 rfl 53 (by decide) hc ?_
          exact f0_leastPrice_j53_ok hj X B hQ hr ih _ _ _ _ _ _ o_x0  hf
    · replace hf := (if_neg hc).symm.trans hf
      refine z_if_le_t B 5 rfl 62 (by decide) hc ?_
      refine z_iload_n B 35 rfl 3 3 rfl rfl ?_
      cases hf
      exact z_iret B 36 rfl rfl hQ hr
def f0_leastPrice (mm : Mem) (a0 : Nat) (a1 : Int32) (a2 : Int32) : Option (Int32 × Mem) := f0_leastPrice_l7 FU a0 a1 a2 (0 : Int32) (8192 : Int32) mm
theorem ctX0_leastPrice {l : Launch} {C : Cfg} (hj : Dj C) {mm : Mem} {a0 : Nat} {a1 : Int32} {a2 : Int32} {x : (Int32 × Mem)} (o_a0 : Ob a0 0) (hf : f0_leastPrice mm a0 a1 a2 = some x) : Ct l C yX0_leastPrice cX0_leastPrice 5 (some .int) 3 78 [.ref a0, .int a1, .int a2] mm (some (.int x.1)) x.2 := by
  refine Ct.of (tb := tbX0_leastPrice) hj miX0_leastPrice.2.1 miX0_leastPrice.1 dtX0_leastPrice (Nat.le_of_ble_eq_true rfl) ?_
  intro E B hQ hr X
  unfold f0_leastPrice at hf
  show G E 5 0 [(0, .ref a0), (1, .int a1), (2, .int a2)] [] mm
  refine z_iconst 0 B 0 rfl (by decide) ?_
  refine z_istore_n [(3, .int (0 : Int32)), (0, .ref a0), (1, .int a1), (2, .int a2)] B 1 rfl 3 rfl (by decide) rfl ?_
  refine z_sipush 8192 B 2 rfl (by decide) ?_
  refine z_istore [(4, .int (8192 : Int32)), (3, .int (0 : Int32)), (0, .ref a0), (1, .int a1), (2, .int a2)] B 3 rfl (by decide) rfl ?_
  refine z_sub [(0, .ref a0), (1, .int a1), (2, .int a2), (3, .int (0 : Int32)), (4, .int (8192 : Int32))] [2, 3, 4, 1, 0] rfl ?_
  exact f0_leastPrice_l7_ok hj X B hQ hr FU _ _ _ _ _ _ o_a0  hf
/-! ZoneCapacity$Auction.partToLines(III)I -/
def tbX0_partToLines : Tb := [(0, .aload_n 0, 1, 1), (1, .getfield 12, 3, 4), (4, .getfield 85, 3, 7), (7, .astore 4, 2, 9), (9, .iload_n 3, 1, 10), (10, .istore 5, 2, 12), (12, .iconst 0, 1, 13), (13, .istore 6, 2, 15), (15, .iload 6, 2, 17), (17, .aload 4, 2, 19), (19, .getfield 89, 3, 22), (22, .iconst 4, 1, 23), (23, .imul, 1, 24), (24, .if_icmp .ge 100, 3, 27), (27, .aload 4, 2, 29), (29, .getfield 113, 3, 32), (32, .iload 6, 2, 34), (34, .iconst 4, 1, 35), (35, .idiv, 1, 36), (36, .invokestatic 69, 3, 39), (39, .iload_n 1, 1, 40), (40, .if_icmp .ne 78, 3, 43), (43, .aload_n 0, 1, 44), (44, .getfield 34, 3, 47), (47, .iload 6, 2, 49), (49, .invokestatic 69, 3, 52), (52, .iload_n 2, 1, 53), (53, .if_icmp .ge 15, 3, 56), (56, .aload_n 0, 1, 57), (57, .getfield 31, 3, 60), (60, .iload 6, 2, 62), (62, .invokestatic 69, 3, 65), (65, .goto 4, 3, 68), (68, .iconst 0, 1, 69), (69, .istore 7, 2, 71), (71, .aload_n 0, 1, 72), (72, .getfield 34, 3, 75), (75, .iload 6, 2, 77), (77, .invokestatic 69, 3, 80), (80, .iload_n 2, 1, 81), (81, .if_icmp .ne 26, 3, 84), (84, .iload 5, 2, 86), (86, .aload_n 0, 1, 87), (87, .getfield 31, 3, 90), (90, .iload 6, 2, 92), (92, .invokestatic 69, 3, 95), (95, .invokestatic 131, 3, 98), (98, .istore 7, 2, 100), (100, .iload 5, 2, 102), (102, .iload 7, 2, 104), (104, .isub, 1, 105), (105, .istore 5, 2, 107), (107, .aload_n 0, 1, 108), (108, .getfield 28, 3, 111), (111, .iload 6, 2, 113), (113, .iload 7, 2, 115), (115, .invokestatic 56, 3, 118), (118, .iinc 6 1, 3, 121), (121, .goto (-106), 3, 124), (124, .iload 5, 2, 126), (126, .ireturn, 1, 127)]
theorem dtX0_partToLines : ∀ q ∈ tbX0_partToLines, decode cX0_partToLines q.1 = .ok (q.2.1, q.2.2.1) ∧ q.1 + q.2.2.1 = q.2.2.2 := by decide +kernel
theorem miX0_partToLines : MI yX0_partToLines cX0_partToLines 8 (some .int) 3 := ⟨tw_mem (List.mem_of_getElem? (i := 733) (by decide +kernel)) rfl, by decide, by decide +kernel, tw_mem (List.mem_of_getElem? (i := 72) (by decide +kernel)) rfl⟩
abbrev rmX0_partToLines : Room := { frames := 1, cells := 0, slots := 0, locals := 22 }
def wX0_partToLines : List Cond := [.fieldLink "ZoneCapacity$Auction" 12 "ZoneCapacity$Auction" "market" "LZoneCapacity$Market;", .fieldLink "ZoneCapacity$Auction" 85 "ZoneCapacity$Market" "offers" "LZoneCapacity$Offers;", .fieldLink "ZoneCapacity$Auction" 89 "ZoneCapacity$Offers" "many" "I", .fieldLink "ZoneCapacity$Auction" 113 "ZoneCapacity$Offers" "zones" "[I", .static yX6_at, .fieldLink "ZoneCapacity$Auction" 34 "ZoneCapacity$Auction" "its" "[I", .fieldLink "ZoneCapacity$Auction" 28 "ZoneCapacity$Auction" "takenUnits" "[I", .static yX6_put, .fieldLink "ZoneCapacity$Auction" 31 "ZoneCapacity$Auction" "units" "[I", .methodLink "ZoneCapacity$Auction" 131 ⟨"java/lang/Math", "min", "(II)I"⟩, .static ⟨"java/lang/Math", "min", "(II)I"⟩, .initialized "java/lang/Math", .code Lib.Math.min.name Lib.Math.min.code 2 (some .int)]
theorem iX0_partToLines : ∀ w ∈ wX0_partToLines, w ∈ TW := tw_of (ids := [224, 216, 159, 169, 387, 235, 232, 115, 234, 734, 648, 87, 649]) (by decide +kernel)
def f0_partToLines_j118 (k15 : Nat → Int32 → Int32 → Nat → Int32 → Int32 → Mem → Option (Int32 × Mem)) (x0 : Nat) (x1 : Int32) (x2 : Int32) (x4 : Nat) (x5 : Int32) (x6 : Int32) (mm : Mem) : Option (Int32 × Mem) := nm (x6 + 1) (fun v2 => k15 x0 x1 x2 x4 x5 v2 mm)
theorem f0_partToLines_j118_ok {E : Ev} {l : Launch} {C : Cfg} {x : (Int32 × Mem)} {k15 : Nat → Int32 → Int32 → Nat → Int32 → Int32 → Mem → Option (Int32 × Mem)} (hj : Dj C) (X : Ec E l C rmX0_partToLines) (B : Bx E RX0 tbX0_partToLines 8 (some .int)) (hQ : Rt E) (hr : Rs E (some (.int x.1)) x.2) (hk15 : ∀ (x0 : Nat) (x1 : Int32) (x2 : Int32) (x4 : Nat) (x5 : Int32) (x6 : Int32) (mm : Mem), Ob x0 0 → Ob x4 2 → k15 x0 x1 x2 x4 x5 x6 mm = some x → G E 8 15 [(0, .ref x0), (1, .int x1), (2, .int x2), (4, .ref x4), (5, .int x5), (6, .int x6)] [] mm) (x0 : Nat) (x1 : Int32) (x2 : Int32) (x4 : Nat) (x5 : Int32) (x6 : Int32) (mm : Mem) (o_x0 : Ob x0 0) (o_x4 : Ob x4 2) (hf : f0_partToLines_j118 k15 x0 x1 x2 x4 x5 x6 mm = some x) : G E 8 118 [(0, .ref x0), (1, .int x1), (2, .int x2), (4, .ref x4), (5, .int x5), (6, .int x6)] [] mm := by
  unfold f0_partToLines_j118 at hf
  obtain ⟨v2, ex, hf⟩ := nm_x hf
  refine z_iinc v2 [(6, .int v2), (0, .ref x0), (1, .int x1), (2, .int x2), (4, .ref x4), (5, .int x5)] B 57 rfl 5 rfl (ex.symm) (by decide) rfl ?_
  refine z_goto B 58 rfl 15 (by decide) ?_
  refine z_sub [(0, .ref x0), (1, .int x1), (2, .int x2), (4, .ref x4), (5, .int x5), (6, .int v2)] [1, 2, 3, 4, 5, 0] rfl ?_
  exact hk15 _ _ _ _ _ _ _ o_x0 o_x4  hf
def f0_partToLines_j107 (k15 : Nat → Int32 → Int32 → Nat → Int32 → Int32 → Mem → Option (Int32 × Mem)) (x0 : Nat) (x1 : Int32) (x2 : Int32) (x4 : Nat) (x5 : Int32) (x6 : Int32) (x7 : Int32) (mm : Mem) : Option (Int32 × Mem) := bd (f6_put mm (x0 + 23) x6 x7) (fun r5 => f0_partToLines_j118 k15 x0 x1 x2 x4 x5 x6 r5)
theorem f0_partToLines_j107_ok {E : Ev} {l : Launch} {C : Cfg} {x : (Int32 × Mem)} {k15 : Nat → Int32 → Int32 → Nat → Int32 → Int32 → Mem → Option (Int32 × Mem)} (hj : Dj C) (X : Ec E l C rmX0_partToLines) (B : Bx E RX0 tbX0_partToLines 8 (some .int)) (hQ : Rt E) (hr : Rs E (some (.int x.1)) x.2) (hk15 : ∀ (x0 : Nat) (x1 : Int32) (x2 : Int32) (x4 : Nat) (x5 : Int32) (x6 : Int32) (mm : Mem), Ob x0 0 → Ob x4 2 → k15 x0 x1 x2 x4 x5 x6 mm = some x → G E 8 15 [(0, .ref x0), (1, .int x1), (2, .int x2), (4, .ref x4), (5, .int x5), (6, .int x6)] [] mm) (x0 : Nat) (x1 : Int32) (x2 : Int32) (x4 : Nat) (x5 : Int32) (x6 : Int32) (x7 : Int32) (mm : Mem) (o_x0 : Ob x0 0) (o_x4 : Ob x4 2) (hf : f0_partToLines_j107 k15 x0 x1 x2 x4 x5 x6 x7 mm = some x) : G E 8 107 [(0, .ref x0), (1, .int x1), (2, .int x2), (4, .ref x4), (5, .int x5), (6, .int x6), (7, .int x7)] [] mm := by
  unfold f0_partToLines_j107 at hf
  refine z_aload_n B 52 rfl 0 0 rfl rfl ?_
  refine z_getr 0 4 x0 B 53 rfl o_x0 rfl (iX0_partToLines _ (List.mem_of_getElem? (i := 6) rfl)) rfl ?_
  refine z_iload B 54 rfl 5 rfl ?_
  refine z_iload B 55 rfl 6 rfl ?_
  obtain ⟨r5, ec, hf⟩ := bd_e hf
  refine z_callN [.ref (x0 + 23), .int x6, .int x7] [] [] X B 56 rfl miX6_put ⟨List.mem_of_getElem? (i := 18) rfl, (iX0_partToLines _ (List.mem_of_getElem? (i := 7) rfl))⟩ (ctX6_put hj (obf_0_4 o_x0) ec) ⟨Nat.le_of_ble_eq_true rfl, Nat.le_of_ble_eq_true rfl⟩ rfl rfl (Nat.le_of_ble_eq_true rfl) rfl ?_
  refine z_sub [(0, .ref x0), (1, .int x1), (2, .int x2), (4, .ref x4), (5, .int x5), (6, .int x6)] [0, 1, 2, 3, 4, 5] rfl ?_
  exact f0_partToLines_j118_ok hj X B hQ hr hk15 _ _ _ _ _ _ _ o_x0 o_x4  hf
def f0_partToLines_j69 (k15 : Nat → Int32 → Int32 → Nat → Int32 → Int32 → Mem → Option (Int32 × Mem)) (x0 : Nat) (x1 : Int32) (x2 : Int32) (x4 : Nat) (x5 : Int32) (x6 : Int32) (s0 : Int32) (mm : Mem) : Option (Int32 × Mem) := bd (f6_at mm (x0 + 25) x6) (fun r4 => if r4 = x2 then bd (f6_at mm (x0 + 24) x6) (fun r6 => nm (mni x5 r6) (fun v7 => nm (x5 - v7) (fun v8 => f0_partToLines_j107 k15 x0 x1 x2 x4 v8 x6 v7 mm))) else f0_partToLines_j107 k15 x0 x1 x2 x4 x5 x6 s0 mm)
theorem f0_partToLines_j69_ok {E : Ev} {l : Launch} {C : Cfg} {x : (Int32 × Mem)} {k15 : Nat → Int32 → Int32 → Nat → Int32 → Int32 → Mem → Option (Int32 × Mem)} (hj : Dj C) (X : Ec E l C rmX0_partToLines) (B : Bx E RX0 tbX0_partToLines 8 (some .int)) (hQ : Rt E) (hr : Rs E (some (.int x.1)) x.2) (hk15 : ∀ (x0 : Nat) (x1 : Int32) (x2 : Int32) (x4 : Nat) (x5 : Int32) (x6 : Int32) (mm : Mem), Ob x0 0 → Ob x4 2 → k15 x0 x1 x2 x4 x5 x6 mm = some x → G E 8 15 [(0, .ref x0), (1, .int x1), (2, .int x2), (4, .ref x4), (5, .int x5), (6, .int x6)] [] mm) (x0 : Nat) (x1 : Int32) (x2 : Int32) (x4 : Nat) (x5 : Int32) (x6 : Int32) (s0 : Int32) (mm : Mem) (o_x0 : Ob x0 0) (o_x4 : Ob x4 2) (hf : f0_partToLines_j69 k15 x0 x1 x2 x4 x5 x6 s0 mm = some x) : G E 8 69 [(0, .ref x0), (1, .int x1), (2, .int x2), (4, .ref x4), (5, .int x5), (6, .int x6)] [.int s0] mm := by
  unfold f0_partToLines_j69 at hf
  refine z_istore [(7, .int s0), (0, .ref x0), (1, .int x1), (2, .int x2), (4, .ref x4), (5, .int x5), (6, .int x6)] B 34 rfl (by decide) rfl ?_
  refine z_aload_n B 35 rfl 0 1 rfl rfl ?_
  refine z_getr 0 6 x0 B 36 rfl o_x0 rfl (iX0_partToLines _ (List.mem_of_getElem? (i := 5) rfl)) rfl ?_
  refine z_iload B 37 rfl 6 rfl ?_
  obtain ⟨r4, ec, hf⟩ := bd_e hf
  refine z_callN [.ref (x0 + 25), .int x6] [] [.int r4] X B 38 rfl miX6_at ⟨List.mem_of_getElem? (i := 19) rfl, (iX0_partToLines _ (List.mem_of_getElem? (i := 4) rfl))⟩ (ctX6_at hj (obf_0_6 o_x0) ec) ⟨Nat.le_of_ble_eq_true rfl, Nat.le_of_ble_eq_true rfl⟩ rfl rfl (Nat.le_of_ble_eq_true rfl) rfl ?_
  refine z_iload_n B 39 rfl 2 3 rfl rfl ?_
  by_cases hc : r4 = x2
  · replace hf := (if_pos hc).symm.trans hf
    refine z_icmp_ne_f B 40 rfl 107 (by decide) hc ?_
    refine z_iload B 41 rfl 5 rfl ?_
    refine z_aload_n B 42 rfl 0 1 rfl rfl ?_
    refine z_getr 0 5 x0 B 43 rfl o_x0 rfl (iX0_partToLines _ (List.mem_of_getElem? (i := 8) rfl)) rfl ?_
    refine z_iload B 44 rfl 6 rfl ?_
    obtain ⟨r6, ec, hf⟩ := bd_e hf
    refine z_callN [.ref (x0 + 24), .int x6] [.int x5] [.int r6, .int x5] X B 45 rfl miX6_at ⟨List.mem_of_getElem? (i := 19) rfl, (iX0_partToLines _ (List.mem_of_getElem? (i := 4) rfl))⟩ (ctX6_at hj (obf_0_5 o_x0) ec) ⟨Nat.le_of_ble_eq_true rfl, Nat.le_of_ble_eq_true rfl⟩ rfl rfl (Nat.le_of_ble_eq_true rfl) rfl ?_
    refine z_mmin X B 46 rfl ⟨(iX0_partToLines _ (List.mem_of_getElem? (i := 9) rfl)), (iX0_partToLines _ (List.mem_of_getElem? (i := 10) rfl)), (iX0_partToLines _ (List.mem_of_getElem? (i := 11) rfl)), (iX0_partToLines _ (List.mem_of_getElem? (i := 12) rfl))⟩ ⟨Nat.le_of_ble_eq_true rfl, Nat.le_of_ble_eq_true rfl⟩ (Nat.le_of_ble_eq_true rfl) ?_
    obtain ⟨v7, ex, hf⟩ := nm_x hf
    refine z_top ex ?_
    refine z_istore [(7, .int v7), (0, .ref x0), (1, .int x1), (2, .int x2), (4, .ref x4), (5, .int x5), (6, .int x6)] B 47 rfl (by decide) rfl ?_
    refine z_iload B 48 rfl 5 rfl ?_
    refine z_iload B 49 rfl 0 rfl ?_
    refine z_isub B 50 rfl ?_
    obtain ⟨v8, ex, hf⟩ := nm_x hf
    refine z_top ex ?_
    refine z_istore [(5, .int v8), (7, .int v7), (0, .ref x0), (1, .int x1), (2, .int x2), (4, .ref x4), (6, .int x6)] B 51 rfl (by decide) rfl ?_
    refine z_sub [(0, .ref x0), (1, .int x1), (2, .int x2), (4, .ref x4), (5, .int v8), (6, .int x6), (7, .int v7)] [2, 3, 4, 5, 0, 6, 1] rfl ?_
    exact f0_partToLines_j107_ok hj X B hQ hr hk15 _ _ _ _ _ _ _ _ o_x0 o_x4  hf
  · replace hf := (if_neg hc).symm.trans hf
    refine z_icmp_ne_t B 40 rfl 107 (by decide) hc ?_
    refine z_sub [(0, .ref x0), (1, .int x1), (2, .int x2), (4, .ref x4), (5, .int x5), (6, .int x6), (7, .int s0)] [1, 2, 3, 4, 5, 6, 0] rfl ?_
    exact f0_partToLines_j107_ok hj X B hQ hr hk15 _ _ _ _ _ _ _ _ o_x0 o_x4  hf
def f0_partToLines_l15 : Nat → Nat → Int32 → Int32 → Nat → Int32 → Int32 → Mem → Option (Int32 × Mem)
  | 0, _, _, _, _, _, _, _ => none
  | n + 1, x0, x1, x2, x4, x5, x6, mm => if x6 < ((mm x4 0) * (4 : Int32)) then dvz (4 : Int32) (bd (f6_at mm (x4 + 2) (x6 / (4 : Int32))) (fun r1 => if r1 = x1 then bd (f6_at mm (x0 + 25) x6) (fun r3 => if r3 < x2 then bd (f6_at mm (x0 + 24) x6) (fun r9 => f0_partToLines_j69 (fun x0 x1 x2 x4 x5 x6 mm => f0_partToLines_l15 n x0 x1 x2 x4 x5 x6 mm) x0 x1 x2 x4 x5 x6 r9 mm) else f0_partToLines_j69 (fun x0 x1 x2 x4 x5 x6 mm => f0_partToLines_l15 n x0 x1 x2 x4 x5 x6 mm) x0 x1 x2 x4 x5 x6 (0 : Int32) mm) else f0_partToLines_j118 (fun x0 x1 x2 x4 x5 x6 mm => f0_partToLines_l15 n x0 x1 x2 x4 x5 x6 mm) x0 x1 x2 x4 x5 x6 mm)) else some (x5, mm)
theorem f0_partToLines_l15_ok {E : Ev} {l : Launch} {C : Cfg} {x : (Int32 × Mem)} (hj : Dj C) (X : Ec E l C rmX0_partToLines) (B : Bx E RX0 tbX0_partToLines 8 (some .int)) (hQ : Rt E) (hr : Rs E (some (.int x.1)) x.2) (n : Nat) : ∀ (x0 : Nat) (x1 : Int32) (x2 : Int32) (x4 : Nat) (x5 : Int32) (x6 : Int32) (mm : Mem), Ob x0 0 → Ob x4 2 → f0_partToLines_l15 n x0 x1 x2 x4 x5 x6 mm = some x → G E 8 15 [(0, .ref x0), (1, .int x1), (2, .int x2), (4, .ref x4), (5, .int x5), (6, .int x6)] [] mm := by
  induction n with
  | zero =>
    intro x0 x1 x2 x4 x5 x6 mm o_x0 o_x4 hf
    rw [f0_partToLines_l15] at hf
    cases hf
  | succ n ih =>
    intro x0 x1 x2 x4 x5 x6 mm o_x0 o_x4 hf
    rw [f0_partToLines_l15] at hf
    refine z_iload B 8 rfl 5 rfl ?_
    refine z_aload B 9 rfl 3 rfl ?_
    refine z_geti 2 0 x4 B 10 rfl o_x4 rfl (iX0_partToLines _ (List.mem_of_getElem? (i := 2) rfl)) rfl ?_
    refine z_iconst 4 B 11 rfl (by decide) ?_
    refine z_imul B 12 rfl ?_
    by_cases hc : x6 < ((mm x4 0) * (4 : Int32))
    · replace hf := (if_pos hc).symm.trans hf
      refine z_icmp_ge_f B 13 rfl 124 (by decide) hc ?_
      refine z_aload B 14 rfl 3 rfl ?_
      refine z_getr 2 3 x4 B 15 rfl o_x4 rfl (iX0_partToLines _ (List.mem_of_getElem? (i := 3) rfl)) rfl ?_
      refine z_iload B 16 rfl 5 rfl ?_
      refine z_iconst 4 B 17 rfl (by decide) ?_
      obtain ⟨hz, hf⟩ := dvz_e hf
      refine z_idiv B 18 rfl hz ?_
      obtain ⟨r1, ec, hf⟩ := bd_e hf
      refine z_callN [.ref (x4 + 2), .int (x6 / (4 : Int32))] [] [.int r1] X B 19 rfl miX6_at ⟨List.mem_of_getElem? (i := 19) rfl, (iX0_partToLines _ (List.mem_of_getElem? (i := 4) rfl))⟩ (ctX6_at hj (obf_2_3 o_x4) ec) ⟨Nat.le_of_ble_eq_true rfl, Nat.le_of_ble_eq_true rfl⟩ rfl rfl (Nat.le_of_ble_eq_true rfl) rfl ?_
      refine z_iload_n B 20 rfl 1 1 rfl rfl ?_
      by_cases hc : r1 = x1
      · replace hf := (if_pos hc).symm.trans hf
        refine z_icmp_ne_f B 21 rfl 118 (by decide) hc ?_
        refine z_aload_n B 22 rfl 0 0 rfl rfl ?_
        refine z_getr 0 6 x0 B 23 rfl o_x0 rfl (iX0_partToLines _ (List.mem_of_getElem? (i := 5) rfl)) rfl ?_
        refine z_iload B 24 rfl 5 rfl ?_
        obtain ⟨r3, ec, hf⟩ := bd_e hf
        refine z_callN [.ref (x0 + 25), .int x6] [] [.int r3] X B 25 rfl miX6_at ⟨List.mem_of_getElem? (i := 19) rfl, (iX0_partToLines _ (List.mem_of_getElem? (i := 4) rfl))⟩ (ctX6_at hj (obf_0_6 o_x0) ec) ⟨Nat.le_of_ble_eq_true rfl, Nat.le_of_ble_eq_true rfl⟩ rfl rfl (Nat.le_of_ble_eq_true rfl) rfl ?_
        refine z_iload_n B 26 rfl 2 2 rfl rfl ?_
        by_cases hc : r3 < x2
        · replace hf := (if_pos hc).symm.trans hf
          refine z_icmp_ge_f B 27 rfl 68 (by decide) hc ?_
          refine z_aload_n B 28 rfl 0 0 rfl rfl ?_
          refine z_getr 0 5 x0 B 29 rfl o_x0 rfl (iX0_partToLines _ (List.mem_of_getElem? (i := 8) rfl)) rfl ?_
          refine z_iload B 30 rfl 5 rfl ?_
          obtain ⟨r9, ec, hf⟩ := bd_e hf
          refine z_callN [.ref (x0 + 24), .int x6] [] [.int r9] X B 31 rfl miX6_at ⟨List.mem_of_getElem? (i := 19) rfl, (iX0_partToLines _ (List.mem_of_getElem? (i := 4) rfl))⟩ (ctX6_at hj (obf_0_5 o_x0) ec) ⟨Nat.le_of_ble_eq_true rfl, Nat.le_of_ble_eq_true rfl⟩ rfl rfl (Nat.le_of_ble_eq_true rfl) rfl ?_
          refine z_goto B 32 rfl 69 (by decide) ?_
          exact f0_partToLines_j69_ok hj X B hQ hr ih _ _ _ _ _ _ _ _ o_x0 o_x4  hf
        · replace hf := (if_neg hc).symm.trans hf
          refine z_icmp_ge_t B 27 rfl 68 (by decide) hc ?_
          refine z_iconst 0 B 33 rfl (by decide) ?_
          exact f0_partToLines_j69_ok hj X B hQ hr ih _ _ _ _ _ _ _ _ o_x0 o_x4  hf
      · replace hf := (if_neg hc).symm.trans hf
        refine z_icmp_ne_t B 21 rfl 118 (by decide) hc ?_
        exact f0_partToLines_j118_ok hj X B hQ hr ih _ _ _ _ _ _ _ o_x0 o_x4  hf
    · replace hf := (if_neg hc).symm.trans hf
      refine z_icmp_ge_t B 13 rfl 124 (by decide) hc ?_
      refine z_iload B 59 rfl 4 rfl ?_
      cases hf
      exact z_iret B 60 rfl rfl hQ hr
def f0_partToLines (mm : Mem) (a0 : Nat) (a1 : Int32) (a2 : Int32) (a3 : Int32) : Option (Int32 × Mem) := f0_partToLines_l15 FU a0 a1 a2 (a0 + 1 + 8) a3 (0 : Int32) mm
theorem ctX0_partToLines {l : Launch} {C : Cfg} (hj : Dj C) {mm : Mem} {a0 : Nat} {a1 : Int32} {a2 : Int32} {a3 : Int32} {x : (Int32 × Mem)} (o_a0 : Ob a0 0) (hf : f0_partToLines mm a0 a1 a2 a3 = some x) : Ct l C yX0_partToLines cX0_partToLines 8 (some .int) 1 22 [.ref a0, .int a1, .int a2, .int a3] mm (some (.int x.1)) x.2 := by
  refine Ct.of (tb := tbX0_partToLines) hj miX0_partToLines.2.1 miX0_partToLines.1 dtX0_partToLines (Nat.le_of_ble_eq_true rfl) ?_
  intro E B hQ hr X
  unfold f0_partToLines at hf
  show G E 8 0 [(0, .ref a0), (1, .int a1), (2, .int a2), (3, .int a3)] [] mm
  refine z_aload_n B 0 rfl 0 0 rfl rfl ?_
  refine z_getr 0 0 a0 B 1 rfl o_a0 rfl (iX0_partToLines _ (List.mem_of_getElem? (i := 0) rfl)) rfl ?_
  refine z_getr 1 1 (a0 + 1) B 2 rfl (obf_0_0 o_a0) rfl (iX0_partToLines _ (List.mem_of_getElem? (i := 1) rfl)) rfl ?_
  refine z_astore [(4, .ref (a0 + 1 + 8)), (0, .ref a0), (1, .int a1), (2, .int a2), (3, .int a3)] B 3 rfl (by decide) rfl ?_
  refine z_iload_n B 4 rfl 3 4 rfl rfl ?_
  refine z_istore [(5, .int a3), (4, .ref (a0 + 1 + 8)), (0, .ref a0), (1, .int a1), (2, .int a2), (3, .int a3)] B 5 rfl (by decide) rfl ?_
  refine z_iconst 0 B 6 rfl (by decide) ?_
  refine z_istore [(6, .int (0 : Int32)), (5, .int a3), (4, .ref (a0 + 1 + 8)), (0, .ref a0), (1, .int a1), (2, .int a2), (3, .int a3)] B 7 rfl (by decide) rfl ?_
  refine z_sub [(0, .ref a0), (1, .int a1), (2, .int a2), (4, .ref (a0 + 1 + 8)), (5, .int a3), (6, .int (0 : Int32))] [3, 4, 5, 2, 1, 0] rfl ?_
  exact f0_partToLines_l15_ok hj X B hQ hr FU _ _ _ _ _ _ _ o_a0 (obf_1_1 (obf_0_0 o_a0))  hf
/-! ZoneCapacity$Auction.partToInner(III)I -/
def tbX0_partToInner : Tb := [(0, .aload_n 0, 1, 1), (1, .getfield 12, 3, 4), (4, .getfield 60, 3, 7), (7, .astore 4, 2, 9), (9, .iload_n 3, 1, 10), (10, .istore 5, 2, 12), (12, .iload_n 1, 1, 13), (13, .iconst 1, 1, 14), (14, .iadd, 1, 15), (15, .istore 6, 2, 17), (17, .iload 6, 2, 19), (19, .aload 4, 2, 21), (21, .getfield 64, 3, 24), (24, .if_icmp .ge 128, 3, 27), (27, .aload 4, 2, 29), (29, .getfield 118, 3, 32), (32, .iload 6, 2, 34), (34, .invokestatic 69, 3, 37), (37, .iload_n 1, 1, 38), (38, .if_icmp .ne 108, 3, 41), (41, .aload_n 0, 1, 42), (42, .getfield 40, 3, 45), (45, .iload 6, 2, 47), (47, .invokestatic 69, 3, 50), (50, .istore 7, 2, 52), (52, .aload_n 0, 1, 53), (53, .getfield 43, 3, 56), (56, .iload 6, 2, 58), (58, .invokestatic 69, 3, 61), (61, .istore 8, 2, 63), (63, .aload 4, 2, 65), (65, .iload 6, 2, 67), (67, .iload 7, 2, 69), (69, .invokevirtual 121, 3, 72), (72, .istore 9, 2, 74), (74, .iload 5, 2, 76), (76, .aload 4, 2, 78), (78, .iload 6, 2, 80), (80, .iload 8, 2, 82), (82, .invokevirtual 121, 3, 85), (85, .iload 9, 2, 87), (87, .isub, 1, 88), (88, .invokestatic 131, 3, 91), (91, .istore 10, 2, 93), (93, .iload 5, 2, 95), (95, .iload 10, 2, 97), (97, .isub, 1, 98), (98, .istore 5, 2, 100), (100, .iload 9, 2, 102), (102, .iload 10, 2, 104), (104, .iadd, 1, 105), (105, .istore 11, 2, 107), (107, .aload_n 0, 1, 108), (108, .getfield 22, 3, 111), (111, .iload 6, 2, 113), (113, .iload 11, 2, 115), (115, .invokestatic 56, 3, 118), (118, .aload_n 0, 1, 119), (119, .getfield 18, 3, 122), (122, .iload 6, 2, 124), (124, .iload 7, 2, 126), (126, .iload 11, 2, 128), (128, .if_icmp .gt 14, 3, 131), (131, .iload 11, 2, 133), (133, .iload 8, 2, 135), (135, .if_icmp .gt 7, 3, 138), (138, .iload_n 2, 1, 139), (139, .goto 4, 3, 142), (142, .iconst (-1), 1, 143), (143, .invokestatic 56, 3, 146), (146, .iinc 6 1, 3, 149), (149, .goto (-132), 3, 152), (152, .iload 5, 2, 154), (154, .ireturn, 1, 155)]
theorem dtX0_partToInner : ∀ q ∈ tbX0_partToInner, decode cX0_partToInner q.1 = .ok (q.2.1, q.2.2.1) ∧ q.1 + q.2.2.1 = q.2.2.2 := by decide +kernel
theorem miX0_partToInner : MI yX0_partToInner cX0_partToInner 12 (some .int) 3 := ⟨tw_mem (List.mem_of_getElem? (i := 738) (by decide +kernel)) rfl, by decide, by decide +kernel, tw_mem (List.mem_of_getElem? (i := 72) (by decide +kernel)) rfl⟩
abbrev rmX0_partToInner : Room := { frames := 2, cells := 0, slots := 0, locals := 43 }
def wX0_partToInner : List Cond := [.fieldLink "ZoneCapacity$Auction" 12 "ZoneCapacity$Auction" "market" "LZoneCapacity$Market;", .fieldLink "ZoneCapacity$Auction" 60 "ZoneCapacity$Market" "zones" "LZoneCapacity$Zones;", .fieldLink "ZoneCapacity$Auction" 64 "ZoneCapacity$Zones" "many" "I", .fieldLink "ZoneCapacity$Auction" 118 "ZoneCapacity$Zones" "outer" "[I", .static yX6_at, .fieldLink "ZoneCapacity$Auction" 40 "ZoneCapacity$Auction" "lows" "[I", .fieldLink "ZoneCapacity$Auction" 43 "ZoneCapacity$Auction" "highs" "[I", .methodLink "ZoneCapacity$Auction" 121 yX5_cut, .instanceMethod yX5_cut, .selects "ZoneCapacity$Zones" yX5_cut yX5_cut, .methodLink "ZoneCapacity$Auction" 131 ⟨"java/lang/Math", "min", "(II)I"⟩, .static ⟨"java/lang/Math", "min", "(II)I"⟩, .initialized "java/lang/Math", .code Lib.Math.min.name Lib.Math.min.code 2 (some .int), .fieldLink "ZoneCapacity$Auction" 22 "ZoneCapacity$Auction" "nets" "[I", .static yX6_put, .fieldLink "ZoneCapacity$Auction" 18 "ZoneCapacity$Auction" "prices" "[I"]
theorem iX0_partToInner : ∀ w ∈ wX0_partToInner, w ∈ TW := tw_of (ids := [224, 212, 118, 122, 387, 237, 238, 699, 700, 701, 734, 648, 87, 649, 228, 115, 226]) (by decide +kernel)
def f0_partToInner_j146 (k17 : Nat → Int32 → Int32 → Nat → Int32 → Int32 → Mem → Option (Int32 × Mem)) (x0 : Nat) (x1 : Int32) (x2 : Int32) (x4 : Nat) (x5 : Int32) (x6 : Int32) (mm : Mem) : Option (Int32 × Mem) := nm (x6 + 1) (fun v3 => k17 x0 x1 x2 x4 x5 v3 mm)
theorem f0_partToInner_j146_ok {E : Ev} {l : Launch} {C : Cfg} {x : (Int32 × Mem)} {k17 : Nat → Int32 → Int32 → Nat → Int32 → Int32 → Mem → Option (Int32 × Mem)} (hj : Dj C) (X : Ec E l C rmX0_partToInner) (B : Bx E RX0 tbX0_partToInner 12 (some .int)) (hQ : Rt E) (hr : Rs E (some (.int x.1)) x.2) (hk17 : ∀ (x0 : Nat) (x1 : Int32) (x2 : Int32) (x4 : Nat) (x5 : Int32) (x6 : Int32) (mm : Mem), Ob x0 0 → Ob x4 5 → k17 x0 x1 x2 x4 x5 x6 mm = some x → G E 12 17 [(0, .ref x0), (1, .int x1), (2, .int x2), (4, .ref x4), (5, .int x5), (6, .int x6)] [] mm) (x0 : Nat) (x1 : Int32) (x2 : Int32) (x4 : Nat) (x5 : Int32) (x6 : Int32) (mm : Mem) (o_x0 : Ob x0 0) (o_x4 : Ob x4 5) (hf : f0_partToInner_j146 k17 x0 x1 x2 x4 x5 x6 mm = some x) : G E 12 146 [(0, .ref x0), (1, .int x1), (2, .int x2), (4, .ref x4), (5, .int x5), (6, .int x6)] [] mm := by
  unfold f0_partToInner_j146 at hf
  obtain ⟨v3, ex, hf⟩ := nm_x hf
  refine z_iinc v3 [(6, .int v3), (0, .ref x0), (1, .int x1), (2, .int x2), (4, .ref x4), (5, .int x5)] B 70 rfl 5 rfl (ex.symm) (by decide) rfl ?_
  refine z_goto B 71 rfl 17 (by decide) ?_
  refine z_sub [(0, .ref x0), (1, .int x1), (2, .int x2), (4, .ref x4), (5, .int x5), (6, .int v3)] [1, 2, 3, 4, 5, 0] rfl ?_
  exact hk17 _ _ _ _ _ _ _ o_x0 o_x4  hf
def f0_partToInner_j143 (k17 : Nat → Int32 → Int32 → Nat → Int32 → Int32 → Mem → Option (Int32 × Mem)) (x0 : Nat) (x1 : Int32) (x2 : Int32) (x4 : Nat) (x5 : Int32) (x6 : Int32) (s0 : Int32) (s1 : Int32) (s2 : Nat) (mm : Mem) : Option (Int32 × Mem) := bd (f6_put mm s2 s1 s0) (fun r12 => f0_partToInner_j146 k17 x0 x1 x2 x4 x5 x6 r12)
theorem f0_partToInner_j143_ok {E : Ev} {l : Launch} {C : Cfg} {x : (Int32 × Mem)} {k17 : Nat → Int32 → Int32 → Nat → Int32 → Int32 → Mem → Option (Int32 × Mem)} (hj : Dj C) (X : Ec E l C rmX0_partToInner) (B : Bx E RX0 tbX0_partToInner 12 (some .int)) (hQ : Rt E) (hr : Rs E (some (.int x.1)) x.2) (hk17 : ∀ (x0 : Nat) (x1 : Int32) (x2 : Int32) (x4 : Nat) (x5 : Int32) (x6 : Int32) (mm : Mem), Ob x0 0 → Ob x4 5 → k17 x0 x1 x2 x4 x5 x6 mm = some x → G E 12 17 [(0, .ref x0), (1, .int x1), (2, .int x2), (4, .ref x4), (5, .int x5), (6, .int x6)] [] mm) (x0 : Nat) (x1 : Int32) (x2 : Int32) (x4 : Nat) (x5 : Int32) (x6 : Int32) (s0 : Int32) (s1 : Int32) (s2 : Nat) (mm : Mem) (o_x0 : Ob x0 0) (o_x4 : Ob x4 5) (o_s2 : Ob s2 8) (hf : f0_partToInner_j143 k17 x0 x1 x2 x4 x5 x6 s0 s1 s2 mm = some x) : G E 12 143 [(0, .ref x0), (1, .int x1), (2, .int x2), (4, .ref x4), (5, .int x5), (6, .int x6)] [.int s0, .int s1, .ref s2] mm := by
  unfold f0_partToInner_j143 at hf
  obtain ⟨r12, ec, hf⟩ := bd_e hf
  refine z_callN [.ref s2, .int s1, .int s0] [] [] X B 69 rfl miX6_put ⟨List.mem_of_getElem? (i := 18) rfl, (iX0_partToInner _ (List.mem_of_getElem? (i := 15) rfl))⟩ (ctX6_put hj o_s2 ec) ⟨Nat.le_of_ble_eq_true rfl, Nat.le_of_ble_eq_true rfl⟩ rfl rfl (Nat.le_of_ble_eq_true rfl) rfl ?_
  exact f0_partToInner_j146_ok hj X B hQ hr hk17 _ _ _ _ _ _ _ o_x0 o_x4  hf
def f0_partToInner_j142 (k17 : Nat → Int32 → Int32 → Nat → Int32 → Int32 → Mem → Option (Int32 × Mem)) (x0 : Nat) (x1 : Int32) (x2 : Int32) (x4 : Nat) (x5 : Int32) (x6 : Int32) (s0 : Int32) (s1 : Nat) (mm : Mem) : Option (Int32 × Mem) := f0_partToInner_j143 k17 x0 x1 x2 x4 x5 x6 (-1 : Int32) s0 s1 mm
theorem f0_partToInner_j142_ok {E : Ev} {l : Launch} {C : Cfg} {x : (Int32 × Mem)} {k17 : Nat → Int32 → Int32 → Nat → Int32 → Int32 → Mem → Option (Int32 × Mem)} (hj : Dj C) (X : Ec E l C rmX0_partToInner) (B : Bx E RX0 tbX0_partToInner 12 (some .int)) (hQ : Rt E) (hr : Rs E (some (.int x.1)) x.2) (hk17 : ∀ (x0 : Nat) (x1 : Int32) (x2 : Int32) (x4 : Nat) (x5 : Int32) (x6 : Int32) (mm : Mem), Ob x0 0 → Ob x4 5 → k17 x0 x1 x2 x4 x5 x6 mm = some x → G E 12 17 [(0, .ref x0), (1, .int x1), (2, .int x2), (4, .ref x4), (5, .int x5), (6, .int x6)] [] mm) (x0 : Nat) (x1 : Int32) (x2 : Int32) (x4 : Nat) (x5 : Int32) (x6 : Int32) (s0 : Int32) (s1 : Nat) (mm : Mem) (o_x0 : Ob x0 0) (o_x4 : Ob x4 5) (o_s1 : Ob s1 8) (hf : f0_partToInner_j142 k17 x0 x1 x2 x4 x5 x6 s0 s1 mm = some x) : G E 12 142 [(0, .ref x0), (1, .int x1), (2, .int x2), (4, .ref x4), (5, .int x5), (6, .int x6)] [.int s0, .ref s1] mm := by
  unfold f0_partToInner_j142 at hf
  refine z_iconst (-1) B 68 rfl (by decide) ?_
  exact f0_partToInner_j143_ok hj X B hQ hr hk17 _ _ _ _ _ _ _ _ _ _ o_x0 o_x4 o_s1 hf
def f0_partToInner_l17 : Nat → Nat → Int32 → Int32 → Nat → Int32 → Int32 → Mem → Option (Int32 × Mem)
  | 0, _, _, _, _, _, _, _ => none
  | n + 1, x0, x1, x2, x4, x5, x6, mm => if x6 < (mm x4 0) then bd (f6_at mm (x4 + 1) x6) (fun r2 => if r2 = x1 then bd (f6_at mm (x0 + 27) x6) (fun r4 => bd (f6_at mm (x0 + 28) x6) (fun r5 => bd (f5_cut mm x4 x6 r4) (fun r6 => bd (f5_cut mm x4 x6 r5) (fun r7 => nm (mni x5 (r7 - r6)) (fun v8 => nm (x5 - v8) (fun v9 => nm (r6 + v8) (fun v10 => bd (f6_put mm (x0 + 21) x6 v10) (fun r11 => if v10 < r4 then f0_partToInner_j142 (fun x0 x1 x2 x4 x5 x6 mm => f0_partToInner_l17 n x0 x1 x2 x4 x5 x6 mm) x0 x1 x2 x4 v9 x6 x6 (x0 + 20) r11 else if r5 < v10 then f0_partToInner_j142 (fun x0 x1 x2 x4 x5 x6 mm => f0_partToInner_l17 n x0 x1 x2 x4 x5 x6 mm) x0 x1 x2 x4 v9 x6 x6 (x0 + 20) r11 else f0_partToInner_j143 (fun x0 x1 x2 x4 x5 x6 mm => f0_partToInner_l17 n x0 x1 x2 x4 x5 x6 mm) x0 x1 x2 x4 v9 x6 x2 x6 (x0 + 20) r11)))))))) else f0_partToInner_j146 (fun x0 x1 x2 x4 x5 x6 mm => f0_partToInner_l17 n x0 x1 x2 x4 x5 x6 mm) x0 x1 x2 x4 x5 x6 mm) else some (x5, mm)
theorem f0_partToInner_l17_ok {E : Ev} {l : Launch} {C : Cfg} {x : (Int32 × Mem)} (hj : Dj C) (X : Ec E l C rmX0_partToInner) (B : Bx E RX0 tbX0_partToInner 12 (some .int)) (hQ : Rt E) (hr : Rs E (some (.int x.1)) x.2) (n : Nat) : ∀ (x0 : Nat) (x1 : Int32) (x2 : Int32) (x4 : Nat) (x5 : Int32) (x6 : Int32) (mm : Mem), Ob x0 0 → Ob x4 5 → f0_partToInner_l17 n x0 x1 x2 x4 x5 x6 mm = some x → G E 12 17 [(0, .ref x0), (1, .int x1), (2, .int x2), (4, .ref x4), (5, .int x5), (6, .int x6)] [] mm := by
  induction n with
  | zero =>
    intro x0 x1 x2 x4 x5 x6 mm o_x0 o_x4 hf
    rw [f0_partToInner_l17] at hf
    cases hf
  | succ n ih =>
    intro x0 x1 x2 x4 x5 x6 mm o_x0 o_x4 hf
    rw [f0_partToInner_l17] at hf
    refine z_iload B 10 rfl 5 rfl ?_
    refine z_aload B 11 rfl 3 rfl ?_
    refine z_geti 5 0 x4 B 12 rfl o_x4 rfl (iX0_partToInner _ (List.mem_of_getElem? (i := 2) rfl)) rfl ?_
    by_cases hc : x6 < (mm x4 0)
    · replace hf := (if_pos hc).symm.trans hf
      refine z_icmp_ge_f B 13 rfl 152 (by decide) hc ?_
      refine z_aload B 14 rfl 3 rfl ?_
      refine z_getr 5 1 x4 B 15 rfl o_x4 rfl (iX0_partToInner _ (List.mem_of_getElem? (i := 3) rfl)) rfl ?_
      refine z_iload B 16 rfl 5 rfl ?_
      obtain ⟨r2, ec, hf⟩ := bd_e hf
      refine z_callN [.ref (x4 + 1), .int x6] [] [.int r2] X B 17 rfl miX6_at ⟨List.mem_of_getElem? (i := 19) rfl, (iX0_partToInner _ (List.mem_of_getElem? (i := 4) rfl))⟩ (ctX6_at hj (obf_5_1 o_x4) ec) ⟨Nat.le_of_ble_eq_true rfl, Nat.le_of_ble_eq_true rfl⟩ rfl rfl (Nat.le_of_ble_eq_true rfl) rfl ?_
      refine z_iload_n B 18 rfl 1 1 rfl rfl ?_
      by_cases hc : r2 = x1
      · replace hf := (if_pos hc).symm.trans hf
        refine z_icmp_ne_f B 19 rfl 146 (by decide) hc ?_
        refine z_aload_n B 20 rfl 0 0 rfl rfl ?_
        refine z_getr 0 8 x0 B 21 rfl o_x0 rfl (iX0_partToInner _ (List.mem_of_getElem? (i := 5) rfl)) rfl ?_
        refine z_iload B 22 rfl 5 rfl ?_
        obtain ⟨r4, ec, hf⟩ := bd_e hf
        refine z_callN [.ref (x0 + 27), .int x6] [] [.int r4] X B 23 rfl miX6_at ⟨List.mem_of_getElem? (i := 19) rfl, (iX0_partToInner _ (List.mem_of_getElem? (i := 4) rfl))⟩ (ctX6_at hj (obf_0_8 o_x0) ec) ⟨Nat.le_of_ble_eq_true rfl, Nat.le_of_ble_eq_true rfl⟩ rfl rfl (Nat.le_of_ble_eq_true rfl) rfl ?_
        refine z_istore [(7, .int r4), (0, .ref x0), (1, .int x1), (2, .int x2), (4, .ref x4), (5, .int x5), (6, .int x6)] B 24 rfl (by decide) rfl ?_
        refine z_aload_n B 25 rfl 0 1 rfl rfl ?_
        refine z_getr 0 9 x0 B 26 rfl o_x0 rfl (iX0_partToInner _ (List.mem_of_getElem? (i := 6) rfl)) rfl ?_
        refine z_iload B 27 rfl 6 rfl ?_
        obtain ⟨r5, ec, hf⟩ := bd_e hf
        refine z_callN [.ref (x0 + 28), .int x6] [] [.int r5] X B 28 rfl miX6_at ⟨List.mem_of_getElem? (i := 19) rfl, (iX0_partToInner _ (List.mem_of_getElem? (i := 4) rfl))⟩ (ctX6_at hj (obf_0_9 o_x0) ec) ⟨Nat.le_of_ble_eq_true rfl, Nat.le_of_ble_eq_true rfl⟩ rfl rfl (Nat.le_of_ble_eq_true rfl) rfl ?_
        refine z_istore [(8, .int r5), (7, .int r4), (0, .ref x0), (1, .int x1), (2, .int x2), (4, .ref x4), (5, .int x5), (6, .int x6)] B 29 rfl (by decide) rfl ?_
        refine z_aload B 30 rfl 5 rfl ?_
        refine z_iload B 31 rfl 7 rfl ?_
        refine z_iload B 32 rfl 1 rfl ?_
        obtain ⟨r6, ec, hf⟩ := bd_e hf
        refine z_callV x4 5 [.int x6, .int r4] [] [.int r6] X B 33 rfl o_x4 rfl rfl miX5_cut ⟨(iX0_partToInner _ (List.mem_of_getElem? (i := 7) rfl)), (iX0_partToInner _ (List.mem_of_getElem? (i := 8) rfl)), (iX0_partToInner _ (List.mem_of_getElem? (i := 9) rfl))⟩ (ctX5_cut hj o_x4 ec) ⟨Nat.le_of_ble_eq_true rfl, Nat.le_of_ble_eq_true rfl⟩ rfl rfl (Nat.le_of_ble_eq_true rfl) rfl ?_
        refine z_istore [(9, .int r6), (8, .int r5), (7, .int r4), (0, .ref x0), (1, .int x1), (2, .int x2), (4, .ref x4), (5, .int x5), (6, .int x6)] B 34 rfl (by decide) rfl ?_
        refine z_iload B 35 rfl 7 rfl ?_
        refine z_aload B 36 rfl 6 rfl ?_
        refine z_iload B 37 rfl 8 rfl ?_
        refine z_iload B 38 rfl 1 rfl ?_
        obtain ⟨r7, ec, hf⟩ := bd_e hf
        refine z_callV x4 5 [.int x6, .int r5] [.int x5] [.int r7, .int x5] X B 39 rfl o_x4 rfl rfl miX5_cut ⟨(iX0_partToInner _ (List.mem_of_getElem? (i := 7) rfl)), (iX0_partToInner _ (List.mem_of_getElem? (i := 8) rfl)), (iX0_partToInner _ (List.mem_of_getElem? (i := 9) rfl))⟩ (ctX5_cut hj o_x4 ec) ⟨Nat.le_of_ble_eq_true rfl, Nat.le_of_ble_eq_true rfl⟩ rfl rfl (Nat.le_of_ble_eq_true rfl) rfl ?_
        refine z_iload B 40 rfl 0 rfl ?_
        refine z_isub B 41 rfl ?_
        refine z_mmin X B 42 rfl ⟨(iX0_partToInner _ (List.mem_of_getElem? (i := 10) rfl)), (iX0_partToInner _ (List.mem_of_getElem? (i := 11) rfl)), (iX0_partToInner _ (List.mem_of_getElem? (i := 12) rfl)), (iX0_partToInner _ (List.mem_of_getElem? (i := 13) rfl))⟩ ⟨Nat.le_of_ble_eq_true rfl, Nat.le_of_ble_eq_true rfl⟩ (Nat.le_of_ble_eq_true rfl) ?_
        obtain ⟨v8, ex, hf⟩ := nm_x hf
        refine z_top ex ?_
        refine z_istore [(10, .int v8), (9, .int r6), (8, .int r5), (7, .int r4), (0, .ref x0), (1, .int x1), (2, .int x2), (4, .ref x4), (5, .int x5), (6, .int x6)] B 43 rfl (by decide) rfl ?_
        refine z_iload B 44 rfl 8 rfl ?_
        refine z_iload B 45 rfl 0 rfl ?_
        refine z_isub B 46 rfl ?_
        obtain ⟨v9, ex, hf⟩ := nm_x hf
        refine z_top ex ?_
        refine z_istore [(5, .int v9), (10, .int v8), (9, .int r6), (8, .int r5), (7, .int r4), (0, .ref x0), (1, .int x1), (2, .int x2), (4, .ref x4), (6, .int x6)] B 47 rfl (by decide) rfl ?_
        refine z_iload B 48 rfl 2 rfl ?_
        refine z_iload B 49 rfl 1 rfl ?_
        refine z_iadd B 50 rfl ?_
        obtain ⟨v10, ex, hf⟩ := nm_x hf
        refine z_top ex ?_
        refine z_istore [(11, .int v10), (5, .int v9), (10, .int v8), (9, .int r6), (8, .int r5), (7, .int r4), (0, .ref x0), (1, .int x1), (2, .int x2), (4, .ref x4), (6, .int x6)] B 51 rfl (by decide) rfl ?_
        refine z_aload_n B 52 rfl 0 6 rfl rfl ?_
        refine z_getr 0 2 x0 B 53 rfl o_x0 rfl (iX0_partToInner _ (List.mem_of_getElem? (i := 14) rfl)) rfl ?_
        refine z_iload B 54 rfl 10 rfl ?_
        refine z_iload B 55 rfl 0 rfl ?_
        obtain ⟨r11, ec, hf⟩ := bd_e hf
        refine z_callN [.ref (x0 + 21), .int x6, .int v10] [] [] X B 56 rfl miX6_put ⟨List.mem_of_getElem? (i := 18) rfl, (iX0_partToInner _ (List.mem_of_getElem? (i := 15) rfl))⟩ (ctX6_put hj (obf_0_2 o_x0) ec) ⟨Nat.le_of_ble_eq_true rfl, Nat.le_of_ble_eq_true rfl⟩ rfl rfl (Nat.le_of_ble_eq_true rfl) rfl ?_
        refine z_aload_n B 57 rfl 0 6 rfl rfl ?_
        refine z_getr 0 1 x0 B 58 rfl o_x0 rfl (iX0_partToInner _ (List.mem_of_getElem? (i := 16) rfl)) rfl ?_
        refine z_iload B 59 rfl 10 rfl ?_
        refine z_iload B 60 rfl 5 rfl ?_
        refine z_iload B 61 rfl 0 rfl ?_
        by_cases hc : v10 < r4
        · replace hf := (if_pos hc).symm.trans hf
          refine z_icmp_gt_t B 62 rfl 142 (by decide) hc ?_
          refine z_sub [(0, .ref x0), (1, .int x1), (2, .int x2), (4, .ref x4), (5, .int v9), (6, .int x6)] [6, 7, 8, 9, 1, 10] rfl ?_
          exact f0_partToInner_j142_ok hj X B hQ hr ih _ _ _ _ _ _ _ _ _ o_x0 o_x4 (obf_0_1 o_x0) hf
        · replace hf := (if_neg hc).symm.trans hf
          refine z_icmp_gt_f B 62 rfl 142 (by decide) hc ?_
          refine z_iload B 63 rfl 0 rfl ?_
          refine z_iload B 64 rfl 4 rfl ?_
          by_cases hc : r5 < v10
          · replace hf := (if_pos hc).symm.trans hf
            refine z_icmp_gt_t B 65 rfl 142 (by decide) hc ?_
            refine z_sub [(0, .ref x0), (1, .int x1), (2, .int x2), (4, .ref x4), (5, .int v9), (6, .int x6)] [6, 7, 8, 9, 1, 10] rfl ?_
            exact f0_partToInner_j142_ok hj X B hQ hr ih _ _ _ _ _ _ _ _ _ o_x0 o_x4 (obf_0_1 o_x0) hf
          · replace hf := (if_neg hc).symm.trans hf
            refine z_icmp_gt_f B 65 rfl 142 (by decide) hc ?_
            refine z_iload_n B 66 rfl 2 8 rfl rfl ?_
            refine z_goto B 67 rfl 143 (by decide) ?_
            refine z_sub [(0, .ref x0), (1, .int x1), (2, .int x2), (4, .ref x4), (5, .int v9), (6, .int x6)] [6, 7, 8, 9, 1, 10] rfl ?_
            exact f0_partToInner_j143_ok hj X B hQ hr ih _ _ _ _ _ _ _ _ _ _ o_x0 o_x4 (obf_0_1 o_x0) hf
      · replace hf := (if_neg hc).symm.trans hf
        refine z_icmp_ne_t B 19 rfl 146 (by decide) hc ?_
        exact f0_partToInner_j146_ok hj X B hQ hr ih _ _ _ _ _ _ _ o_x0 o_x4  hf
    · replace hf := (if_neg hc).symm.trans hf
      refine z_icmp_ge_t B 13 rfl 152 (by decide) hc ?_
      refine z_iload B 72 rfl 4 rfl ?_
      cases hf
      exact z_iret B 73 rfl rfl hQ hr
def f0_partToInner (mm : Mem) (a0 : Nat) (a1 : Int32) (a2 : Int32) (a3 : Int32) : Option (Int32 × Mem) := nm (a1 + (1 : Int32)) (fun v1 => f0_partToInner_l17 FU a0 a1 a2 (a0 + 1 + 1) a3 v1 mm)
theorem ctX0_partToInner {l : Launch} {C : Cfg} (hj : Dj C) {mm : Mem} {a0 : Nat} {a1 : Int32} {a2 : Int32} {a3 : Int32} {x : (Int32 × Mem)} (o_a0 : Ob a0 0) (hf : f0_partToInner mm a0 a1 a2 a3 = some x) : Ct l C yX0_partToInner cX0_partToInner 12 (some .int) 2 43 [.ref a0, .int a1, .int a2, .int a3] mm (some (.int x.1)) x.2 := by
  refine Ct.of (tb := tbX0_partToInner) hj miX0_partToInner.2.1 miX0_partToInner.1 dtX0_partToInner (Nat.le_of_ble_eq_true rfl) ?_
  intro E B hQ hr X
  unfold f0_partToInner at hf
  show G E 12 0 [(0, .ref a0), (1, .int a1), (2, .int a2), (3, .int a3)] [] mm
  refine z_aload_n B 0 rfl 0 0 rfl rfl ?_
  refine z_getr 0 0 a0 B 1 rfl o_a0 rfl (iX0_partToInner _ (List.mem_of_getElem? (i := 0) rfl)) rfl ?_
  refine z_getr 1 0 (a0 + 1) B 2 rfl (obf_0_0 o_a0) rfl (iX0_partToInner _ (List.mem_of_getElem? (i := 1) rfl)) rfl ?_
  refine z_astore [(4, .ref (a0 + 1 + 1)), (0, .ref a0), (1, .int a1), (2, .int a2), (3, .int a3)] B 3 rfl (by decide) rfl ?_
  refine z_iload_n B 4 rfl 3 4 rfl rfl ?_
  refine z_istore [(5, .int a3), (4, .ref (a0 + 1 + 1)), (0, .ref a0), (1, .int a1), (2, .int a2), (3, .int a3)] B 5 rfl (by decide) rfl ?_
  refine z_iload_n B 6 rfl 1 3 rfl rfl ?_
  refine z_iconst 1 B 7 rfl (by decide) ?_
  refine z_iadd B 8 rfl ?_
  obtain ⟨v1, ex, hf⟩ := nm_x hf
  refine z_top ex ?_
  refine z_istore [(6, .int v1), (5, .int a3), (4, .ref (a0 + 1 + 1)), (0, .ref a0), (1, .int a1), (2, .int a2), (3, .int a3)] B 9 rfl (by decide) rfl ?_
  refine z_sub [(0, .ref a0), (1, .int a1), (2, .int a2), (4, .ref (a0 + 1 + 1)), (5, .int a3), (6, .int v1)] [3, 4, 5, 2, 1, 0] rfl ?_
  exact f0_partToInner_l17_ok hj X B hQ hr FU _ _ _ _ _ _ _ o_a0 (obf_1_0 (obf_0_0 o_a0))  hf
/-! ZoneCapacity$Auction.part(I)V -/
def tbX0_part : Tb := [(0, .aload_n 0, 1, 1), (1, .getfield 18, 3, 4), (4, .iload_n 1, 1, 5), (5, .invokestatic 69, 3, 8), (8, .istore_n 2, 1, 9), (9, .iload_n 2, 1, 10), (10, .aload_n 0, 1, 11), (11, .getfield 52, 3, 14), (14, .if_icmp .eq 30, 3, 17), (17, .aload_n 0, 1, 18), (18, .iload_n 1, 1, 19), (19, .iload_n 2, 1, 20), (20, .aload_n 0, 1, 21), (21, .getfield 40, 3, 24), (24, .invokevirtual 81, 3, 27), (27, .aload_n 0, 1, 28), (28, .iload_n 1, 1, 29), (29, .iload_n 2, 1, 30), (30, .iconst 1, 1, 31), (31, .iadd, 1, 32), (32, .aload_n 0, 1, 33), (33, .getfield 43, 3, 36), (36, .invokevirtual 81, 3, 39), (39, .aload_n 0, 1, 40), (40, .iload_n 2, 1, 41), (41, .putfield 52, 3, 44), (44, .aload_n 0, 1, 45), (45, .getfield 22, 3, 48), (48, .iload_n 1, 1, 49), (49, .invokestatic 69, 3, 52), (52, .aload_n 0, 1, 53), (53, .getfield 40, 3, 56), (56, .iload_n 1, 1, 57), (57, .invokestatic 69, 3, 60), (60, .isub, 1, 61), (61, .istore_n 3, 1, 62), (62, .aload_n 0, 1, 63), (63, .iload_n 1, 1, 64), (64, .iload_n 2, 1, 65), (65, .iload_n 3, 1, 66), (66, .invokevirtual 124, 3, 69), (69, .istore_n 3, 1, 70), (70, .aload_n 0, 1, 71), (71, .iload_n 1, 1, 72), (72, .iload_n 2, 1, 73), (73, .iload_n 3, 1, 74), (74, .invokevirtual 128, 3, 77), (77, .istore_n 3, 1, 78), (78, .aload_n 0, 1, 79), (79, .getfield 25, 3, 82), (82, .iload_n 1, 1, 83), (83, .aload_n 0, 1, 84), (84, .getfield 12, 3, 87), (87, .getfield 60, 3, 90), (90, .iload_n 1, 1, 91), (91, .iload_n 2, 1, 92), (92, .invokevirtual 110, 3, 95), (95, .iload_n 3, 1, 96), (96, .isub, 1, 97), (97, .invokestatic 56, 3, 100), (100, .return_, 1, 101)]
theorem dtX0_part : ∀ q ∈ tbX0_part, decode cX0_part q.1 = .ok (q.2.1, q.2.2.1) ∧ q.1 + q.2.2.1 = q.2.2.2 := by decide +kernel
theorem miX0_part : MI yX0_part cX0_part 4 none 1 := ⟨tw_mem (List.mem_of_getElem? (i := 729) (by decide +kernel)) rfl, by decide, by decide +kernel, tw_mem (List.mem_of_getElem? (i := 72) (by decide +kernel)) rfl⟩
abbrev rmX0_part : Room := { frames := 3, cells := 0, slots := 0, locals := 78 }
def wX0_part : List Cond := [.fieldLink "ZoneCapacity$Auction" 18 "ZoneCapacity$Auction" "prices" "[I", .static yX6_at, .fieldLink "ZoneCapacity$Auction" 52 "ZoneCapacity$Auction" "filledAt" "I", .fieldLink "ZoneCapacity$Auction" 22 "ZoneCapacity$Auction" "nets" "[I", .fieldLink "ZoneCapacity$Auction" 40 "ZoneCapacity$Auction" "lows" "[I", .methodLink "ZoneCapacity$Auction" 124 yX0_partToLines, .instanceMethod yX0_partToLines, .selects "ZoneCapacity$Auction" yX0_partToLines yX0_partToLines, .methodLink "ZoneCapacity$Auction" 128 yX0_partToInner, .instanceMethod yX0_partToInner, .selects "ZoneCapacity$Auction" yX0_partToInner yX0_partToInner, .fieldLink "ZoneCapacity$Auction" 25 "ZoneCapacity$Auction" "servedUnits" "[I", .fieldLink "ZoneCapacity$Auction" 12 "ZoneCapacity$Auction" "market" "LZoneCapacity$Market;", .fieldLink "ZoneCapacity$Auction" 60 "ZoneCapacity$Market" "zones" "LZoneCapacity$Zones;", .methodLink "ZoneCapacity$Auction" 110 yX5_wantedFrom, .instanceMethod yX5_wantedFrom, .selects "ZoneCapacity$Zones" yX5_wantedFrom yX5_wantedFrom, .static yX6_put, .methodLink "ZoneCapacity$Auction" 81 yX0_fillLevels, .instanceMethod yX0_fillLevels, .selects "ZoneCapacity$Auction" yX0_fillLevels yX0_fillLevels, .fieldLink "ZoneCapacity$Auction" 43 "ZoneCapacity$Auction" "highs" "[I"]
theorem iX0_part : ∀ w ∈ wX0_part, w ∈ TW := tw_of (ids := [226, 387, 239, 228, 237, 730, 732, 20, 735, 737, 21, 230, 224, 212, 693, 667, 668, 115, 689, 691, 15, 238]) (by decide +kernel)
def f0_part_j44 (x0 : Nat) (x1 : Int32) (x2 : Int32) (mm : Mem) : Option Mem := bd (f6_at mm (x0 + 21) x1) (fun r2 => bd (f6_at mm (x0 + 27) x1) (fun r3 => nm (r2 - r3) (fun v4 => bd (f0_partToLines mm x0 x1 x2 v4) (fun r5 => bd (f0_partToInner r5.2 x0 x1 x2 r5.1) (fun r6 => bd (f5_wantedFrom r6.2 (x0 + 1 + 1) x1 x2) (fun r7 => bd (f6_put r6.2 (x0 + 22) x1 (r7 - r6.1)) (fun r8 => some r8)))))))
theorem f0_part_j44_ok {E : Ev} {l : Launch} {C : Cfg} {x : Mem} (hj : Dj C) (X : Ec E l C rmX0_part) (B : Bx E RX0 tbX0_part 4 none) (hQ : Rt E) (hr : Rs E none x) (x0 : Nat) (x1 : Int32) (x2 : Int32) (mm : Mem) (o_x0 : Ob x0 0) (hf : f0_part_j44 x0 x1 x2 mm = some x) : G E 4 44 [(0, .ref x0), (1, .int x1), (2, .int x2)] [] mm := by
  unfold f0_part_j44 at hf
  refine z_aload_n B 26 rfl 0 0 rfl rfl ?_
  refine z_getr 0 2 x0 B 27 rfl o_x0 rfl (iX0_part _ (List.mem_of_getElem? (i := 3) rfl)) rfl ?_
  refine z_iload_n B 28 rfl 1 1 rfl rfl ?_
  obtain ⟨r2, ec, hf⟩ := bd_e hf
  refine z_callN [.ref (x0 + 21), .int x1] [] [.int r2] X B 29 rfl miX6_at ⟨List.mem_of_getElem? (i := 19) rfl, (iX0_part _ (List.mem_of_getElem? (i := 1) rfl))⟩ (ctX6_at hj (obf_0_2 o_x0) ec) ⟨Nat.le_of_ble_eq_true rfl, Nat.le_of_ble_eq_true rfl⟩ rfl rfl (Nat.le_of_ble_eq_true rfl) rfl ?_
  refine z_aload_n B 30 rfl 0 0 rfl rfl ?_
  refine z_getr 0 8 x0 B 31 rfl o_x0 rfl (iX0_part _ (List.mem_of_getElem? (i := 4) rfl)) rfl ?_
  refine z_iload_n B 32 rfl 1 1 rfl rfl ?_
  obtain ⟨r3, ec, hf⟩ := bd_e hf
  refine z_callN [.ref (x0 + 27), .int x1] [.int r2] [.int r3, .int r2] X B 33 rfl miX6_at ⟨List.mem_of_getElem? (i := 19) rfl, (iX0_part _ (List.mem_of_getElem? (i := 1) rfl))⟩ (ctX6_at hj (obf_0_8 o_x0) ec) ⟨Nat.le_of_ble_eq_true rfl, Nat.le_of_ble_eq_true rfl⟩ rfl rfl (Nat.le_of_ble_eq_true rfl) rfl ?_
  refine z_isub B 34 rfl ?_
  obtain ⟨v4, ex, hf⟩ := nm_x hf
  refine z_top ex ?_
  refine z_istore_n [(3, .int v4), (0, .ref x0), (1, .int x1), (2, .int x2)] B 35 rfl 3 rfl (by decide) rfl ?_
  refine z_aload_n B 36 rfl 0 1 rfl rfl ?_
  refine z_iload_n B 37 rfl 1 2 rfl rfl ?_
  refine z_iload_n B 38 rfl 2 3 rfl rfl ?_
  refine z_iload_n B 39 rfl 3 0 rfl rfl ?_
  obtain ⟨r5, ec, hf⟩ := bd_e hf
  refine z_callV x0 0 [.int x1, .int x2, .int v4] [] [.int r5.1] X B 40 rfl o_x0 rfl rfl miX0_partToLines ⟨(iX0_part _ (List.mem_of_getElem? (i := 5) rfl)), (iX0_part _ (List.mem_of_getElem? (i := 6) rfl)), (iX0_part _ (List.mem_of_getElem? (i := 7) rfl))⟩ (ctX0_partToLines hj o_x0 ec) ⟨Nat.le_of_ble_eq_true rfl, Nat.le_of_ble_eq_true rfl⟩ rfl rfl (Nat.le_of_ble_eq_true rfl) rfl ?_
  refine z_istore_n [(3, .int r5.1), (0, .ref x0), (1, .int x1), (2, .int x2)] B 41 rfl 3 rfl (by decide) rfl ?_
  refine z_aload_n B 42 rfl 0 1 rfl rfl ?_
  refine z_iload_n B 43 rfl 1 2 rfl rfl ?_
  refine z_iload_n B 44 rfl 2 3 rfl rfl ?_
  refine z_iload_n B 45 rfl 3 0 rfl rfl ?_
  obtain ⟨r6, ec, hf⟩ := bd_e hf
  refine z_callV x0 0 [.int x1, .int x2, .int r5.1] [] [.int r6.1] X B 46 rfl o_x0 rfl rfl miX0_partToInner ⟨(iX0_part _ (List.mem_of_getElem? (i := 8) rfl)), (iX0_part _ (List.mem_of_getElem? (i := 9) rfl)), (iX0_part _ (List.mem_of_getElem? (i := 10) rfl))⟩ (ctX0_partToInner hj o_x0 ec) ⟨Nat.le_of_ble_eq_true rfl, Nat.le_of_ble_eq_true rfl⟩ rfl rfl (Nat.le_of_ble_eq_true rfl) rfl ?_
  refine z_istore_n [(3, .int r6.1), (0, .ref x0), (1, .int x1), (2, .int x2)] B 47 rfl 3 rfl (by decide) rfl ?_
  refine z_aload_n B 48 rfl 0 1 rfl rfl ?_
  refine z_getr 0 3 x0 B 49 rfl o_x0 rfl (iX0_part _ (List.mem_of_getElem? (i := 11) rfl)) rfl ?_
  refine z_iload_n B 50 rfl 1 2 rfl rfl ?_
  refine z_aload_n B 51 rfl 0 1 rfl rfl ?_
  refine z_getr 0 0 x0 B 52 rfl o_x0 rfl (iX0_part _ (List.mem_of_getElem? (i := 12) rfl)) rfl ?_
  refine z_getr 1 0 (x0 + 1) B 53 rfl (obf_0_0 o_x0) rfl (iX0_part _ (List.mem_of_getElem? (i := 13) rfl)) rfl ?_
  refine z_iload_n B 54 rfl 1 2 rfl rfl ?_
  refine z_iload_n B 55 rfl 2 3 rfl rfl ?_
  obtain ⟨r7, ec, hf⟩ := bd_e hf
  refine z_callV (x0 + 1 + 1) 5 [.int x1, .int x2] [.int x1, .ref (x0 + 22)] [.int r7, .int x1, .ref (x0 + 22)] X B 56 rfl (obf_1_0 (obf_0_0 o_x0)) rfl rfl miX5_wantedFrom ⟨(iX0_part _ (List.mem_of_getElem? (i := 14) rfl)), (iX0_part _ (List.mem_of_getElem? (i := 15) rfl)), (iX0_part _ (List.mem_of_getElem? (i := 16) rfl))⟩ (ctX5_wantedFrom hj (obf_1_0 (obf_0_0 o_x0)) ec) ⟨Nat.le_of_ble_eq_true rfl, Nat.le_of_ble_eq_true rfl⟩ rfl rfl (Nat.le_of_ble_eq_true rfl) rfl ?_
  refine z_iload_n B 57 rfl 3 0 rfl rfl ?_
  refine z_isub B 58 rfl ?_
  obtain ⟨r8, ec, hf⟩ := bd_e hf
  refine z_callN [.ref (x0 + 22), .int x1, .int (r7 - r6.1)] [] [] X B 59 rfl miX6_put ⟨List.mem_of_getElem? (i := 18) rfl, (iX0_part _ (List.mem_of_getElem? (i := 17) rfl))⟩ (ctX6_put hj (obf_0_3 o_x0) ec) ⟨Nat.le_of_ble_eq_true rfl, Nat.le_of_ble_eq_true rfl⟩ rfl rfl (Nat.le_of_ble_eq_true rfl) rfl ?_
  cases hf
  exact z_vret B 60 rfl hQ hr
def f0_part (mm : Mem) (a0 : Nat) (a1 : Int32) : Option Mem := bd (f6_at mm (a0 + 20) a1) (fun r1 => if r1 = (mm a0 10) then f0_part_j44 a0 a1 r1 mm else bd (f0_fillLevels mm a0 a1 r1 (a0 + 27)) (fun r9 => bd (f0_fillLevels r9 a0 a1 (r1 + (1 : Int32)) (a0 + 28)) (fun r10 => nm (up2 r10 a0 10 r1) (fun m11 => f0_part_j44 a0 a1 r1 m11))))
theorem ctX0_part {l : Launch} {C : Cfg} (hj : Dj C) {mm : Mem} {a0 : Nat} {a1 : Int32} {x : Mem} (o_a0 : Ob a0 0) (hf : f0_part mm a0 a1 = some x) : Ct l C yX0_part cX0_part 4 none 3 78 [.ref a0, .int a1] mm none x := by
  refine Ct.of (tb := tbX0_part) hj miX0_part.2.1 miX0_part.1 dtX0_part (Nat.le_of_ble_eq_true rfl) ?_
  intro E B hQ hr X
  unfold f0_part at hf
  show G E 4 0 [(0, .ref a0), (1, .int a1)] [] mm
  refine z_aload_n B 0 rfl 0 0 rfl rfl ?_
  refine z_getr 0 1 a0 B 1 rfl o_a0 rfl (iX0_part _ (List.mem_of_getElem? (i := 0) rfl)) rfl ?_
  refine z_iload_n B 2 rfl 1 1 rfl rfl ?_
  obtain ⟨r1, ec, hf⟩ := bd_e hf
  refine z_callN [.ref (a0 + 20), .int a1] [] [.int r1] X B 3 rfl miX6_at ⟨List.mem_of_getElem? (i := 19) rfl, (iX0_part _ (List.mem_of_getElem? (i := 1) rfl))⟩ (ctX6_at hj (obf_0_1 o_a0) ec) ⟨Nat.le_of_ble_eq_true rfl, Nat.le_of_ble_eq_true rfl⟩ rfl rfl (Nat.le_of_ble_eq_true rfl) rfl ?_
  refine z_istore_n [(2, .int r1), (0, .ref a0), (1, .int a1)] B 4 rfl 2 rfl (by decide) rfl ?_
  refine z_iload_n B 5 rfl 2 0 rfl rfl ?_
  refine z_aload_n B 6 rfl 0 1 rfl rfl ?_
  refine z_geti 0 10 a0 B 7 rfl o_a0 rfl (iX0_part _ (List.mem_of_getElem? (i := 2) rfl)) rfl ?_
  by_cases hc : r1 = (mm a0 10)
  · replace hf := (if_pos hc).symm.trans hf
    refine z_icmp_eq_t B 8 rfl 44 (by decide) hc ?_
    refine z_sub [(0, .ref a0), (1, .int a1), (2, .int r1)] [1, 2, 0] rfl ?_
    exact f0_part_j44_ok hj X B hQ hr _ _ _ _ o_a0  hf
  · replace hf := (if_neg hc).symm.trans hf
    refine z_icmp_eq_f B 8 rfl 44 (by decide) hc ?_
    refine z_aload_n B 9 rfl 0 1 rfl rfl ?_
    refine z_iload_n B 10 rfl 1 2 rfl rfl ?_
    refine z_iload_n B 11 rfl 2 0 rfl rfl ?_
    refine z_aload_n B 12 rfl 0 1 rfl rfl ?_
    refine z_getr 0 8 a0 B 13 rfl o_a0 rfl (iX0_part _ (List.mem_of_getElem? (i := 4) rfl)) rfl ?_
    obtain ⟨r9, ec, hf⟩ := bd_e hf
    refine z_callV a0 0 [.int a1, .int r1, .ref (a0 + 27)] [] [] X B 14 rfl o_a0 rfl rfl miX0_fillLevels ⟨(iX0_part _ (List.mem_of_getElem? (i := 18) rfl)), (iX0_part _ (List.mem_of_getElem? (i := 19) rfl)), (iX0_part _ (List.mem_of_getElem? (i := 20) rfl))⟩ (ctX0_fillLevels hj o_a0 (obf_0_8 o_a0) ec) ⟨Nat.le_of_ble_eq_true rfl, Nat.le_of_ble_eq_true rfl⟩ rfl rfl (Nat.le_of_ble_eq_true rfl) rfl ?_
    refine z_aload_n B 15 rfl 0 1 rfl rfl ?_
    refine z_iload_n B 16 rfl 1 2 rfl rfl ?_
    refine z_iload_n B 17 rfl 2 0 rfl rfl ?_
    refine z_iconst 1 B 18 rfl (by decide) ?_
    refine z_iadd B 19 rfl ?_
    refine z_aload_n B 20 rfl 0 1 rfl rfl ?_
    refine z_getr 0 9 a0 B 21 rfl o_a0 rfl (iX0_part _ (List.mem_of_getElem? (i := 21) rfl)) rfl ?_
    obtain ⟨r10, ec, hf⟩ := bd_e hf
    refine z_callV a0 0 [.int a1, .int (r1 + (1 : Int32)), .ref (a0 + 28)] [] [] X B 22 rfl o_a0 rfl rfl miX0_fillLevels ⟨(iX0_part _ (List.mem_of_getElem? (i := 18) rfl)), (iX0_part _ (List.mem_of_getElem? (i := 19) rfl)), (iX0_part _ (List.mem_of_getElem? (i := 20) rfl))⟩ (ctX0_fillLevels hj o_a0 (obf_0_9 o_a0) ec) ⟨Nat.le_of_ble_eq_true rfl, Nat.le_of_ble_eq_true rfl⟩ rfl rfl (Nat.le_of_ble_eq_true rfl) rfl ?_
    refine z_aload_n B 23 rfl 0 1 rfl rfl ?_
    refine z_iload_n B 24 rfl 2 0 rfl rfl ?_
    refine z_puti 0 10 a0 B 25 rfl o_a0 rfl (iX0_part _ (List.mem_of_getElem? (i := 2) rfl)) rfl (ty := .int) (by decide) rfl rfl rfl ?_
    obtain ⟨m11, ex, hf⟩ := nm_x hf
    refine z_mem ex ?_
    refine z_sub [(0, .ref a0), (1, .int a1), (2, .int r1)] [1, 2, 0] rfl ?_
    exact f0_part_j44_ok hj X B hQ hr _ _ _ _ o_a0  hf
end
section
/-! ZoneCapacity$Auction.clear()V -/
def tbX0_clear : Tb := [(0, .aload_n 0, 1, 1), (1, .invokevirtual 46, 3, 4), (4, .aload_n 0, 1, 5), (5, .invokevirtual 49, 3, 8), (8, .aload_n 0, 1, 9), (9, .iconst (-1), 1, 10), (10, .putfield 52, 3, 13), (13, .aload_n 0, 1, 14), (14, .getfield 18, 3, 17), (17, .iconst 0, 1, 18), (18, .iconst (-1), 1, 19), (19, .invokestatic 56, 3, 22), (22, .aload_n 0, 1, 23), (23, .getfield 22, 3, 26), (26, .iconst 0, 1, 27), (27, .iconst 0, 1, 28), (28, .invokestatic 56, 3, 31), (31, .iconst 0, 1, 32), (32, .istore_n 1, 1, 33), (33, .iload_n 1, 1, 34), (34, .aload_n 0, 1, 35), (35, .getfield 12, 3, 38), (38, .getfield 60, 3, 41), (41, .getfield 64, 3, 44), (44, .if_icmp .ge 47, 3, 47), (47, .aload_n 0, 1, 48), (48, .getfield 18, 3, 51), (51, .iload_n 1, 1, 52), (52, .invokestatic 69, 3, 55), (55, .iconst (-1), 1, 56), (56, .if_icmp .ne 24, 3, 59), (59, .aload_n 0, 1, 60), (60, .getfield 18, 3, 63), (63, .iload_n 1, 1, 64), (64, .aload_n 0, 1, 65), (65, .iload_n 1, 1, 66), (66, .aload_n 0, 1, 67), (67, .getfield 22, 3, 70), (70, .iload_n 1, 1, 71), (71, .invokestatic 69, 3, 74), (74, .invokevirtual 73, 3, 77), (77, .invokestatic 56, 3, 80), (80, .aload_n 0, 1, 81), (81, .iload_n 1, 1, 82), (82, .invokevirtual 77, 3, 85), (85, .iinc 1 1, 3, 88), (88, .goto (-55), 3, 91), (91, .return_, 1, 92)]
theorem dtX0_clear : ∀ q ∈ tbX0_clear, decode cX0_clear q.1 = .ok (q.2.1, q.2.2.1) ∧ q.1 + q.2.2.1 = q.2.2.2 := by decide +kernel
theorem miX0_clear : MI yX0_clear cX0_clear 2 none 0 := ⟨tw_mem (List.mem_of_getElem? (i := 712) (by decide +kernel)) rfl, by decide, by decide +kernel, tw_mem (List.mem_of_getElem? (i := 72) (by decide +kernel)) rfl⟩
abbrev rmX0_clear : Room := { frames := 4, cells := 0, slots := 0, locals := 102 }
def wX0_clear : List Cond := [.methodLink "ZoneCapacity$Auction" 46 yX0_readLines, .instanceMethod yX0_readLines, .selects "ZoneCapacity$Auction" yX0_readLines yX0_readLines, .methodLink "ZoneCapacity$Auction" 49 yX0_readTop, .instanceMethod yX0_readTop, .selects "ZoneCapacity$Auction" yX0_readTop yX0_readTop, .fieldLink "ZoneCapacity$Auction" 52 "ZoneCapacity$Auction" "filledAt" "I", .fieldLink "ZoneCapacity$Auction" 18 "ZoneCapacity$Auction" "prices" "[I", .static yX6_put, .fieldLink "ZoneCapacity$Auction" 22 "ZoneCapacity$Auction" "nets" "[I", .fieldLink "ZoneCapacity$Auction" 12 "ZoneCapacity$Auction" "market" "LZoneCapacity$Market;", .fieldLink "ZoneCapacity$Auction" 60 "ZoneCapacity$Market" "zones" "LZoneCapacity$Zones;", .fieldLink "ZoneCapacity$Auction" 64 "ZoneCapacity$Zones" "many" "I", .static yX6_at, .methodLink "ZoneCapacity$Auction" 77 yX0_part, .instanceMethod yX0_part, .selects "ZoneCapacity$Auction" yX0_part yX0_part, .methodLink "ZoneCapacity$Auction" 73 yX0_leastPrice, .instanceMethod yX0_leastPrice, .selects "ZoneCapacity$Auction" yX0_leastPrice yX0_leastPrice]
theorem iX0_clear : ∀ w ∈ wX0_clear, w ∈ TW := tw_of (ids := [682, 684, 14, 713, 715, 17, 239, 226, 115, 228, 224, 212, 118, 387, 726, 728, 19, 722, 724, 18]) (by decide +kernel)
def f0_clear_j80 (k33 : Nat → Int32 → Mem → Option Mem) (x0 : Nat) (x1 : Int32) (mm : Mem) : Option Mem := bd (f0_part mm x0 x1) (fun r7 => nm (x1 + 1) (fun v8 => k33 x0 v8 r7))
theorem f0_clear_j80_ok {E : Ev} {l : Launch} {C : Cfg} {x : Mem} {k33 : Nat → Int32 → Mem → Option Mem} (hj : Dj C) (X : Ec E l C rmX0_clear) (B : Bx E RX0 tbX0_clear 2 none) (hQ : Rt E) (hr : Rs E none x) (hk33 : ∀ (x0 : Nat) (x1 : Int32) (mm : Mem), Ob x0 0 → k33 x0 x1 mm = some x → G E 2 33 [(0, .ref x0), (1, .int x1)] [] mm) (x0 : Nat) (x1 : Int32) (mm : Mem) (o_x0 : Ob x0 0) (hf : f0_clear_j80 k33 x0 x1 mm = some x) : G E 2 80 [(0, .ref x0), (1, .int x1)] [] mm := by
  unfold f0_clear_j80 at hf
  refine z_aload_n B 42 rfl 0 0 rfl rfl ?_
  refine z_iload_n B 43 rfl 1 1 rfl rfl ?_
  obtain ⟨r7, ec, hf⟩ := bd_e hf
  refine z_callV x0 0 [.int x1] [] [] X B 44 rfl o_x0 rfl rfl miX0_part ⟨(iX0_clear _ (List.mem_of_getElem? (i := 14) rfl)), (iX0_clear _ (List.mem_of_getElem? (i := 15) rfl)), (iX0_clear _ (List.mem_of_getElem? (i := 16) rfl))⟩ (ctX0_part hj o_x0 ec) ⟨Nat.le_of_ble_eq_true rfl, Nat.le_of_ble_eq_true rfl⟩ rfl rfl (Nat.le_of_ble_eq_true rfl) rfl ?_
  obtain ⟨v8, ex, hf⟩ := nm_x hf
  refine z_iinc v8 [(1, .int v8), (0, .ref x0)] B 45 rfl 1 rfl (ex.symm) (by decide) rfl ?_
  refine z_goto B 46 rfl 33 (by decide) ?_
  refine z_sub [(0, .ref x0), (1, .int v8)] [1, 0] rfl ?_
  exact hk33 _ _ _ o_x0  hf
def f0_clear_l33 : Nat → Nat → Int32 → Mem → Option Mem
  | 0, _, _, _ => none
  | n + 1, x0, x1, mm => if x1 < (mm (x0 + 1 + 1) 0) then bd (f6_at mm (x0 + 20) x1) (fun r6 => if r6 = (-1 : Int32) then bd (f6_at mm (x0 + 21) x1) (fun r9 => bd (f0_leastPrice mm x0 x1 r9) (fun r10 => bd (f6_put r10.2 (x0 + 20) x1 r10.1) (fun r11 => f0_clear_j80 (fun x0 x1 mm => f0_clear_l33 n x0 x1 mm) x0 x1 r11))) else f0_clear_j80 (fun x0 x1 mm => f0_clear_l33 n x0 x1 mm) x0 x1 mm) else some mm
theorem f0_clear_l33_ok {E : Ev} {l : Launch} {C : Cfg} {x : Mem} (hj : Dj C) (X : Ec E l C rmX0_clear) (B : Bx E RX0 tbX0_clear 2 none) (hQ : Rt E) (hr : Rs E none x) (n : Nat) : ∀ (x0 : Nat) (x1 : Int32) (mm : Mem), Ob x0 0 → f0_clear_l33 n x0 x1 mm = some x → G E 2 33 [(0, .ref x0), (1, .int x1)] [] mm := by
  induction n with
  | zero =>
    intro x0 x1 mm o_x0 hf
    rw [f0_clear_l33] at hf
    cases hf
  | succ n ih =>
    intro x0 x1 mm o_x0 hf
    rw [f0_clear_l33] at hf
    refine z_iload_n B 19 rfl 1 1 rfl rfl ?_
    refine z_aload_n B 20 rfl 0 0 rfl rfl ?_
    refine z_getr 0 0 x0 B 21 rfl o_x0 rfl (iX0_clear _ (List.mem_of_getElem? (i := 10) rfl)) rfl ?_
    refine z_getr 1 0 (x0 + 1) B 22 rfl (obf_0_0 o_x0) rfl (iX0_clear _ (List.mem_of_getElem? (i := 11) rfl)) rfl ?_
    refine z_geti 5 0 (x0 + 1 + 1) B 23 rfl (obf_1_0 (obf_0_0 o_x0)) rfl (iX0_clear _ (List.mem_of_getElem? (i := 12) rfl)) rfl ?_
    by_cases hc : x1 < (mm (x0 + 1 + 1) 0)
    · replace hf := (if_pos hc).symm.trans hf
      refine z_icmp_ge_f B 24 rfl 91 (by decide) hc ?_
      refine z_aload_n B 25 rfl 0 0 rfl rfl ?_
      refine z_getr 0 1 x0 B 26 rfl o_x0 rfl (iX0_clear _ (List.mem_of_getElem? (i := 7) rfl)) rfl ?_
      refine z_iload_n B 27 rfl 1 1 rfl rfl ?_
      obtain ⟨r6, ec, hf⟩ := bd_e hf
      refine z_callN [.ref (x0 + 20), .int x1] [] [.int r6] X B 28 rfl miX6_at ⟨List.mem_of_getElem? (i := 19) rfl, (iX0_clear _ (List.mem_of_getElem? (i := 13) rfl))⟩ (ctX6_at hj (obf_0_1 o_x0) ec) ⟨Nat.le_of_ble_eq_true rfl, Nat.le_of_ble_eq_true rfl⟩ rfl rfl (Nat.le_of_ble_eq_true rfl) rfl ?_
      refine z_iconst (-1) B 29 rfl (by decide) ?_
      by_cases hc : r6 = (-1 : Int32)
      · replace hf := (if_pos hc).symm.trans hf
        refine z_icmp_ne_f B 30 rfl 80 (by decide) hc ?_
        refine z_aload_n B 31 rfl 0 0 rfl rfl ?_
        refine z_getr 0 1 x0 B 32 rfl o_x0 rfl (iX0_clear _ (List.mem_of_getElem? (i := 7) rfl)) rfl ?_
        refine z_iload_n B 33 rfl 1 1 rfl rfl ?_
        refine z_aload_n B 34 rfl 0 0 rfl rfl ?_
        refine z_iload_n B 35 rfl 1 1 rfl rfl ?_
        refine z_aload_n B 36 rfl 0 0 rfl rfl ?_
        refine z_getr 0 2 x0 B 37 rfl o_x0 rfl (iX0_clear _ (List.mem_of_getElem? (i := 9) rfl)) rfl ?_
        refine z_iload_n B 38 rfl 1 1 rfl rfl ?_
        obtain ⟨r9, ec, hf⟩ := bd_e hf
        refine z_callN [.ref (x0 + 21), .int x1] [.int x1, .ref x0, .int x1, .ref (x0 + 20)] [.int r9, .int x1, .ref x0, .int x1, .ref (x0 + 20)] X B 39 rfl miX6_at ⟨List.mem_of_getElem? (i := 19) rfl, (iX0_clear _ (List.mem_of_getElem? (i := 13) rfl))⟩ (ctX6_at hj (obf_0_2 o_x0) ec) ⟨Nat.le_of_ble_eq_true rfl, Nat.le_of_ble_eq_true rfl⟩ rfl rfl (Nat.le_of_ble_eq_true rfl) rfl ?_
        obtain ⟨r10, ec, hf⟩ := bd_e hf
        refine z_callV x0 0 [.int x1, .int r9] [.int x1, .ref (x0 + 20)] [.int r10.1, .int x1, .ref (x0 + 20)] X B 40 rfl o_x0 rfl rfl miX0_leastPrice ⟨(iX0_clear _ (List.mem_of_getElem? (i := 17) rfl)), (iX0_clear _ (List.mem_of_getElem? (i := 18) rfl)), (iX0_clear _ (List.mem_of_getElem? (i := 19) rfl))⟩ (ctX0_leastPrice hj o_x0 ec) ⟨Nat.le_of_ble_eq_true rfl, Nat.le_of_ble_eq_true rfl⟩ rfl rfl (Nat.le_of_ble_eq_true rfl) rfl ?_
        obtain ⟨r11, ec, hf⟩ := bd_e hf
        refine z_callN [.ref (x0 + 20), .int x1, .int r10.1] [] [] X B 41 rfl miX6_put ⟨List.mem_of_getElem? (i := 18) rfl, (iX0_clear _ (List.mem_of_getElem? (i := 8) rfl))⟩ (ctX6_put hj (obf_0_1 o_x0) ec) ⟨Nat.le_of_ble_eq_true rfl, Nat.le_of_ble_eq_true rfl⟩ rfl rfl (Nat.le_of_ble_eq_true rfl) rfl ?_
        exact f0_clear_j80_ok hj X B hQ hr ih _ _ _ o_x0  hf
      · replace hf := (if_neg hc).symm.trans hf
        refine z_icmp_ne_t B 30 rfl 80 (by decide) hc ?_
        exact f0_clear_j80_ok hj X B hQ hr ih _ _ _ o_x0  hf
    · replace hf := (if_neg hc).symm.trans hf
      refine z_icmp_ge_t B 24 rfl 91 (by decide) hc ?_
      cases hf
      exact z_vret B 47 rfl hQ hr
def f0_clear (mm : Mem) (a0 : Nat) : Option Mem := bd (f0_readLines mm a0) (fun r1 => bd (f0_readTop r1 a0) (fun r2 => nm (up2 r2 a0 10 (-1 : Int32)) (fun m3 => bd (f6_put m3 (a0 + 20) (0 : Int32) (-1 : Int32)) (fun r4 => bd (f6_put r4 (a0 + 21) (0 : Int32) (0 : Int32)) (fun r5 => f0_clear_l33 FU a0 (0 : Int32) r5)))))
theorem ctX0_clear {l : Launch} {C : Cfg} (hj : Dj C) {mm : Mem} {a0 : Nat} {x : Mem} (o_a0 : Ob a0 0) (hf : f0_clear mm a0 = some x) : Ct l C yX0_clear cX0_clear 2 none 4 102 [.ref a0] mm none x := by
  refine Ct.of (tb := tbX0_clear) hj miX0_clear.2.1 miX0_clear.1 dtX0_clear (Nat.le_of_ble_eq_true rfl) ?_
  intro E B hQ hr X
  unfold f0_clear at hf
  show G E 2 0 [(0, .ref a0)] [] mm
  refine z_aload_n B 0 rfl 0 0 rfl rfl ?_
  obtain ⟨r1, ec, hf⟩ := bd_e hf
  refine z_callV a0 0 [] [] [] X B 1 rfl o_a0 rfl rfl miX0_readLines ⟨(iX0_clear _ (List.mem_of_getElem? (i := 0) rfl)), (iX0_clear _ (List.mem_of_getElem? (i := 1) rfl)), (iX0_clear _ (List.mem_of_getElem? (i := 2) rfl))⟩ (ctX0_readLines hj o_a0 ec) ⟨Nat.le_of_ble_eq_true rfl, Nat.le_of_ble_eq_true rfl⟩ rfl rfl (Nat.le_of_ble_eq_true rfl) rfl ?_
  refine z_aload_n B 2 rfl 0 0 rfl rfl ?_
  obtain ⟨r2, ec, hf⟩ := bd_e hf
  refine z_callV a0 0 [] [] [] X B 3 rfl o_a0 rfl rfl miX0_readTop ⟨(iX0_clear _ (List.mem_of_getElem? (i := 3) rfl)), (iX0_clear _ (List.mem_of_getElem? (i := 4) rfl)), (iX0_clear _ (List.mem_of_getElem? (i := 5) rfl))⟩ (ctX0_readTop hj o_a0 ec) ⟨Nat.le_of_ble_eq_true rfl, Nat.le_of_ble_eq_true rfl⟩ rfl rfl (Nat.le_of_ble_eq_true rfl) rfl ?_
  refine z_aload_n B 4 rfl 0 0 rfl rfl ?_
  refine z_iconst (-1) B 5 rfl (by decide) ?_
  refine z_puti 0 10 a0 B 6 rfl o_a0 rfl (iX0_clear _ (List.mem_of_getElem? (i := 6) rfl)) rfl (ty := .int) (by decide) rfl rfl rfl ?_
  obtain ⟨m3, ex, hf⟩ := nm_x hf
  refine z_mem ex ?_
  refine z_aload_n B 7 rfl 0 0 rfl rfl ?_
  refine z_getr 0 1 a0 B 8 rfl o_a0 rfl (iX0_clear _ (List.mem_of_getElem? (i := 7) rfl)) rfl ?_
  refine z_iconst 0 B 9 rfl (by decide) ?_
  refine z_iconst (-1) B 10 rfl (by decide) ?_
  obtain ⟨r4, ec, hf⟩ := bd_e hf
  refine z_callN [.ref (a0 + 20), .int (0 : Int32), .int (-1 : Int32)] [] [] X B 11 rfl miX6_put ⟨List.mem_of_getElem? (i := 18) rfl, (iX0_clear _ (List.mem_of_getElem? (i := 8) rfl))⟩ (ctX6_put hj (obf_0_1 o_a0) ec) ⟨Nat.le_of_ble_eq_true rfl, Nat.le_of_ble_eq_true rfl⟩ rfl rfl (Nat.le_of_ble_eq_true rfl) rfl ?_
  refine z_aload_n B 12 rfl 0 0 rfl rfl ?_
  refine z_getr 0 2 a0 B 13 rfl o_a0 rfl (iX0_clear _ (List.mem_of_getElem? (i := 9) rfl)) rfl ?_
  refine z_iconst 0 B 14 rfl (by decide) ?_
  refine z_iconst 0 B 15 rfl (by decide) ?_
  obtain ⟨r5, ec, hf⟩ := bd_e hf
  refine z_callN [.ref (a0 + 21), .int (0 : Int32), .int (0 : Int32)] [] [] X B 16 rfl miX6_put ⟨List.mem_of_getElem? (i := 18) rfl, (iX0_clear _ (List.mem_of_getElem? (i := 8) rfl))⟩ (ctX6_put hj (obf_0_2 o_a0) ec) ⟨Nat.le_of_ble_eq_true rfl, Nat.le_of_ble_eq_true rfl⟩ rfl rfl (Nat.le_of_ble_eq_true rfl) rfl ?_
  refine z_iconst 0 B 17 rfl (by decide) ?_
  refine z_istore_n [(1, .int (0 : Int32)), (0, .ref a0)] B 18 rfl 1 rfl (by decide) rfl ?_
  refine z_sub [(0, .ref a0), (1, .int (0 : Int32))] [1, 0] rfl ?_
  exact f0_clear_l33_ok hj X B hQ hr FU _ _ _ o_a0  hf
/-! ZoneCapacity$Auction.levelOf(II)I -/
def tbX0_levelOf : Tb := [(0, .aload_n 0, 1, 1), (1, .invokevirtual 46, 3, 4), (4, .aload_n 0, 1, 5), (5, .iload_n 1, 1, 6), (6, .iload_n 2, 1, 7), (7, .aload_n 0, 1, 8), (8, .getfield 37, 3, 11), (11, .invokevirtual 81, 3, 14), (14, .aload_n 0, 1, 15), (15, .getfield 37, 3, 18), (18, .iload_n 1, 1, 19), (19, .invokestatic 69, 3, 22), (22, .ireturn, 1, 23)]
theorem dtX0_levelOf : ∀ q ∈ tbX0_levelOf, decode cX0_levelOf q.1 = .ok (q.2.1, q.2.2.1) ∧ q.1 + q.2.2.1 = q.2.2.2 := by decide +kernel
theorem miX0_levelOf : MI yX0_levelOf cX0_levelOf 3 (some .int) 2 := ⟨tw_mem (List.mem_of_getElem? (i := 681) (by decide +kernel)) rfl, by decide, by decide +kernel, tw_mem (List.mem_of_getElem? (i := 72) (by decide +kernel)) rfl⟩
abbrev rmX0_levelOf : Room := { frames := 4, cells := 0, slots := 0, locals := 89 }
def wX0_levelOf : List Cond := [.methodLink "ZoneCapacity$Auction" 46 yX0_readLines, .instanceMethod yX0_readLines, .selects "ZoneCapacity$Auction" yX0_readLines yX0_readLines, .fieldLink "ZoneCapacity$Auction" 37 "ZoneCapacity$Auction" "levels" "[I", .methodLink "ZoneCapacity$Auction" 81 yX0_fillLevels, .instanceMethod yX0_fillLevels, .selects "ZoneCapacity$Auction" yX0_fillLevels yX0_fillLevels, .static yX6_at]
theorem iX0_levelOf : ∀ w ∈ wX0_levelOf, w ∈ TW := tw_of (ids := [682, 684, 14, 236, 689, 691, 15, 387]) (by decide +kernel)
def f0_levelOf (mm : Mem) (a0 : Nat) (a1 : Int32) (a2 : Int32) : Option (Int32 × Mem) := bd (f0_readLines mm a0) (fun r1 => bd (f0_fillLevels r1 a0 a1 a2 (a0 + 26)) (fun r2 => bd (f6_at r2 (a0 + 26) a1) (fun r3 => some (r3, r2))))
theorem ctX0_levelOf {l : Launch} {C : Cfg} (hj : Dj C) {mm : Mem} {a0 : Nat} {a1 : Int32} {a2 : Int32} {x : (Int32 × Mem)} (o_a0 : Ob a0 0) (hf : f0_levelOf mm a0 a1 a2 = some x) : Ct l C yX0_levelOf cX0_levelOf 3 (some .int) 4 89 [.ref a0, .int a1, .int a2] mm (some (.int x.1)) x.2 := by
  refine Ct.of (tb := tbX0_levelOf) hj miX0_levelOf.2.1 miX0_levelOf.1 dtX0_levelOf (Nat.le_of_ble_eq_true rfl) ?_
  intro E B hQ hr X
  unfold f0_levelOf at hf
  show G E 3 0 [(0, .ref a0), (1, .int a1), (2, .int a2)] [] mm
  refine z_aload_n B 0 rfl 0 0 rfl rfl ?_
  obtain ⟨r1, ec, hf⟩ := bd_e hf
  refine z_callV a0 0 [] [] [] X B 1 rfl o_a0 rfl rfl miX0_readLines ⟨(iX0_levelOf _ (List.mem_of_getElem? (i := 0) rfl)), (iX0_levelOf _ (List.mem_of_getElem? (i := 1) rfl)), (iX0_levelOf _ (List.mem_of_getElem? (i := 2) rfl))⟩ (ctX0_readLines hj o_a0 ec) ⟨Nat.le_of_ble_eq_true rfl, Nat.le_of_ble_eq_true rfl⟩ rfl rfl (Nat.le_of_ble_eq_true rfl) rfl ?_
  refine z_aload_n B 2 rfl 0 0 rfl rfl ?_
  refine z_iload_n B 3 rfl 1 1 rfl rfl ?_
  refine z_iload_n B 4 rfl 2 2 rfl rfl ?_
  refine z_aload_n B 5 rfl 0 0 rfl rfl ?_
  refine z_getr 0 7 a0 B 6 rfl o_a0 rfl (iX0_levelOf _ (List.mem_of_getElem? (i := 3) rfl)) rfl ?_
  obtain ⟨r2, ec, hf⟩ := bd_e hf
  refine z_callV a0 0 [.int a1, .int a2, .ref (a0 + 26)] [] [] X B 7 rfl o_a0 rfl rfl miX0_fillLevels ⟨(iX0_levelOf _ (List.mem_of_getElem? (i := 4) rfl)), (iX0_levelOf _ (List.mem_of_getElem? (i := 5) rfl)), (iX0_levelOf _ (List.mem_of_getElem? (i := 6) rfl))⟩ (ctX0_fillLevels hj o_a0 (obf_0_7 o_a0) ec) ⟨Nat.le_of_ble_eq_true rfl, Nat.le_of_ble_eq_true rfl⟩ rfl rfl (Nat.le_of_ble_eq_true rfl) rfl ?_
  refine z_aload_n B 8 rfl 0 0 rfl rfl ?_
  refine z_getr 0 7 a0 B 9 rfl o_a0 rfl (iX0_levelOf _ (List.mem_of_getElem? (i := 3) rfl)) rfl ?_
  refine z_iload_n B 10 rfl 1 1 rfl rfl ?_
  obtain ⟨r3, ec, hf⟩ := bd_e hf
  refine z_callN [.ref (a0 + 26), .int a1] [] [.int r3] X B 11 rfl miX6_at ⟨List.mem_of_getElem? (i := 19) rfl, (iX0_levelOf _ (List.mem_of_getElem? (i := 7) rfl))⟩ (ctX6_at hj (obf_0_7 o_a0) ec) ⟨Nat.le_of_ble_eq_true rfl, Nat.le_of_ble_eq_true rfl⟩ rfl rfl (Nat.le_of_ble_eq_true rfl) rfl ?_
  cases hf
  exact z_iret B 12 rfl rfl hQ hr
/-! ZoneCapacity$Auction.takenOf(I)I -/
def tbX0_takenOf : Tb := [(0, .iconst 0, 1, 1), (1, .istore_n 2, 1, 2), (2, .iload_n 1, 1, 3), (3, .iconst 4, 1, 4), (4, .imul, 1, 5), (5, .istore_n 3, 1, 6), (6, .iload_n 3, 1, 7), (7, .iload_n 1, 1, 8), (8, .iconst 4, 1, 9), (9, .imul, 1, 10), (10, .iconst 4, 1, 11), (11, .iadd, 1, 12), (12, .if_icmp .ge 20, 3, 15), (15, .iload_n 2, 1, 16), (16, .aload_n 0, 1, 17), (17, .getfield 28, 3, 20), (20, .iload_n 3, 1, 21), (21, .invokestatic 69, 3, 24), (24, .iadd, 1, 25), (25, .istore_n 2, 1, 26), (26, .iinc 3 1, 3, 29), (29, .goto (-23), 3, 32), (32, .iload_n 2, 1, 33), (33, .ireturn, 1, 34)]
theorem dtX0_takenOf : ∀ q ∈ tbX0_takenOf, decode cX0_takenOf q.1 = .ok (q.2.1, q.2.2.1) ∧ q.1 + q.2.2.1 = q.2.2.2 := by decide +kernel
theorem miX0_takenOf : MI yX0_takenOf cX0_takenOf 4 (some .int) 1 := ⟨tw_mem (List.mem_of_getElem? (i := 754) (by decide +kernel)) rfl, by decide, by decide +kernel, tw_mem (List.mem_of_getElem? (i := 72) (by decide +kernel)) rfl⟩
abbrev rmX0_takenOf : Room := { frames := 1, cells := 0, slots := 0, locals := 21 }
def wX0_takenOf : List Cond := [.fieldLink "ZoneCapacity$Auction" 28 "ZoneCapacity$Auction" "takenUnits" "[I", .static yX6_at]
theorem iX0_takenOf : ∀ w ∈ wX0_takenOf, w ∈ TW := tw_of (ids := [232, 387]) (by decide +kernel)
def f0_takenOf_l6 (mm : Mem) : Nat → Nat → Int32 → Int32 → Int32 → Option Int32
  | 0, _, _, _, _ => none
  | n + 1, x0, x1, x2, x3 => if x3 < ((x1 * (4 : Int32)) + (4 : Int32)) then bd (f6_at mm (x0 + 23) x3) (fun r2 => nm (x2 + r2) (fun v3 => nm (x3 + 1) (fun v4 => f0_takenOf_l6 mm n x0 x1 v3 v4))) else some (x2)
theorem f0_takenOf_l6_ok {E : Ev} {l : Launch} {C : Cfg} {mm : Mem} {x : Int32} (hj : Dj C) (X : Ec E l C rmX0_takenOf) (B : Bx E RX0 tbX0_takenOf 4 (some .int)) (hQ : Rt E) (hr : Rs E (some (.int x)) mm) (n : Nat) : ∀ (x0 : Nat) (x1 : Int32) (x2 : Int32) (x3 : Int32), Ob x0 0 → f0_takenOf_l6 mm n x0 x1 x2 x3 = some x → G E 4 6 [(0, .ref x0), (1, .int x1), (2, .int x2), (3, .int x3)] [] mm := by
  induction n with
  | zero =>
    intro x0 x1 x2 x3 o_x0 hf
    rw [f0_takenOf_l6] at hf
    cases hf
  | succ n ih =>
    intro x0 x1 x2 x3 o_x0 hf
    rw [f0_takenOf_l6] at hf
    refine z_iload_n B 6 rfl 3 3 rfl rfl ?_
    refine z_iload_n B 7 rfl 1 1 rfl rfl ?_
    refine z_iconst 4 B 8 rfl (by decide) ?_
    refine z_imul B 9 rfl ?_
    refine z_iconst 4 B 10 rfl (by decide) ?_
    refine z_iadd B 11 rfl ?_
    by_cases hc : x3 < ((x1 * (4 : Int32)) + (4 : Int32))
    · replace hf := (if_pos hc).symm.trans hf
      refine z_icmp_ge_f B 12 rfl 32 (by decide) hc ?_
      refine z_iload_n B 13 rfl 2 2 rfl rfl ?_
      refine z_aload_n B 14 rfl 0 0 rfl rfl ?_
      refine z_getr 0 4 x0 B 15 rfl o_x0 rfl (iX0_takenOf _ (List.mem_of_getElem? (i := 0) rfl)) rfl ?_
      refine z_iload_n B 16 rfl 3 3 rfl rfl ?_
      obtain ⟨r2, ec, hf⟩ := bd_e hf
      refine z_callN [.ref (x0 + 23), .int x3] [.int x2] [.int r2, .int x2] X B 17 rfl miX6_at ⟨List.mem_of_getElem? (i := 19) rfl, (iX0_takenOf _ (List.mem_of_getElem? (i := 1) rfl))⟩ (ctX6_at hj (obf_0_4 o_x0) ec) ⟨Nat.le_of_ble_eq_true rfl, Nat.le_of_ble_eq_true rfl⟩ rfl rfl (Nat.le_of_ble_eq_true rfl) rfl ?_
      refine z_iadd B 18 rfl ?_
      obtain ⟨v3, ex, hf⟩ := nm_x hf
      refine z_top ex ?_
      refine z_istore_n [(2, .int v3), (0, .ref x0), (1, .int x1), (3, .int x3)] B 19 rfl 2 rfl (by decide) rfl ?_
      obtain ⟨v4, ex, hf⟩ := nm_x hf
      refine z_iinc v4 [(3, .int v4), (2, .int v3), (0, .ref x0), (1, .int x1)] B 20 rfl 3 rfl (ex.symm) (by decide) rfl ?_
      refine z_goto B 21 rfl 6 (by decide) ?_
      refine z_sub [(0, .ref x0), (1, .int x1), (2, .int v3), (3, .int v4)] [2, 3, 1, 0] rfl ?_
      exact ih _ _ _ _ o_x0  hf
    · replace hf := (if_neg hc).symm.trans hf
      refine z_icmp_ge_t B 12 rfl 32 (by decide) hc ?_
      refine z_iload_n B 22 rfl 2 2 rfl rfl ?_
      cases hf
      exact z_iret B 23 rfl rfl hQ hr
def f0_takenOf (mm : Mem) (a0 : Nat) (a1 : Int32) : Option Int32 := nm (a1 * (4 : Int32)) (fun v1 => f0_takenOf_l6 mm FU a0 a1 (0 : Int32) v1)
theorem ctX0_takenOf {l : Launch} {C : Cfg} (hj : Dj C) {mm : Mem} {a0 : Nat} {a1 : Int32} {x : Int32} (o_a0 : Ob a0 0) (hf : f0_takenOf mm a0 a1 = some x) : Ct l C yX0_takenOf cX0_takenOf 4 (some .int) 1 21 [.ref a0, .int a1] mm (some (.int x)) mm := by
  refine Ct.of (tb := tbX0_takenOf) hj miX0_takenOf.2.1 miX0_takenOf.1 dtX0_takenOf (Nat.le_of_ble_eq_true rfl) ?_
  intro E B hQ hr X
  unfold f0_takenOf at hf
  show G E 4 0 [(0, .ref a0), (1, .int a1)] [] mm
  refine z_iconst 0 B 0 rfl (by decide) ?_
  refine z_istore_n [(2, .int (0 : Int32)), (0, .ref a0), (1, .int a1)] B 1 rfl 2 rfl (by decide) rfl ?_
  refine z_iload_n B 2 rfl 1 2 rfl rfl ?_
  refine z_iconst 4 B 3 rfl (by decide) ?_
  refine z_imul B 4 rfl ?_
  obtain ⟨v1, ex, hf⟩ := nm_x hf
  refine z_top ex ?_
  refine z_istore_n [(3, .int v1), (2, .int (0 : Int32)), (0, .ref a0), (1, .int a1)] B 5 rfl 3 rfl (by decide) rfl ?_
  refine z_sub [(0, .ref a0), (1, .int a1), (2, .int (0 : Int32)), (3, .int v1)] [2, 3, 1, 0] rfl ?_
  exact f0_takenOf_l6_ok hj X B hQ hr FU _ _ _ _ o_a0  hf
end
