section
-- ===== PART A: goes FIRST, ahead of the names: the tables' words, and 'selects' of the private methods out of them =====
/-- a private method of a class that the tables say can be made, by its rows of tables_1 -/
def lw_okq (q : MethodName × Nat) : Prop := (q.1.cls ≠ "java/lang/invoke/MethodHandle" ∧ q.1.cls ≠ "java/lang/invoke/VarHandle") ∧ Cond.instantiable q.1.cls q.2 ∈ tables_1 ∧ Cond.privateMethod q.1 ∈ tables_1 ∧ Cond.instanceMethod q.1 ∈ tables_1
theorem lw_p0 : lw_okq (⟨"GivenGoesOn", "areTwo", "(II)Z"⟩, 11) := ⟨⟨by decide +kernel, by decide +kernel⟩, List.mem_of_getElem? (i := 15) (by decide +kernel), List.mem_of_getElem? (i := 311) (by decide +kernel), List.mem_of_getElem? (i := 312) (by decide +kernel)⟩
theorem lw_p1 : lw_okq (⟨"GivenGoesOn", "isPerson", "(I)Z"⟩, 11) := ⟨⟨by decide +kernel, by decide +kernel⟩, List.mem_of_getElem? (i := 15) (by decide +kernel), List.mem_of_getElem? (i := 315) (by decide +kernel), List.mem_of_getElem? (i := 316) (by decide +kernel)⟩
theorem lw_p2 : lw_okq (⟨"GivenGoesOn", "isGift", "(I)Z"⟩, 11) := ⟨⟨by decide +kernel, by decide +kernel⟩, List.mem_of_getElem? (i := 15) (by decide +kernel), List.mem_of_getElem? (i := 379) (by decide +kernel), List.mem_of_getElem? (i := 380) (by decide +kernel)⟩
theorem lw_p3 : lw_okq (⟨"GivenGoesOn", "whoMayHave", "(I)I"⟩, 11) := ⟨⟨by decide +kernel, by decide +kernel⟩, List.mem_of_getElem? (i := 15) (by decide +kernel), List.mem_of_getElem? (i := 406) (by decide +kernel), List.mem_of_getElem? (i := 407) (by decide +kernel)⟩
theorem lw_p4 : lw_okq (⟨"GivenGoesOn$World", "chosenBy", "(II)I"⟩, 9) := ⟨⟨by decide +kernel, by decide +kernel⟩, List.mem_of_getElem? (i := 68) (by decide +kernel), List.mem_of_getElem? (i := 443) (by decide +kernel), List.mem_of_getElem? (i := 444) (by decide +kernel)⟩
theorem lw_p5 : lw_okq (⟨"GivenGoesOn$World", "markOf", "(II)I"⟩, 9) := ⟨⟨by decide +kernel, by decide +kernel⟩, List.mem_of_getElem? (i := 68) (by decide +kernel), List.mem_of_getElem? (i := 447) (by decide +kernel), List.mem_of_getElem? (i := 448) (by decide +kernel)⟩
theorem lw_p6 : lw_okq (⟨"GivenGoesOn$Walks", "spread", "(JII)V"⟩, 2) := ⟨⟨by decide +kernel, by decide +kernel⟩, List.mem_of_getElem? (i := 170) (by decide +kernel), List.mem_of_getElem? (i := 490) (by decide +kernel), List.mem_of_getElem? (i := 491) (by decide +kernel)⟩
theorem lw_p7 : lw_okq (⟨"GivenGoesOn$Circle", "mostBehind", "(LGivenGoesOn$World;I)I"⟩, 2) := ⟨⟨by decide +kernel, by decide +kernel⟩, List.mem_of_getElem? (i := 184) (by decide +kernel), List.mem_of_getElem? (i := 526) (by decide +kernel), List.mem_of_getElem? (i := 527) (by decide +kernel)⟩
theorem lw_p8 : lw_okq (⟨"GivenGoesOn$Circle", "mostBy", "(LGivenGoesOn$World;II)I"⟩, 2) := ⟨⟨by decide +kernel, by decide +kernel⟩, List.mem_of_getElem? (i := 184) (by decide +kernel), List.mem_of_getElem? (i := 530) (by decide +kernel), List.mem_of_getElem? (i := 531) (by decide +kernel)⟩
theorem lw_p9 : lw_okq (⟨"GivenGoesOn$Circle", "firstOfMost", "(LGivenGoesOn$World;I)I"⟩, 2) := ⟨⟨by decide +kernel, by decide +kernel⟩, List.mem_of_getElem? (i := 184) (by decide +kernel), List.mem_of_getElem? (i := 539) (by decide +kernel), List.mem_of_getElem? (i := 540) (by decide +kernel)⟩
theorem lw_p10 : lw_okq (⟨"GivenGoesOn$World", "knownByAny", "(I)I"⟩, 9) := ⟨⟨by decide +kernel, by decide +kernel⟩, List.mem_of_getElem? (i := 68) (by decide +kernel), List.mem_of_getElem? (i := 560) (by decide +kernel), List.mem_of_getElem? (i := 561) (by decide +kernel)⟩
theorem lw_p11 : lw_okq (⟨"GivenGoesOn", "withPerson", "(JI)J"⟩, 11) := ⟨⟨by decide +kernel, by decide +kernel⟩, List.mem_of_getElem? (i := 15) (by decide +kernel), List.mem_of_getElem? (i := 661) (by decide +kernel), List.mem_of_getElem? (i := 662) (by decide +kernel)⟩
theorem lw_p12 : lw_okq (⟨"GivenGoesOn", "withGift", "(JI)J"⟩, 11) := ⟨⟨by decide +kernel, by decide +kernel⟩, List.mem_of_getElem? (i := 15) (by decide +kernel), List.mem_of_getElem? (i := 667) (by decide +kernel), List.mem_of_getElem? (i := 668) (by decide +kernel)⟩
theorem lw_p13 : lw_okq (⟨"GivenGoesOnModel", "faultOf", "()I"⟩, 46) := ⟨⟨by decide +kernel, by decide +kernel⟩, List.mem_of_getElem? (i := 678) (by decide +kernel), List.mem_of_getElem? (i := 836) (by decide +kernel), List.mem_of_getElem? (i := 837) (by decide +kernel)⟩
theorem lw_p14 : lw_okq (⟨"GivenGoesOnModel", "go", "(I)Z"⟩, 46) := ⟨⟨by decide +kernel, by decide +kernel⟩, List.mem_of_getElem? (i := 678) (by decide +kernel), List.mem_of_getElem? (i := 840) (by decide +kernel), List.mem_of_getElem? (i := 841) (by decide +kernel)⟩
theorem lw_p15 : lw_okq (⟨"GivenGoesOnModel", "tellLaw", "(I)I"⟩, 46) := ⟨⟨by decide +kernel, by decide +kernel⟩, List.mem_of_getElem? (i := 678) (by decide +kernel), List.mem_of_getElem? (i := 858) (by decide +kernel), List.mem_of_getElem? (i := 859) (by decide +kernel)⟩
def lw_privs_1 : List (MethodName × Nat) := [(⟨"GivenGoesOn", "areTwo", "(II)Z"⟩, 11), (⟨"GivenGoesOn", "isPerson", "(I)Z"⟩, 11), (⟨"GivenGoesOn", "isGift", "(I)Z"⟩, 11), (⟨"GivenGoesOn", "whoMayHave", "(I)I"⟩, 11), (⟨"GivenGoesOn$World", "chosenBy", "(II)I"⟩, 9), (⟨"GivenGoesOn$World", "markOf", "(II)I"⟩, 9), (⟨"GivenGoesOn$Walks", "spread", "(JII)V"⟩, 2), (⟨"GivenGoesOn$Circle", "mostBehind", "(LGivenGoesOn$World;I)I"⟩, 2), (⟨"GivenGoesOn$Circle", "mostBy", "(LGivenGoesOn$World;II)I"⟩, 2), (⟨"GivenGoesOn$Circle", "firstOfMost", "(LGivenGoesOn$World;I)I"⟩, 2), (⟨"GivenGoesOn$World", "knownByAny", "(I)I"⟩, 9), (⟨"GivenGoesOn", "withPerson", "(JI)J"⟩, 11), (⟨"GivenGoesOn", "withGift", "(JI)J"⟩, 11), (⟨"GivenGoesOnModel", "faultOf", "()I"⟩, 46), (⟨"GivenGoesOnModel", "go", "(I)Z"⟩, 46), (⟨"GivenGoesOnModel", "tellLaw", "(I)I"⟩, 46)]
theorem lw_r1 : ∀ q ∈ lw_privs_1, lw_okq q := List.forall_mem_cons.mpr ⟨lw_p0, List.forall_mem_cons.mpr ⟨lw_p1, List.forall_mem_cons.mpr ⟨lw_p2, List.forall_mem_cons.mpr ⟨lw_p3, List.forall_mem_cons.mpr ⟨lw_p4, List.forall_mem_cons.mpr ⟨lw_p5, List.forall_mem_cons.mpr ⟨lw_p6, List.forall_mem_cons.mpr ⟨lw_p7, List.forall_mem_cons.mpr ⟨lw_p8, List.forall_mem_cons.mpr ⟨lw_p9, List.forall_mem_cons.mpr ⟨lw_p10, List.forall_mem_cons.mpr ⟨lw_p11, List.forall_mem_cons.mpr ⟨lw_p12, List.forall_mem_cons.mpr ⟨lw_p13, List.forall_mem_cons.mpr ⟨lw_p14, List.forall_mem_cons.mpr ⟨lw_p15, fun _ h => absurd h List.not_mem_nil⟩⟩⟩⟩⟩⟩⟩⟩⟩⟩⟩⟩⟩⟩⟩⟩
theorem lw_p16 : lw_okq (⟨"GivenGoesOnModel", "arePair", "(II)Z"⟩, 46) := ⟨⟨by decide +kernel, by decide +kernel⟩, List.mem_of_getElem? (i := 678) (by decide +kernel), List.mem_of_getElem? (i := 871) (by decide +kernel), List.mem_of_getElem? (i := 872) (by decide +kernel)⟩
theorem lw_p17 : lw_okq (⟨"GivenGoesOnModel", "isPerson", "(I)Z"⟩, 46) := ⟨⟨by decide +kernel, by decide +kernel⟩, List.mem_of_getElem? (i := 678) (by decide +kernel), List.mem_of_getElem? (i := 875) (by decide +kernel), List.mem_of_getElem? (i := 876) (by decide +kernel)⟩
theorem lw_p18 : lw_okq (⟨"GivenGoesOnModel", "tellPerson", "(II)I"⟩, 46) := ⟨⟨by decide +kernel, by decide +kernel⟩, List.mem_of_getElem? (i := 678) (by decide +kernel), List.mem_of_getElem? (i := 888) (by decide +kernel), List.mem_of_getElem? (i := 889) (by decide +kernel)⟩
theorem lw_p19 : lw_okq (⟨"GivenGoesOnModel", "holds", "(I)I"⟩, 46) := ⟨⟨by decide +kernel, by decide +kernel⟩, List.mem_of_getElem? (i := 678) (by decide +kernel), List.mem_of_getElem? (i := 892) (by decide +kernel), List.mem_of_getElem? (i := 893) (by decide +kernel)⟩
theorem lw_p20 : lw_okq (⟨"GivenGoesOnModel", "lives", "(I)Z"⟩, 46) := ⟨⟨by decide +kernel, by decide +kernel⟩, List.mem_of_getElem? (i := 678) (by decide +kernel), List.mem_of_getElem? (i := 896) (by decide +kernel), List.mem_of_getElem? (i := 897) (by decide +kernel)⟩
theorem lw_p21 : lw_okq (⟨"GivenGoesOnModel", "restOf", "(I)I"⟩, 46) := ⟨⟨by decide +kernel, by decide +kernel⟩, List.mem_of_getElem? (i := 678) (by decide +kernel), List.mem_of_getElem? (i := 908) (by decide +kernel), List.mem_of_getElem? (i := 909) (by decide +kernel)⟩
theorem lw_p22 : lw_okq (⟨"GivenGoesOnModel", "isGift", "(I)Z"⟩, 46) := ⟨⟨by decide +kernel, by decide +kernel⟩, List.mem_of_getElem? (i := 678) (by decide +kernel), List.mem_of_getElem? (i := 922) (by decide +kernel), List.mem_of_getElem? (i := 923) (by decide +kernel)⟩
theorem lw_p23 : lw_okq (⟨"GivenGoesOnModel", "tellGift", "(II)I"⟩, 46) := ⟨⟨by decide +kernel, by decide +kernel⟩, List.mem_of_getElem? (i := 678) (by decide +kernel), List.mem_of_getElem? (i := 926) (by decide +kernel), List.mem_of_getElem? (i := 927) (by decide +kernel)⟩
theorem lw_p24 : lw_okq (⟨"GivenGoesOnModel", "worthOf", "(I)I"⟩, 46) := ⟨⟨by decide +kernel, by decide +kernel⟩, List.mem_of_getElem? (i := 678) (by decide +kernel), List.mem_of_getElem? (i := 930) (by decide +kernel), List.mem_of_getElem? (i := 931) (by decide +kernel)⟩
theorem lw_p25 : lw_okq (⟨"GivenGoesOnModel", "mayOf", "(I)I"⟩, 46) := ⟨⟨by decide +kernel, by decide +kernel⟩, List.mem_of_getElem? (i := 678) (by decide +kernel), List.mem_of_getElem? (i := 943) (by decide +kernel), List.mem_of_getElem? (i := 944) (by decide +kernel)⟩
theorem lw_p26 : lw_okq (⟨"GivenGoesOnModel", "mayHave", "(II)I"⟩, 46) := ⟨⟨by decide +kernel, by decide +kernel⟩, List.mem_of_getElem? (i := 678) (by decide +kernel), List.mem_of_getElem? (i := 947) (by decide +kernel), List.mem_of_getElem? (i := 948) (by decide +kernel)⟩
theorem lw_p27 : lw_okq (⟨"GivenGoesOnModel", "goOn", "(II)I"⟩, 46) := ⟨⟨by decide +kernel, by decide +kernel⟩, List.mem_of_getElem? (i := 678) (by decide +kernel), List.mem_of_getElem? (i := 955) (by decide +kernel), List.mem_of_getElem? (i := 956) (by decide +kernel)⟩
theorem lw_p28 : lw_okq (⟨"GivenGoesOnModel", "year", "(Z)I"⟩, 46) := ⟨⟨by decide +kernel, by decide +kernel⟩, List.mem_of_getElem? (i := 678) (by decide +kernel), List.mem_of_getElem? (i := 964) (by decide +kernel), List.mem_of_getElem? (i := 965) (by decide +kernel)⟩
theorem lw_p29 : lw_okq (⟨"GivenGoesOnModel", "byDraw", "(I)I"⟩, 46) := ⟨⟨by decide +kernel, by decide +kernel⟩, List.mem_of_getElem? (i := 678) (by decide +kernel), List.mem_of_getElem? (i := 968) (by decide +kernel), List.mem_of_getElem? (i := 969) (by decide +kernel)⟩
theorem lw_p30 : lw_okq (⟨"GivenGoesOnModel", "draw", "(I)I"⟩, 46) := ⟨⟨by decide +kernel, by decide +kernel⟩, List.mem_of_getElem? (i := 678) (by decide +kernel), List.mem_of_getElem? (i := 975) (by decide +kernel), List.mem_of_getElem? (i := 976) (by decide +kernel)⟩
theorem lw_p31 : lw_okq (⟨"GivenGoesOnModel", "byHabit", "(II)I"⟩, 46) := ⟨⟨by decide +kernel, by decide +kernel⟩, List.mem_of_getElem? (i := 678) (by decide +kernel), List.mem_of_getElem? (i := 983) (by decide +kernel), List.mem_of_getElem? (i := 984) (by decide +kernel)⟩
def lw_privs_2 : List (MethodName × Nat) := [(⟨"GivenGoesOnModel", "arePair", "(II)Z"⟩, 46), (⟨"GivenGoesOnModel", "isPerson", "(I)Z"⟩, 46), (⟨"GivenGoesOnModel", "tellPerson", "(II)I"⟩, 46), (⟨"GivenGoesOnModel", "holds", "(I)I"⟩, 46), (⟨"GivenGoesOnModel", "lives", "(I)Z"⟩, 46), (⟨"GivenGoesOnModel", "restOf", "(I)I"⟩, 46), (⟨"GivenGoesOnModel", "isGift", "(I)Z"⟩, 46), (⟨"GivenGoesOnModel", "tellGift", "(II)I"⟩, 46), (⟨"GivenGoesOnModel", "worthOf", "(I)I"⟩, 46), (⟨"GivenGoesOnModel", "mayOf", "(I)I"⟩, 46), (⟨"GivenGoesOnModel", "mayHave", "(II)I"⟩, 46), (⟨"GivenGoesOnModel", "goOn", "(II)I"⟩, 46), (⟨"GivenGoesOnModel", "year", "(Z)I"⟩, 46), (⟨"GivenGoesOnModel", "byDraw", "(I)I"⟩, 46), (⟨"GivenGoesOnModel", "draw", "(I)I"⟩, 46), (⟨"GivenGoesOnModel", "byHabit", "(II)I"⟩, 46)]
theorem lw_r2 : ∀ q ∈ lw_privs_2, lw_okq q := List.forall_mem_cons.mpr ⟨lw_p16, List.forall_mem_cons.mpr ⟨lw_p17, List.forall_mem_cons.mpr ⟨lw_p18, List.forall_mem_cons.mpr ⟨lw_p19, List.forall_mem_cons.mpr ⟨lw_p20, List.forall_mem_cons.mpr ⟨lw_p21, List.forall_mem_cons.mpr ⟨lw_p22, List.forall_mem_cons.mpr ⟨lw_p23, List.forall_mem_cons.mpr ⟨lw_p24, List.forall_mem_cons.mpr ⟨lw_p25, List.forall_mem_cons.mpr ⟨lw_p26, List.forall_mem_cons.mpr ⟨lw_p27, List.forall_mem_cons.mpr ⟨lw_p28, List.forall_mem_cons.mpr ⟨lw_p29, List.forall_mem_cons.mpr ⟨lw_p30, List.forall_mem_cons.mpr ⟨lw_p31, fun _ h => absurd h List.not_mem_nil⟩⟩⟩⟩⟩⟩⟩⟩⟩⟩⟩⟩⟩⟩⟩⟩
theorem lw_p32 : lw_okq (⟨"GivenGoesOnModel", "layWays", "(I)V"⟩, 46) := ⟨⟨by decide +kernel, by decide +kernel⟩, List.mem_of_getElem? (i := 678) (by decide +kernel), List.mem_of_getElem? (i := 991) (by decide +kernel), List.mem_of_getElem? (i := 992) (by decide +kernel)⟩
theorem lw_p33 : lw_okq (⟨"GivenGoesOnModel", "beginWays", "(I)V"⟩, 46) := ⟨⟨by decide +kernel, by decide +kernel⟩, List.mem_of_getElem? (i := 678) (by decide +kernel), List.mem_of_getElem? (i := 995) (by decide +kernel), List.mem_of_getElem? (i := 996) (by decide +kernel)⟩
theorem lw_p34 : lw_okq (⟨"GivenGoesOnModel", "goAll", "(IZ)J"⟩, 46) := ⟨⟨by decide +kernel, by decide +kernel⟩, List.mem_of_getElem? (i := 678) (by decide +kernel), List.mem_of_getElem? (i := 999) (by decide +kernel), List.mem_of_getElem? (i := 1000) (by decide +kernel)⟩
theorem lw_p35 : lw_okq (⟨"GivenGoesOnModel", "soonestOf", "(I)I"⟩, 46) := ⟨⟨by decide +kernel, by decide +kernel⟩, List.mem_of_getElem? (i := 678) (by decide +kernel), List.mem_of_getElem? (i := 1007) (by decide +kernel), List.mem_of_getElem? (i := 1008) (by decide +kernel)⟩
theorem lw_p36 : lw_okq (⟨"GivenGoesOnModel", "trapsOf", "()I"⟩, 46) := ⟨⟨by decide +kernel, by decide +kernel⟩, List.mem_of_getElem? (i := 678) (by decide +kernel), List.mem_of_getElem? (i := 1027) (by decide +kernel), List.mem_of_getElem? (i := 1028) (by decide +kernel)⟩
theorem lw_p37 : lw_okq (⟨"GivenGoesOnModel", "tellRound", "(I)I"⟩, 46) := ⟨⟨by decide +kernel, by decide +kernel⟩, List.mem_of_getElem? (i := 678) (by decide +kernel), List.mem_of_getElem? (i := 1037) (by decide +kernel), List.mem_of_getElem? (i := 1038) (by decide +kernel)⟩
theorem lw_p38 : lw_okq (⟨"GivenGoesOnModel", "layRound", "()V"⟩, 46) := ⟨⟨by decide +kernel, by decide +kernel⟩, List.mem_of_getElem? (i := 678) (by decide +kernel), List.mem_of_getElem? (i := 1041) (by decide +kernel), List.mem_of_getElem? (i := 1042) (by decide +kernel)⟩
theorem lw_p39 : lw_okq (⟨"GivenGoesOnModel", "tellStranger", "(III)I"⟩, 46) := ⟨⟨by decide +kernel, by decide +kernel⟩, List.mem_of_getElem? (i := 678) (by decide +kernel), List.mem_of_getElem? (i := 1049) (by decide +kernel), List.mem_of_getElem? (i := 1050) (by decide +kernel)⟩
theorem lw_p40 : lw_okq (⟨"GivenGoesOnModel", "layFar", "(I)V"⟩, 46) := ⟨⟨by decide +kernel, by decide +kernel⟩, List.mem_of_getElem? (i := 678) (by decide +kernel), List.mem_of_getElem? (i := 1053) (by decide +kernel), List.mem_of_getElem? (i := 1054) (by decide +kernel)⟩
theorem lw_p41 : lw_okq (⟨"GivenGoesOnModel", "livesMany", "()I"⟩, 46) := ⟨⟨by decide +kernel, by decide +kernel⟩, List.mem_of_getElem? (i := 678) (by decide +kernel), List.mem_of_getElem? (i := 1064) (by decide +kernel), List.mem_of_getElem? (i := 1065) (by decide +kernel)⟩
theorem lw_p42 : lw_okq (⟨"GivenGoesOnModel", "isYear", "(I)Z"⟩, 46) := ⟨⟨by decide +kernel, by decide +kernel⟩, List.mem_of_getElem? (i := 678) (by decide +kernel), List.mem_of_getElem? (i := 1076) (by decide +kernel), List.mem_of_getElem? (i := 1077) (by decide +kernel)⟩
theorem lw_p43 : lw_okq (⟨"GivenGoesOnModel", "filledOf", "()I"⟩, 46) := ⟨⟨by decide +kernel, by decide +kernel⟩, List.mem_of_getElem? (i := 678) (by decide +kernel), List.mem_of_getElem? (i := 1084) (by decide +kernel), List.mem_of_getElem? (i := 1085) (by decide +kernel)⟩
theorem lw_p44 : lw_okq (⟨"GivenGoesOnModel", "countOf", "(I)I"⟩, 46) := ⟨⟨by decide +kernel, by decide +kernel⟩, List.mem_of_getElem? (i := 678) (by decide +kernel), List.mem_of_getElem? (i := 1104) (by decide +kernel), List.mem_of_getElem? (i := 1105) (by decide +kernel)⟩
theorem lw_p45 : lw_okq (⟨"GivenGoesOnModel", "say", "(J)V"⟩, 46) := ⟨⟨by decide +kernel, by decide +kernel⟩, List.mem_of_getElem? (i := 678) (by decide +kernel), List.mem_of_getElem? (i := 1113) (by decide +kernel), List.mem_of_getElem? (i := 1114) (by decide +kernel)⟩
theorem lw_p46 : lw_okq (⟨"GivenGoesOnModel", "sayGift", "(I)V"⟩, 46) := ⟨⟨by decide +kernel, by decide +kernel⟩, List.mem_of_getElem? (i := 678) (by decide +kernel), List.mem_of_getElem? (i := 1118) (by decide +kernel), List.mem_of_getElem? (i := 1119) (by decide +kernel)⟩
def lw_privs_3 : List (MethodName × Nat) := [(⟨"GivenGoesOnModel", "layWays", "(I)V"⟩, 46), (⟨"GivenGoesOnModel", "beginWays", "(I)V"⟩, 46), (⟨"GivenGoesOnModel", "goAll", "(IZ)J"⟩, 46), (⟨"GivenGoesOnModel", "soonestOf", "(I)I"⟩, 46), (⟨"GivenGoesOnModel", "trapsOf", "()I"⟩, 46), (⟨"GivenGoesOnModel", "tellRound", "(I)I"⟩, 46), (⟨"GivenGoesOnModel", "layRound", "()V"⟩, 46), (⟨"GivenGoesOnModel", "tellStranger", "(III)I"⟩, 46), (⟨"GivenGoesOnModel", "layFar", "(I)V"⟩, 46), (⟨"GivenGoesOnModel", "livesMany", "()I"⟩, 46), (⟨"GivenGoesOnModel", "isYear", "(I)Z"⟩, 46), (⟨"GivenGoesOnModel", "filledOf", "()I"⟩, 46), (⟨"GivenGoesOnModel", "countOf", "(I)I"⟩, 46), (⟨"GivenGoesOnModel", "say", "(J)V"⟩, 46), (⟨"GivenGoesOnModel", "sayGift", "(I)V"⟩, 46)]
theorem lw_r3 : ∀ q ∈ lw_privs_3, lw_okq q := List.forall_mem_cons.mpr ⟨lw_p32, List.forall_mem_cons.mpr ⟨lw_p33, List.forall_mem_cons.mpr ⟨lw_p34, List.forall_mem_cons.mpr ⟨lw_p35, List.forall_mem_cons.mpr ⟨lw_p36, List.forall_mem_cons.mpr ⟨lw_p37, List.forall_mem_cons.mpr ⟨lw_p38, List.forall_mem_cons.mpr ⟨lw_p39, List.forall_mem_cons.mpr ⟨lw_p40, List.forall_mem_cons.mpr ⟨lw_p41, List.forall_mem_cons.mpr ⟨lw_p42, List.forall_mem_cons.mpr ⟨lw_p43, List.forall_mem_cons.mpr ⟨lw_p44, List.forall_mem_cons.mpr ⟨lw_p45, List.forall_mem_cons.mpr ⟨lw_p46, fun _ h => absurd h List.not_mem_nil⟩⟩⟩⟩⟩⟩⟩⟩⟩⟩⟩⟩⟩⟩⟩
def lw_privs : List (MethodName × Nat) := lw_privs_1 ++ (lw_privs_2 ++ (lw_privs_3))
def lw_tbl : List Cond := k2_sels lw_privs ++ tables_1
theorem lw_privs_ok : ∀ q ∈ lw_privs, lw_okq q := by
  show ∀ q ∈ lw_privs_1 ++ (lw_privs_2 ++ (lw_privs_3)), lw_okq q
  exact List.forall_mem_append.mpr ⟨lw_r1, List.forall_mem_append.mpr ⟨lw_r2, lw_r3⟩⟩
end
section
def RX0 : String := "GivenGoesOn$Book"
def TX0 : u_T := fun k => match k with
  | 0 => ("GivenGoesOn$Book", "written", "[I", true)
  | 1 => ("GivenGoesOn$Book", "home", "I", false)
  | _ => ("GivenGoesOn$Book", "length", "I", false)
def tyX0 : Nat → FieldType := fun k => match k with
  | 0 => .array .int
  | 1 => .int
  | _ => .int
theorem nmX0 : ∀ a, a < 3 → ∀ b, b < 3 → a ≠ b → (TX0 a).2.1 ≠ (TX0 b).2.1 := by decide +kernel
theorem tyX0_ok : ∀ k, k < 3 → parseFieldDescriptor (TX0 k).2.2.1 = some (tyX0 k) := by decide +kernel
abbrev cX0_init : ByteArray := prog_2_method_1_code
def yX0_init : MethodName := ⟨RX0, "<init>", "()V"⟩
abbrev cX0_isOpen : ByteArray := prog_2_method_2_code
def yX0_isOpen : MethodName := ⟨RX0, "isOpen", "()Z"⟩
abbrev cX0_hasYear : ByteArray := prog_2_method_3_code
def yX0_hasYear : MethodName := ⟨RX0, "hasYear", "(I)Z"⟩
abbrev cX0_begin : ByteArray := prog_2_method_4_code
def yX0_begin : MethodName := ⟨RX0, "begin", "(II)V"⟩
abbrev cX0_fillings : ByteArray := prog_2_method_5_code
def yX0_fillings : MethodName := ⟨RX0, "fillings", "(LGivenGoesOn$World;LGivenGoesOn$Walks;)I"⟩
abbrev cX0_onlyOneIn : ByteArray := prog_2_method_6_code
def yX0_onlyOneIn : MethodName := ⟨RX0, "onlyOneIn", "(ILGivenGoesOn$World;LGivenGoesOn$Walks;)I"⟩
def RX1 : String := "GivenGoesOn$Circle"
def TX1 : u_T := fun k => match k with
  | 0 => ("GivenGoesOn$Circle", "most", "[I", true)
  | _ => ("GivenGoesOn$Circle", "to", "[I", true)
def tyX1 : Nat → FieldType := fun k => match k with
  | 0 => .array .int
  | _ => .array .int
theorem nmX1 : ∀ a, a < 2 → ∀ b, b < 2 → a ≠ b → (TX1 a).2.1 ≠ (TX1 b).2.1 := by decide +kernel
theorem tyX1_ok : ∀ k, k < 2 → parseFieldDescriptor (TX1 k).2.2.1 = some (tyX1 k) := by decide +kernel
abbrev cX1_init : ByteArray := prog_3_method_1_code
def yX1_init : MethodName := ⟨RX1, "<init>", "()V"⟩
abbrev cX1_find : ByteArray := prog_3_method_2_code
def yX1_find : MethodName := ⟨RX1, "find", "(LGivenGoesOn$World;)V"⟩
abbrev cX1_mostBehind : ByteArray := prog_3_method_3_code
def yX1_mostBehind : MethodName := ⟨RX1, "mostBehind", "(LGivenGoesOn$World;I)I"⟩
abbrev cX1_firstOfMost : ByteArray := prog_3_method_4_code
def yX1_firstOfMost : MethodName := ⟨RX1, "firstOfMost", "(LGivenGoesOn$World;I)I"⟩
abbrev cX1_mostBy : ByteArray := prog_3_method_5_code
def yX1_mostBy : MethodName := ⟨RX1, "mostBy", "(LGivenGoesOn$World;II)I"⟩
abbrev cX1_isThere : ByteArray := prog_3_method_6_code
def yX1_isThere : MethodName := ⟨RX1, "isThere", "()Z"⟩
abbrev cX1_likingTogether : ByteArray := prog_3_method_7_code
def yX1_likingTogether : MethodName := ⟨RX1, "likingTogether", "()I"⟩
def RX2 : String := "GivenGoesOn$Draws"
def TX2 : u_T := fun k => match k with
  | _ => ("GivenGoesOn$Draws", "seed", "J", false)
def tyX2 : Nat → FieldType := fun k => match k with
  | _ => .long
theorem nmX2 : ∀ a, a < 1 → ∀ b, b < 1 → a ≠ b → (TX2 a).2.1 ≠ (TX2 b).2.1 := by decide +kernel
theorem tyX2_ok : ∀ k, k < 1 → parseFieldDescriptor (TX2 k).2.2.1 = some (tyX2 k) := by decide +kernel
abbrev cX2_init : ByteArray := prog_4_method_1_code
def yX2_init : MethodName := ⟨RX2, "<init>", "()V"⟩
abbrev cX2_oneOf : ByteArray := prog_4_method_2_code
def yX2_oneOf : MethodName := ⟨RX2, "oneOf", "(I)I"⟩
def RX3 : String := "GivenGoesOn$Gift"
def TX3 : u_T := fun k => match k with
  | 0 => ("GivenGoesOn$Gift", "kind", "I", false)
  | 1 => ("GivenGoesOn$Gift", "home", "I", false)
  | 2 => ("GivenGoesOn$Gift", "holder", "I", false)
  | 3 => ("GivenGoesOn$Gift", "from", "I", false)
  | 4 => ("GivenGoesOn$Gift", "wear", "I", false)
  | 5 => ("GivenGoesOn$Gift", "age", "I", false)
  | 6 => ("GivenGoesOn$Gift", "fate", "I", false)
  | _ => ("GivenGoesOn$Gift", "hands", "I", false)
def tyX3 : Nat → FieldType := fun k => match k with
  | 0 => .int
  | 1 => .int
  | 2 => .int
  | 3 => .int
  | 4 => .int
  | 5 => .int
  | 6 => .int
  | _ => .int
theorem nmX3 : ∀ a, a < 8 → ∀ b, b < 8 → a ≠ b → (TX3 a).2.1 ≠ (TX3 b).2.1 := by decide +kernel
theorem tyX3_ok : ∀ k, k < 8 → parseFieldDescriptor (TX3 k).2.2.1 = some (tyX3 k) := by decide +kernel
abbrev cX3_init : ByteArray := prog_5_method_1_code
def yX3_init : MethodName := ⟨RX3, "<init>", "()V"⟩
abbrev cX3_begin : ByteArray := prog_5_method_2_code
def yX3_begin : MethodName := ⟨RX3, "begin", "(II)V"⟩
abbrev cX3_copyFrom : ByteArray := prog_5_method_3_code
def yX3_copyFrom : MethodName := ⟨RX3, "copyFrom", "(LGivenGoesOn$Gift;)V"⟩
abbrev cX3_lives : ByteArray := prog_5_method_4_code
def yX3_lives : MethodName := ⟨RX3, "lives", "()Z"⟩
abbrev cX3_isOf : ByteArray := prog_5_method_5_code
def yX3_isOf : MethodName := ⟨RX3, "isOf", "(I)Z"⟩
abbrev cX3_worth : ByteArray := prog_5_method_6_code
def yX3_worth : MethodName := ⟨RX3, "worth", "()I"⟩
abbrev cX3_mustGo : ByteArray := prog_5_method_7_code
def yX3_mustGo : MethodName := ⟨RX3, "mustGo", "(I)Z"⟩
abbrev cX3_moveTo : ByteArray := prog_5_method_8_code
def yX3_moveTo : MethodName := ⟨RX3, "moveTo", "(II)V"⟩
def RX4 : String := "GivenGoesOn$Law"
def TX4 : u_T := fun k => match k with
  | 0 => ("GivenGoesOn$Law", "keep", "I", false)
  | 1 => ("GivenGoesOn$Law", "back", "Z", false)
  | 2 => ("GivenGoesOn$Law", "one", "Z", false)
  | _ => ("GivenGoesOn$Law", "most", "I", false)
def tyX4 : Nat → FieldType := fun k => match k with
  | 0 => .int
  | 1 => .boolean
  | 2 => .boolean
  | _ => .int
theorem nmX4 : ∀ a, a < 4 → ∀ b, b < 4 → a ≠ b → (TX4 a).2.1 ≠ (TX4 b).2.1 := by decide +kernel
theorem tyX4_ok : ∀ k, k < 4 → parseFieldDescriptor (TX4 k).2.2.1 = some (tyX4 k) := by decide +kernel
abbrev cX4_init : ByteArray := prog_6_method_1_code
def yX4_init : MethodName := ⟨RX4, "<init>", "()V"⟩
abbrev cX4_readFrom : ByteArray := prog_6_method_2_code
def yX4_readFrom : MethodName := ⟨RX4, "readFrom", "(LGivenGoesOn$Page;)V"⟩
def RX5 : String := "GivenGoesOn$Page"
def TX5 : u_T := fun k => match k with
  | 0 => ("GivenGoesOn$Page", "letter", "[I", true)
  | _ => ("GivenGoesOn$Page", "size", "I", false)
def tyX5 : Nat → FieldType := fun k => match k with
  | 0 => .array .int
  | _ => .int
theorem nmX5 : ∀ a, a < 2 → ∀ b, b < 2 → a ≠ b → (TX5 a).2.1 ≠ (TX5 b).2.1 := by decide +kernel
theorem tyX5_ok : ∀ k, k < 2 → parseFieldDescriptor (TX5 k).2.2.1 = some (tyX5 k) := by decide +kernel
abbrev cX5_init : ByteArray := prog_7_method_1_code
def yX5_init : MethodName := ⟨RX5, "<init>", "()V"⟩
abbrev cX5_lettersIn : ByteArray := prog_7_method_2_code
def yX5_lettersIn : MethodName := ⟨RX5, "lettersIn", "(J)I"⟩
abbrev cX5_byteOf : ByteArray := prog_7_method_3_code
def yX5_byteOf : MethodName := ⟨RX5, "byteOf", "(JI)I"⟩
abbrev cX5_append : ByteArray := prog_7_method_4_code
def yX5_append : MethodName := ⟨RX5, "append", "(JI)V"⟩
abbrev cX5_firstFault : ByteArray := prog_7_method_5_code
def yX5_firstFault : MethodName := ⟨RX5, "firstFault", "()I"⟩
abbrev cX5_isLaw : ByteArray := prog_7_method_6_code
def yX5_isLaw : MethodName := ⟨RX5, "isLaw", "()Z"⟩
abbrev cX5_behind : ByteArray := prog_7_method_7_code
def yX5_behind : MethodName := ⟨RX5, "behind", "(II)I"⟩
def RX6 : String := "GivenGoesOn$Walks"
def TX6 : u_T := fun k => match k with
  | 0 => ("GivenGoesOn$Walks", "now", "[J", true)
  | _ => ("GivenGoesOn$Walks", "next", "[J", true)
def tyX6 : Nat → FieldType := fun k => match k with
  | 0 => .array .long
  | _ => .array .long
theorem nmX6 : ∀ a, a < 2 → ∀ b, b < 2 → a ≠ b → (TX6 a).2.1 ≠ (TX6 b).2.1 := by decide +kernel
theorem tyX6_ok : ∀ k, k < 2 → parseFieldDescriptor (TX6 k).2.2.1 = some (tyX6 k) := by decide +kernel
abbrev cX6_init : ByteArray := prog_8_method_1_code
def yX6_init : MethodName := ⟨RX6, "<init>", "()V"⟩
abbrev cX6_begin : ByteArray := prog_8_method_2_code
def yX6_begin : MethodName := ⟨RX6, "begin", "(II)V"⟩
abbrev cX6_goOn : ByteArray := prog_8_method_3_code
def yX6_goOn : MethodName := ⟨RX6, "goOn", "(LGivenGoesOn$World;ZIZ)J"⟩
abbrev cX6_spread : ByteArray := prog_8_method_4_code
def yX6_spread : MethodName := ⟨RX6, "spread", "(JII)V"⟩
abbrev cX6_keepOnly : ByteArray := prog_8_method_5_code
def yX6_keepOnly : MethodName := ⟨RX6, "keepOnly", "(I)V"⟩
abbrev cX6_sum : ByteArray := prog_8_method_6_code
def yX6_sum : MethodName := ⟨RX6, "sum", "()J"⟩
abbrev cX6_spot : ByteArray := prog_8_method_7_code
def yX6_spot : MethodName := ⟨RX6, "spot", "(II)I"⟩
abbrev cX6_clear : ByteArray := prog_8_method_8_code
def yX6_clear : MethodName := ⟨RX6, "clear", "([J)V"⟩
def RX7 : String := "GivenGoesOn$World"
def TX7 : u_T := fun k => match k with
  | 0 => ("GivenGoesOn$World", "people", "I", false)
  | 1 => ("GivenGoesOn$World", "habit", "[I", true)
  | 2 => ("GivenGoesOn$World", "known", "[I", true)
  | 3 => ("GivenGoesOn$World", "feasts", "[I", true)
  | 4 => ("GivenGoesOn$World", "liking", "[I", true)
  | 5 => ("GivenGoesOn$World", "owed", "[I", true)
  | 6 => ("GivenGoesOn$World", "gifts", "I", false)
  | 7 => ("GivenGoesOn$World", "row", "[LGivenGoesOn$Gift;", true)
  | _ => ("GivenGoesOn$World", "yearsGone", "I", false)
def tyX7 : Nat → FieldType := fun k => match k with
  | 0 => .int
  | 1 => .array .int
  | 2 => .array .int
  | 3 => .array .int
  | 4 => .array .int
  | 5 => .array .int
  | 6 => .int
  | 7 => .array (.object "GivenGoesOn$Gift")
  | _ => .int
theorem nmX7 : ∀ a, a < 9 → ∀ b, b < 9 → a ≠ b → (TX7 a).2.1 ≠ (TX7 b).2.1 := by decide +kernel
theorem tyX7_ok : ∀ k, k < 9 → parseFieldDescriptor (TX7 k).2.2.1 = some (tyX7 k) := by decide +kernel
abbrev cX7_init : ByteArray := prog_9_method_1_code
def yX7_init : MethodName := ⟨RX7, "<init>", "()V"⟩
abbrev cX7_copyFrom : ByteArray := prog_9_method_2_code
def yX7_copyFrom : MethodName := ⟨RX7, "copyFrom", "(LGivenGoesOn$World;)V"⟩
abbrev cX7_addPerson : ByteArray := prog_9_method_3_code
def yX7_addPerson : MethodName := ⟨RX7, "addPerson", "(I)I"⟩
abbrev cX7_addGift : ByteArray := prog_9_method_4_code
def yX7_addGift : MethodName := ⟨RX7, "addGift", "(II)I"⟩
abbrev cX7_knows : ByteArray := prog_9_method_5_code
def yX7_knows : MethodName := ⟨RX7, "knows", "(II)Z"⟩
abbrev cX7_setKnown : ByteArray := prog_9_method_6_code
def yX7_setKnown : MethodName := ⟨RX7, "setKnown", "(IIZ)V"⟩
abbrev cX7_heldBy : ByteArray := prog_9_method_7_code
def yX7_heldBy : MethodName := ⟨RX7, "heldBy", "(I)I"⟩
abbrev cX7_living : ByteArray := prog_9_method_8_code
def yX7_living : MethodName := ⟨RX7, "living", "()I"⟩
abbrev cX7_allFeasts : ByteArray := prog_9_method_9_code
def yX7_allFeasts : MethodName := ⟨RX7, "allFeasts", "()I"⟩
abbrev cX7_balance : ByteArray := prog_9_method_10_code
def yX7_balance : MethodName := ⟨RX7, "balance", "(I)I"⟩
abbrev cX7_mayHave : ByteArray := prog_9_method_11_code
def yX7_mayHave : MethodName := ⟨RX7, "mayHave", "(IIZ)I"⟩
abbrev cX7_handOn : ByteArray := prog_9_method_12_code
def yX7_handOn : MethodName := ⟨RX7, "handOn", "(LGivenGoesOn$Gift;II)V"⟩
abbrev cX7_passYear : ByteArray := prog_9_method_13_code
def yX7_passYear : MethodName := ⟨RX7, "passYear", "(LGivenGoesOn$Law;LGivenGoesOn$Draws;)I"⟩
abbrev cX7_chosenBy : ByteArray := prog_9_method_14_code
def yX7_chosenBy : MethodName := ⟨RX7, "chosenBy", "(II)I"⟩
abbrev cX7_markOf : ByteArray := prog_9_method_15_code
def yX7_markOf : MethodName := ⟨RX7, "markOf", "(II)I"⟩
abbrev cX7_handsBetween : ByteArray := prog_9_method_16_code
def yX7_handsBetween : MethodName := ⟨RX7, "handsBetween", "(II)I"⟩
abbrev cX7_knownByAny : ByteArray := prog_9_method_17_code
def yX7_knownByAny : MethodName := ⟨RX7, "knownByAny", "(I)I"⟩
abbrev cX7_firstBetween : ByteArray := prog_9_method_18_code
def yX7_firstBetween : MethodName := ⟨RX7, "firstBetween", "(II)I"⟩
def RX8 : String := "GivenGoesOn"
def TX8 : u_T := fun k => match k with
  | 0 => ("GivenGoesOn", "page", "LGivenGoesOn$Page;", true)
  | 1 => ("GivenGoesOn", "law", "LGivenGoesOn$Law;", true)
  | 2 => ("GivenGoesOn", "world", "LGivenGoesOn$World;", true)
  | 3 => ("GivenGoesOn", "kept", "LGivenGoesOn$World;", true)
  | 4 => ("GivenGoesOn", "trial", "LGivenGoesOn$World;", true)
  | 5 => ("GivenGoesOn", "draws", "LGivenGoesOn$Draws;", true)
  | 6 => ("GivenGoesOn", "walks", "LGivenGoesOn$Walks;", true)
  | 7 => ("GivenGoesOn", "circle", "LGivenGoesOn$Circle;", true)
  | 8 => ("GivenGoesOn", "book", "LGivenGoesOn$Book;", true)
  | 9 => ("GivenGoesOn", "lawsRead", "I", false)
  | _ => ("GivenGoesOn", "hasImage", "Z", false)
def tyX8 : Nat → FieldType := fun k => match k with
  | 0 => .object "GivenGoesOn$Page"
  | 1 => .object "GivenGoesOn$Law"
  | 2 => .object "GivenGoesOn$World"
  | 3 => .object "GivenGoesOn$World"
  | 4 => .object "GivenGoesOn$World"
  | 5 => .object "GivenGoesOn$Draws"
  | 6 => .object "GivenGoesOn$Walks"
  | 7 => .object "GivenGoesOn$Circle"
  | 8 => .object "GivenGoesOn$Book"
  | 9 => .int
  | _ => .boolean
theorem nmX8 : ∀ a, a < 11 → ∀ b, b < 11 → a ≠ b → (TX8 a).2.1 ≠ (TX8 b).2.1 := by decide +kernel
theorem tyX8_ok : ∀ k, k < 11 → parseFieldDescriptor (TX8 k).2.2.1 = some (tyX8 k) := by decide +kernel
abbrev cX8_init : ByteArray := prog_1_method_1_code
def yX8_init : MethodName := ⟨RX8, "<init>", "()V"⟩
abbrev cX8_letters : ByteArray := prog_1_method_2_code
def yX8_letters : MethodName := ⟨RX8, "letters", "(J)I"⟩
abbrev cX8_blank : ByteArray := prog_1_method_3_code
def yX8_blank : MethodName := ⟨RX8, "blank", "()I"⟩
abbrev cX8_fault : ByteArray := prog_1_method_4_code
def yX8_fault : MethodName := ⟨RX8, "fault", "()I"⟩
abbrev cX8_law : ByteArray := prog_1_method_5_code
def yX8_law : MethodName := ⟨RX8, "law", "()I"⟩
abbrev cX8_lawTold : ByteArray := prog_1_method_6_code
def yX8_lawTold : MethodName := ⟨RX8, "lawTold", "(I)I"⟩
abbrev cX8_person : ByteArray := prog_1_method_7_code
def yX8_person : MethodName := ⟨RX8, "person", "(I)I"⟩
abbrev cX8_know : ByteArray := prog_1_method_8_code
def yX8_know : MethodName := ⟨RX8, "know", "(IIZ)I"⟩
abbrev cX8_like : ByteArray := prog_1_method_9_code
def yX8_like : MethodName := ⟨RX8, "like", "(III)I"⟩
abbrev cX8_about : ByteArray := prog_1_method_10_code
def yX8_about : MethodName := ⟨RX8, "about", "(II)I"⟩
abbrev cX8_owes : ByteArray := prog_1_method_11_code
def yX8_owes : MethodName := ⟨RX8, "owes", "(II)I"⟩
abbrev cX8_rest : ByteArray := prog_1_method_12_code
def yX8_rest : MethodName := ⟨RX8, "rest", "(I)I"⟩
abbrev cX8_gift : ByteArray := prog_1_method_13_code
def yX8_gift : MethodName := ⟨RX8, "gift", "(II)I"⟩
abbrev cX8_told : ByteArray := prog_1_method_14_code
def yX8_told : MethodName := ⟨RX8, "told", "(II)I"⟩
abbrev cX8_as : ByteArray := prog_1_method_15_code
def yX8_as : MethodName := ⟨RX8, "as", "(II)I"⟩
abbrev cX8_may : ByteArray := prog_1_method_16_code
def yX8_may : MethodName := ⟨RX8, "may", "(I)I"⟩
abbrev cX8_give : ByteArray := prog_1_method_17_code
def yX8_give : MethodName := ⟨RX8, "give", "(II)I"⟩
abbrev cX8_years : ByteArray := prog_1_method_18_code
def yX8_years : MethodName := ⟨RX8, "years", "(I)I"⟩
abbrev cX8_ways : ByteArray := prog_1_method_19_code
def yX8_ways : MethodName := ⟨RX8, "ways", "(II)I"⟩
abbrev cX8_soonest : ByteArray := prog_1_method_20_code
def yX8_soonest : MethodName := ⟨RX8, "soonest", "(I)I"⟩
abbrev cX8_likely : ByteArray := prog_1_method_21_code
def yX8_likely : MethodName := ⟨RX8, "likely", "(III)J"⟩
abbrev cX8_traps : ByteArray := prog_1_method_22_code
def yX8_traps : MethodName := ⟨RX8, "traps", "()I"⟩
abbrev cX8_round : ByteArray := prog_1_method_23_code
def yX8_round : MethodName := ⟨RX8, "round", "(I)I"⟩
abbrev cX8_stranger : ByteArray := prog_1_method_24_code
def yX8_stranger : MethodName := ⟨RX8, "stranger", "(III)I"⟩
abbrev cX8_drawn : ByteArray := prog_1_method_25_code
def yX8_drawn : MethodName := ⟨RX8, "drawn", "(III)I"⟩
abbrev cX8_open : ByteArray := prog_1_method_26_code
def yX8_open : MethodName := ⟨RX8, "open", "(II)I"⟩
abbrev cX8_write : ByteArray := prog_1_method_27_code
def yX8_write : MethodName := ⟨RX8, "write", "(II)I"⟩
abbrev cX8_filled : ByteArray := prog_1_method_28_code
def yX8_filled : MethodName := ⟨RX8, "filled", "()I"⟩
abbrev cX8_sure : ByteArray := prog_1_method_29_code
def yX8_sure : MethodName := ⟨RX8, "sure", "(I)I"⟩
abbrev cX8_image : ByteArray := prog_1_method_30_code
def yX8_image : MethodName := ⟨RX8, "image", "()I"⟩
abbrev cX8_restore : ByteArray := prog_1_method_31_code
def yX8_restore : MethodName := ⟨RX8, "restore", "()I"⟩
abbrev cX8_count : ByteArray := prog_1_method_32_code
def yX8_count : MethodName := ⟨RX8, "count", "(I)I"⟩
abbrev cX8_digest : ByteArray := prog_1_method_33_code
def yX8_digest : MethodName := ⟨RX8, "digest", "()J"⟩
abbrev cX8_withPerson : ByteArray := prog_1_method_34_code
def yX8_withPerson : MethodName := ⟨RX8, "withPerson", "(JI)J"⟩
abbrev cX8_withGift : ByteArray := prog_1_method_35_code
def yX8_withGift : MethodName := ⟨RX8, "withGift", "(JI)J"⟩
abbrev cX8_isPerson : ByteArray := prog_1_method_36_code
def yX8_isPerson : MethodName := ⟨RX8, "isPerson", "(I)Z"⟩
abbrev cX8_areTwo : ByteArray := prog_1_method_37_code
def yX8_areTwo : MethodName := ⟨RX8, "areTwo", "(II)Z"⟩
abbrev cX8_isGift : ByteArray := prog_1_method_38_code
def yX8_isGift : MethodName := ⟨RX8, "isGift", "(I)Z"⟩
abbrev cX8_whoMayHave : ByteArray := prog_1_method_39_code
def yX8_whoMayHave : MethodName := ⟨RX8, "whoMayHave", "(I)I"⟩
abbrev cX8_mixed : ByteArray := prog_1_method_40_code
def yX8_mixed : MethodName := ⟨RX8, "mixed", "(JJ)J"⟩
abbrev cX8_within : ByteArray := prog_1_method_41_code
def yX8_within : MethodName := ⟨RX8, "within", "(III)Z"⟩
abbrev cX8_pair : ByteArray := prog_1_method_42_code
def yX8_pair : MethodName := ⟨RX8, "pair", "(II)I"⟩
abbrev cX8_bit : ByteArray := prog_1_method_43_code
def yX8_bit : MethodName := ⟨RX8, "bit", "(I)I"⟩
abbrev cX8_greatestCommon : ByteArray := prog_1_method_44_code
def yX8_greatestCommon : MethodName := ⟨RX8, "greatestCommon", "(JJ)J"⟩
def RX9 : String := "GivenGoesOnModel"
def TX9 : u_T := fun k => match k with
  | 0 => ("GivenGoesOnModel", "page", "[I", true)
  | 1 => ("GivenGoesOnModel", "pageMany", "I", false)
  | 2 => ("GivenGoesOnModel", "keep", "I", false)
  | 3 => ("GivenGoesOnModel", "isBack", "I", false)
  | 4 => ("GivenGoesOnModel", "isOne", "I", false)
  | 5 => ("GivenGoesOnModel", "most", "I", false)
  | 6 => ("GivenGoesOnModel", "lawsRead", "I", false)
  | 7 => ("GivenGoesOnModel", "state", "I", false)
  | 8 => ("GivenGoesOnModel", "readKeep", "I", false)
  | 9 => ("GivenGoesOnModel", "readBack", "I", false)
  | 10 => ("GivenGoesOnModel", "readOne", "I", false)
  | 11 => ("GivenGoesOnModel", "readMost", "I", false)
  | 12 => ("GivenGoesOnModel", "people", "I", false)
  | 13 => ("GivenGoesOnModel", "habits", "[I", true)
  | 14 => ("GivenGoesOnModel", "knows", "[I", true)
  | 15 => ("GivenGoesOnModel", "likes", "[I", true)
  | 16 => ("GivenGoesOnModel", "owed", "[I", true)
  | 17 => ("GivenGoesOnModel", "feasts", "[I", true)
  | 18 => ("GivenGoesOnModel", "feastMany", "I", false)
  | 19 => ("GivenGoesOnModel", "yearsGone", "I", false)
  | 20 => ("GivenGoesOnModel", "gifts", "I", false)
  | 21 => ("GivenGoesOnModel", "rows", "[I", true)
  | 22 => ("GivenGoesOnModel", "seedNow", "I", false)
  | 23 => ("GivenGoesOnModel", "gave", "[I", true)
  | 24 => ("GivenGoesOnModel", "now", "[J", true)
  | 25 => ("GivenGoesOnModel", "next", "[J", true)
  | 26 => ("GivenGoesOnModel", "home", "[J", true)
  | 27 => ("GivenGoesOnModel", "best", "[I", true)
  | 28 => ("GivenGoesOnModel", "givesTo", "[I", true)
  | 29 => ("GivenGoesOnModel", "far", "[I", true)
  | 30 => ("GivenGoesOnModel", "savedRows", "[I", true)
  | 31 => ("GivenGoesOnModel", "savedOwed", "[I", true)
  | 32 => ("GivenGoesOnModel", "savedFeasts", "[I", true)
  | 33 => ("GivenGoesOnModel", "bookBy", "I", false)
  | 34 => ("GivenGoesOnModel", "bookYears", "I", false)
  | 35 => ("GivenGoesOnModel", "writtenIn", "[I", true)
  | 36 => ("GivenGoesOnModel", "keptGifts", "I", false)
  | 37 => ("GivenGoesOnModel", "keptPeople", "I", false)
  | 38 => ("GivenGoesOnModel", "keptFeastMany", "I", false)
  | 39 => ("GivenGoesOnModel", "keptYears", "I", false)
  | 40 => ("GivenGoesOnModel", "keptRows", "[I", true)
  | 41 => ("GivenGoesOnModel", "keptOwed", "[I", true)
  | 42 => ("GivenGoesOnModel", "keptLikes", "[I", true)
  | 43 => ("GivenGoesOnModel", "keptKnows", "[I", true)
  | 44 => ("GivenGoesOnModel", "keptFeasts", "[I", true)
  | _ => ("GivenGoesOnModel", "hash", "J", false)
def tyX9 : Nat → FieldType := fun k => match k with
  | 0 => .array .int
  | 1 => .int
  | 2 => .int
  | 3 => .int
  | 4 => .int
  | 5 => .int
  | 6 => .int
  | 7 => .int
  | 8 => .int
  | 9 => .int
  | 10 => .int
  | 11 => .int
  | 12 => .int
  | 13 => .array .int
  | 14 => .array .int
  | 15 => .array .int
  | 16 => .array .int
  | 17 => .array .int
  | 18 => .int
  | 19 => .int
  | 20 => .int
  | 21 => .array .int
  | 22 => .int
  | 23 => .array .int
  | 24 => .array .long
  | 25 => .array .long
  | 26 => .array .long
  | 27 => .array .int
  | 28 => .array .int
  | 29 => .array .int
  | 30 => .array .int
  | 31 => .array .int
  | 32 => .array .int
  | 33 => .int
  | 34 => .int
  | 35 => .array .int
  | 36 => .int
  | 37 => .int
  | 38 => .int
  | 39 => .int
  | 40 => .array .int
  | 41 => .array .int
  | 42 => .array .int
  | 43 => .array .int
  | 44 => .array .int
  | _ => .long
theorem nmX9 : ∀ a, a < 46 → ∀ b, b < 46 → a ≠ b → (TX9 a).2.1 ≠ (TX9 b).2.1 := by decide +kernel
theorem tyX9_ok : ∀ k, k < 46 → parseFieldDescriptor (TX9 k).2.2.1 = some (tyX9 k) := by decide +kernel
abbrev cX9_init : ByteArray := prog_11_method_1_code
def yX9_init : MethodName := ⟨RX9, "<init>", "()V"⟩
abbrev cX9_in : ByteArray := prog_11_method_2_code
def yX9_in : MethodName := ⟨RX9, "in", "(JJJ)Z"⟩
abbrev cX9_letters : ByteArray := prog_11_method_3_code
def yX9_letters : MethodName := ⟨RX9, "letters", "(J)I"⟩
abbrev cX9_blank : ByteArray := prog_11_method_4_code
def yX9_blank : MethodName := ⟨RX9, "blank", "()I"⟩
abbrev cX9_go : ByteArray := prog_11_method_5_code
def yX9_go : MethodName := ⟨RX9, "go", "(I)Z"⟩
abbrev cX9_faultOf : ByteArray := prog_11_method_6_code
def yX9_faultOf : MethodName := ⟨RX9, "faultOf", "()I"⟩
abbrev cX9_fault : ByteArray := prog_11_method_7_code
def yX9_fault : MethodName := ⟨RX9, "fault", "()I"⟩
abbrev cX9_law : ByteArray := prog_11_method_8_code
def yX9_law : MethodName := ⟨RX9, "law", "()I"⟩
abbrev cX9_tellLaw : ByteArray := prog_11_method_9_code
def yX9_tellLaw : MethodName := ⟨RX9, "tellLaw", "(I)I"⟩
abbrev cX9_lawTold : ByteArray := prog_11_method_10_code
def yX9_lawTold : MethodName := ⟨RX9, "lawTold", "(I)I"⟩
abbrev cX9_isPerson : ByteArray := prog_11_method_11_code
def yX9_isPerson : MethodName := ⟨RX9, "isPerson", "(I)Z"⟩
abbrev cX9_arePair : ByteArray := prog_11_method_12_code
def yX9_arePair : MethodName := ⟨RX9, "arePair", "(II)Z"⟩
abbrev cX9_person : ByteArray := prog_11_method_13_code
def yX9_person : MethodName := ⟨RX9, "person", "(I)I"⟩
abbrev cX9_know : ByteArray := prog_11_method_14_code
def yX9_know : MethodName := ⟨RX9, "know", "(IIZ)I"⟩
abbrev cX9_like : ByteArray := prog_11_method_15_code
def yX9_like : MethodName := ⟨RX9, "like", "(III)I"⟩
abbrev cX9_isGift : ByteArray := prog_11_method_16_code
def yX9_isGift : MethodName := ⟨RX9, "isGift", "(I)Z"⟩
abbrev cX9_lives : ByteArray := prog_11_method_17_code
def yX9_lives : MethodName := ⟨RX9, "lives", "(I)Z"⟩
abbrev cX9_holds : ByteArray := prog_11_method_18_code
def yX9_holds : MethodName := ⟨RX9, "holds", "(I)I"⟩
abbrev cX9_tellPerson : ByteArray := prog_11_method_19_code
def yX9_tellPerson : MethodName := ⟨RX9, "tellPerson", "(II)I"⟩
abbrev cX9_about : ByteArray := prog_11_method_20_code
def yX9_about : MethodName := ⟨RX9, "about", "(II)I"⟩
abbrev cX9_owes : ByteArray := prog_11_method_21_code
def yX9_owes : MethodName := ⟨RX9, "owes", "(II)I"⟩
abbrev cX9_restOf : ByteArray := prog_11_method_22_code
def yX9_restOf : MethodName := ⟨RX9, "restOf", "(I)I"⟩
abbrev cX9_rest : ByteArray := prog_11_method_23_code
def yX9_rest : MethodName := ⟨RX9, "rest", "(I)I"⟩
abbrev cX9_gift : ByteArray := prog_11_method_24_code
def yX9_gift : MethodName := ⟨RX9, "gift", "(II)I"⟩
abbrev cX9_worthOf : ByteArray := prog_11_method_25_code
def yX9_worthOf : MethodName := ⟨RX9, "worthOf", "(I)I"⟩
abbrev cX9_tellGift : ByteArray := prog_11_method_26_code
def yX9_tellGift : MethodName := ⟨RX9, "tellGift", "(II)I"⟩
abbrev cX9_told : ByteArray := prog_11_method_27_code
def yX9_told : MethodName := ⟨RX9, "told", "(II)I"⟩
abbrev cX9_as : ByteArray := prog_11_method_28_code
def yX9_as : MethodName := ⟨RX9, "as", "(II)I"⟩
abbrev cX9_mayHave : ByteArray := prog_11_method_29_code
def yX9_mayHave : MethodName := ⟨RX9, "mayHave", "(II)I"⟩
abbrev cX9_mayOf : ByteArray := prog_11_method_30_code
def yX9_mayOf : MethodName := ⟨RX9, "mayOf", "(I)I"⟩
abbrev cX9_may : ByteArray := prog_11_method_31_code
def yX9_may : MethodName := ⟨RX9, "may", "(I)I"⟩
abbrev cX9_goOn : ByteArray := prog_11_method_32_code
def yX9_goOn : MethodName := ⟨RX9, "goOn", "(II)I"⟩
abbrev cX9_give : ByteArray := prog_11_method_33_code
def yX9_give : MethodName := ⟨RX9, "give", "(II)I"⟩
abbrev cX9_ones : ByteArray := prog_11_method_34_code
def yX9_ones : MethodName := ⟨RX9, "ones", "(I)I"⟩
abbrev cX9_byHabit : ByteArray := prog_11_method_35_code
def yX9_byHabit : MethodName := ⟨RX9, "byHabit", "(II)I"⟩
abbrev cX9_draw : ByteArray := prog_11_method_36_code
def yX9_draw : MethodName := ⟨RX9, "draw", "(I)I"⟩
abbrev cX9_byDraw : ByteArray := prog_11_method_37_code
def yX9_byDraw : MethodName := ⟨RX9, "byDraw", "(I)I"⟩
abbrev cX9_year : ByteArray := prog_11_method_38_code
def yX9_year : MethodName := ⟨RX9, "year", "(Z)I"⟩
abbrev cX9_years : ByteArray := prog_11_method_39_code
def yX9_years : MethodName := ⟨RX9, "years", "(I)I"⟩
abbrev cX9_goAll : ByteArray := prog_11_method_40_code
def yX9_goAll : MethodName := ⟨RX9, "goAll", "(IZ)J"⟩
abbrev cX9_beginWays : ByteArray := prog_11_method_41_code
def yX9_beginWays : MethodName := ⟨RX9, "beginWays", "(I)V"⟩
abbrev cX9_layWays : ByteArray := prog_11_method_42_code
def yX9_layWays : MethodName := ⟨RX9, "layWays", "(I)V"⟩
abbrev cX9_ways : ByteArray := prog_11_method_43_code
def yX9_ways : MethodName := ⟨RX9, "ways", "(II)I"⟩
abbrev cX9_soonestOf : ByteArray := prog_11_method_44_code
def yX9_soonestOf : MethodName := ⟨RX9, "soonestOf", "(I)I"⟩
abbrev cX9_soonest : ByteArray := prog_11_method_45_code
def yX9_soonest : MethodName := ⟨RX9, "soonest", "(I)I"⟩
abbrev cX9_term : ByteArray := prog_11_method_46_code
def yX9_term : MethodName := ⟨RX9, "term", "(JJI)J"⟩
abbrev cX9_likely : ByteArray := prog_11_method_47_code
def yX9_likely : MethodName := ⟨RX9, "likely", "(III)J"⟩
abbrev cX9_trapsOf : ByteArray := prog_11_method_48_code
def yX9_trapsOf : MethodName := ⟨RX9, "trapsOf", "()I"⟩
abbrev cX9_traps : ByteArray := prog_11_method_49_code
def yX9_traps : MethodName := ⟨RX9, "traps", "()I"⟩
abbrev cX9_layRound : ByteArray := prog_11_method_50_code
def yX9_layRound : MethodName := ⟨RX9, "layRound", "()V"⟩
abbrev cX9_tellRound : ByteArray := prog_11_method_51_code
def yX9_tellRound : MethodName := ⟨RX9, "tellRound", "(I)I"⟩
abbrev cX9_round : ByteArray := prog_11_method_52_code
def yX9_round : MethodName := ⟨RX9, "round", "(I)I"⟩
abbrev cX9_layFar : ByteArray := prog_11_method_53_code
def yX9_layFar : MethodName := ⟨RX9, "layFar", "(I)V"⟩
abbrev cX9_tellStranger : ByteArray := prog_11_method_54_code
def yX9_tellStranger : MethodName := ⟨RX9, "tellStranger", "(III)I"⟩
abbrev cX9_stranger : ByteArray := prog_11_method_55_code
def yX9_stranger : MethodName := ⟨RX9, "stranger", "(III)I"⟩
abbrev cX9_livesMany : ByteArray := prog_11_method_56_code
def yX9_livesMany : MethodName := ⟨RX9, "livesMany", "()I"⟩
abbrev cX9_copy : ByteArray := prog_11_method_57_code
def yX9_copy : MethodName := ⟨RX9, "copy", "([I[II)V"⟩
abbrev cX9_drawn : ByteArray := prog_11_method_58_code
def yX9_drawn : MethodName := ⟨RX9, "drawn", "(III)I"⟩
abbrev cX9_open : ByteArray := prog_11_method_59_code
def yX9_open : MethodName := ⟨RX9, "open", "(II)I"⟩
abbrev cX9_isYear : ByteArray := prog_11_method_60_code
def yX9_isYear : MethodName := ⟨RX9, "isYear", "(I)Z"⟩
abbrev cX9_write : ByteArray := prog_11_method_61_code
def yX9_write : MethodName := ⟨RX9, "write", "(II)I"⟩
abbrev cX9_filledOf : ByteArray := prog_11_method_62_code
def yX9_filledOf : MethodName := ⟨RX9, "filledOf", "()I"⟩
abbrev cX9_filled : ByteArray := prog_11_method_63_code
def yX9_filled : MethodName := ⟨RX9, "filled", "()I"⟩
abbrev cX9_sure : ByteArray := prog_11_method_64_code
def yX9_sure : MethodName := ⟨RX9, "sure", "(I)I"⟩
abbrev cX9_image : ByteArray := prog_11_method_65_code
def yX9_image : MethodName := ⟨RX9, "image", "()I"⟩
abbrev cX9_restore : ByteArray := prog_11_method_66_code
def yX9_restore : MethodName := ⟨RX9, "restore", "()I"⟩
abbrev cX9_countOf : ByteArray := prog_11_method_67_code
def yX9_countOf : MethodName := ⟨RX9, "countOf", "(I)I"⟩
abbrev cX9_count : ByteArray := prog_11_method_68_code
def yX9_count : MethodName := ⟨RX9, "count", "(I)I"⟩
abbrev cX9_say : ByteArray := prog_11_method_69_code
def yX9_say : MethodName := ⟨RX9, "say", "(J)V"⟩
abbrev cX9_sayGift : ByteArray := prog_11_method_70_code
def yX9_sayGift : MethodName := ⟨RX9, "sayGift", "(I)V"⟩
abbrev cX9_digest : ByteArray := prog_11_method_71_code
def yX9_digest : MethodName := ⟨RX9, "digest", "()J"⟩
def RJ6 : String := "java/lang/Integer"
abbrev cJ6_bitCount_0f7a4 : ByteArray := prog_12_method_49_code
def yJ6_bitCount_0f7a4 : MethodName := ⟨RJ6, "bitCount", "(I)I"⟩
def RJ9 : String := "java/lang/Math"
abbrev cJ9_max_7cf53 : ByteArray := prog_13_method_65_code
def yJ9_max_7cf53 : MethodName := ⟨RJ9, "max", "(II)I"⟩
abbrev cJ9_min_7cf53 : ByteArray := prog_13_method_69_code
def yJ9_min_7cf53 : MethodName := ⟨RJ9, "min", "(II)I"⟩
def RJ10 : String := "java/lang/System"
def RL : String := "GivenGoesOnLaw"
abbrev cL_law : ByteArray := code
abbrev vwCl : List vw_C := [(RX0, TX0, 3), (RX1, TX1, 2), (RX2, TX2, 1), (RX3, TX3, 8), (RX4, TX4, 4), (RX5, TX5, 2), (RX6, TX6, 2), (RX7, TX7, 9), (RX8, TX8, 11), (RX9, TX9, 46)]
end
section
/-! THE STATE of both programs once all is made: every cell by a number of its own (below NN); references never change, so they stand in tables. -/
def NN : Nat := 82
def kdL : List Nat := [1, 1, 2, 1, 1, 2, 2, 2, 2, 2, 4, 1, 1, 1, 1, 1, 1, 1, 1, 1, 2, 2, 2, 2, 2, 4, 1, 1, 1, 1, 1, 1, 1, 1, 1, 2, 2, 2, 2, 2, 4, 1, 1, 1, 1, 1, 1, 1, 1, 1, 1, 3, 3, 1, 2, 2, 1, 2, 1, 2, 2, 2, 2, 2, 2, 2, 2, 3, 3, 3, 2, 2, 2, 2, 2, 2, 2, 2, 2, 2, 2, 2]
def clL : List Nat := [8, 5, 0, 4, 7, 0, 0, 0, 0, 0, 0, 3, 3, 3, 3, 3, 3, 3, 3, 7, 0, 0, 0, 0, 0, 0, 3, 3, 3, 3, 3, 3, 3, 3, 7, 0, 0, 0, 0, 0, 0, 3, 3, 3, 3, 3, 3, 3, 3, 2, 6, 0, 0, 1, 0, 0, 0, 0, 9, 0, 0, 0, 0, 0, 0, 0, 0, 0, 0, 0, 0, 0, 0, 0, 0, 0, 0, 0, 0, 0, 0, 0]
def nsL : List Nat := [11, 2, 16, 4, 9, 8, 8, 8, 64, 64, 8, 8, 8, 8, 8, 8, 8, 8, 8, 9, 8, 8, 8, 64, 64, 8, 8, 8, 8, 8, 8, 8, 8, 8, 9, 8, 8, 8, 64, 64, 8, 8, 8, 8, 8, 8, 8, 8, 8, 1, 2, 72, 72, 2, 256, 8, 3, 8, 46, 16, 8, 8, 64, 64, 8, 64, 8, 72, 72, 9, 2304, 8, 8, 64, 64, 8, 8, 64, 64, 64, 8, 8]
def styL : List (List Nat) := [[2, 0, 0], [2, 2], [1], [0, 0, 0, 0, 0, 0, 0, 0], [0, 3, 3, 0], [2, 0], [2, 2], [0, 2, 2, 2, 2, 2, 0, 2, 0], [2, 2, 2, 2, 2, 2, 2, 2, 2, 0, 3], [2, 0, 0, 0, 0, 0, 0, 0, 0, 0, 0, 0, 0, 2, 2, 2, 2, 2, 0, 0, 0, 2, 0, 2, 2, 2, 2, 2, 2, 2, 2, 2, 2, 0, 0, 2, 0, 0, 0, 0, 2, 2, 2, 2, 2, 1]]
def rfL : List (List Nat) := [[1, 3, 4, 19, 34, 49, 50, 53, 56, 0, 0], [2, 0], [], [0, 0, 0, 0], [0, 5, 6, 7, 8, 9, 0, 10, 0], [], [], [], [], [], [11, 12, 13, 14, 15, 16, 17, 18], [0, 0, 0, 0, 0, 0, 0, 0], [0, 0, 0, 0, 0, 0, 0, 0], [0, 0, 0, 0, 0, 0, 0, 0], [0, 0, 0, 0, 0, 0, 0, 0], [0, 0, 0, 0, 0, 0, 0, 0], [0, 0, 0, 0, 0, 0, 0, 0], [0, 0, 0, 0, 0, 0, 0, 0], [0, 0, 0, 0, 0, 0, 0, 0], [0, 20, 21, 22, 23, 24, 0, 25, 0], [], [], [], [], [], [26, 27, 28, 29, 30, 31, 32, 33], [0, 0, 0, 0, 0, 0, 0, 0], [0, 0, 0, 0, 0, 0, 0, 0], [0, 0, 0, 0, 0, 0, 0, 0], [0, 0, 0, 0, 0, 0, 0, 0], [0, 0, 0, 0, 0, 0, 0, 0], [0, 0, 0, 0, 0, 0, 0, 0], [0, 0, 0, 0, 0, 0, 0, 0], [0, 0, 0, 0, 0, 0, 0, 0], [0, 35, 36, 37, 38, 39, 0, 40, 0], [], [], [], [], [], [41, 42, 43, 44, 45, 46, 47, 48], [0, 0, 0, 0, 0, 0, 0, 0], [0, 0, 0, 0, 0, 0, 0, 0], [0, 0, 0, 0, 0, 0, 0, 0], [0, 0, 0, 0, 0, 0, 0, 0], [0, 0, 0, 0, 0, 0, 0, 0], [0, 0, 0, 0, 0, 0, 0, 0], [0, 0, 0, 0, 0, 0, 0, 0], [0, 0, 0, 0, 0, 0, 0, 0], [0], [51, 52], [], [], [54, 55], [], [], [57, 0, 0], [], [59, 0, 0, 0, 0, 0, 0, 0, 0, 0, 0, 0, 0, 60, 61, 62, 63, 64, 0, 0, 0, 65, 0, 66, 67, 68, 69, 70, 71, 72, 73, 74, 75, 0, 0, 76, 0, 0, 0, 0, 77, 78, 79, 80, 81, 0], [], [], [], [], [], [], [], [], [], [], [], [], [], [], [], [], [], [], [], [], [], [], []]
def kd (i : Nat) : Nat := kdL.getD i 0
def cl (i : Nat) : Nat := clL.getD i 0
def nsl (i : Nat) : Nat := nsL.getD i 0
def sty (c k : Nat) : Nat := (styL.getD c []).getD k 0
def rfv (i k : Nat) : Nat := (rfL.getD i []).getD k 0
abbrev St : Type := (Nat → Nat → Int32) × (Nat → Nat → Int64)
def setI (σ : St) (i k : Nat) (v : Int32) : St := (fun a b => if a = i ∧ b = k then v else σ.1 a b, σ.2)
def setL (σ : St) (i k : Nat) (v : Int64) : St := (σ.1, fun a b => if a = i ∧ b = k then v else σ.2 a b)
/-- the first n of array i copied to array j -/
def cpyI (σ : St) (i j n : Nat) : St := (fun a b => if a = j ∧ b < n then σ.1 i b else σ.1 a b, σ.2)
def cpyL (σ : St) (i j n : Nat) : St := (σ.1, fun a b => if a = j ∧ b < n then σ.2 i b else σ.2 a b)
def inb (j : Int32) (n : Nat) : Bool := decide (¬ (j < 0 ∨ n ≤ j.toNatClampNeg))
theorem inb_vp {j : Int32} {n : Nat} (h : inb j n = true) : vp_in j n := show ¬ (j < 0 ∨ n ≤ j.toNatClampNeg) from of_decide_eq_true h
/-- a field of an object: its value, references by their numbers -/
def av (σ : St) (i k : Nat) : Value := if sty (cl i) k = 1 then .long (σ.2 i k) else if sty (cl i) k = 2 then .ref (rfv i k) else .int (σ.1 i k)
/-- a value with references by their addresses -/
def rv (ad : Nat → Nat) : Value → Value
  | .ref a => .ref (ad a)
  | v => v
theorem rv_cat (ad : Nat → Nat) (v : Value) : (rv ad v).category = v.category := by cases v <;> rfl
abbrev CT : Type := ClassId × ClassId × ClassId
def cellE (ad : Nat → Nat) (C : CT) (σ : St) (i : Nat) : va_E :=
  if kd i = 1 then .inr (cl i, (List.range (nsl i)).map fun k => rv ad (av σ i k))
  else if kd i = 2 then .inl (C.1, (nsl i, .inl (σ.1 i)))
  else if kd i = 3 then .inl (C.2.1, (nsl i, .inr (.inl (σ.2 i))))
  else .inl (C.2.2, (nsl i, .inr (.inr (.inr (.inr fun j => some (ad (rfv i j)))))))
def wsE (ad : Nat → Nat) (C : CT) (σ : St) : va_W := (List.range NN).map fun i => (ad i, cellE ad C σ i)
def aTys (C : CT) : List (ClassId × FieldType) := [(C.1, .int), (C.2.1, .long), (C.2.2, .object "GivenGoesOn$Gift")]
/-- the words that every method of ours may use -/
def aT : List Cond := lw_tbl.filter goodWord
def isNest : Cond → Bool
  | .methodLinkNest .. => true
  | _ => false
def aNst : List Cond := lw_tbl.filter isNest
def aK (D : va_G) (C : CT) (U : State) : Prop := va_K D vwCl (aTys C) U ∧ ∀ w ∈ aNst, va_Nw w U
theorem isNest_of {w : Cond} (h : isNest w = true) : ∃ own i x host, w = .methodLinkNest own i x host := by
  cases w <;> first | exact ⟨_, _, _, _, rfl⟩ | (simp [isNest] at h)
theorem aK.warm {D : va_G} {C : CT} {s U : State} (hW : s.WarmedH U.vm) (h : aK D C s) : aK D C U := by
  refine ⟨va_K.moved hW.alike h.1, fun w hw => ?_⟩
  obtain ⟨own, i, x, host, rfl⟩ := isNest_of (List.mem_filter.mp hw).2
  exact va_Nw.warmM hW (h.2 _ hw)
theorem aK.same {D : va_G} {C : CT} {s U : State} (hvm : s.vm = U.vm) (h : aK D C s) : aK D C U := by
  refine ⟨va_K.moved (by rw [hvm]; exact Vm.Alike.refl _) h.1, fun w hw => ?_⟩
  obtain ⟨own, i, x, host, rfl⟩ := isNest_of (List.mem_filter.mp hw).2
  exact va_Nw.same rfl hvm (h.2 _ hw)
abbrev MI : Type := MethodName × ByteArray × Nat × Option FieldType
def mWs (M : MI) : List Cond := .code M.1 M.2.1 M.2.2.1 M.2.2.2 :: aT
def aB (D : va_G) (C : CT) (ad : Nat → Nat) (A0 : Nat → Prop) (τ : St) (U : State) : Prop := va_P D vwCl (wsE ad C τ) U.heap ∧ aK D C U ∧ va_D A0 (wsE ad C τ)
def aQ (D : va_G) (C : CT) (ad : Nat → Nat) (A0 : Nat → Prop) (r : Option Value) (τ : St) : Array Value → State → Outcome → State → Prop := fun _ st oc t =>
  (oc = .returned (r.map (rv ad)) ∧ aB D C ad A0 τ t) ∧ va_F A0 st t
/-- where a frame of the method M stands: the machine, its code, the words, the room for e calls one in another -/
def Cx (M : MI) (e : Nat) (D : va_G) (C : CT) (p : Program) (R : Room) (s : State) (m : MethodId) (args : Array Value) (meth : Method) (c : Code) : Prop :=
  p.tables.exec = Jvm.exec ∧ c.code = M.2.1 ∧ c.maxLocals = M.2.2.1 ∧ meth.sig.returnType = M.2.2.2 ∧ meth.locks = false ∧ s.vm.findClass M.1.cls = some m.cls ∧ (∀ w ∈ aT, w.before args s = true) ∧ aK D C s ∧ e ≤ R.frames ∧ 34 * e ≤ R.locals
def Hp (D : va_G) (C : CT) (ad : Nat → Nat) (A0 : Nat → Prop) (s : State) (σ : St) (H : Heap) (locs : List Loc) : Prop :=
  va_P D vwCl (wsE ad C σ) H ∧ va_D A0 (wsE ad C σ) ∧ va_S A0 s.heap H locs
def lm (ad : Nat → Nat) (loc : List (Nat × Value)) : List (Nat × Value) := loc.map fun q => (q.1, rv ad q.2)
/-- THE JUDGEMENT: from here the method M comes to its end, answers r, and leaves the state τ -/
def A (e : Nat) (M : MI) (pc : Nat) (loc : List (Nat × Value)) (stk : List Value) (σ : St) (r : Option Value) (τ : St) : Prop :=
  ∀ (l : Launch) (D : va_G) (C : CT) (ad : Nat → Nat) (p : Program) (ev : Env) (R : Room) (s : State) (m : MethodId) (args : Array Value) (below : List Frame) (meth : Method) (c : Code) (A0 : Nat → Prop) (H : Heap) (locs : List Loc) (ls : Array Slot),
    Cx M e D C p R s m args meth c → (∀ q, s.heap.size ≤ q → A0 q) → Hp D C ad A0 s σ H locs → lv_has ls M.2.2.1 (lm ad loc) →
    W p l ev R s m args below meth c H locs 0 0 (MQ below (aQ D C ad A0 r τ) args s 0 0 A0) (F0 m pc ls (stk.map (rv ad)))
/-- THE CONTRACT of a method: called with these arguments in the state σ it answers r and leaves τ -/
def Sp (e : Nat) (M : MI) (as : List Value) (σ : St) (r : Option Value) (τ : St) : Prop :=
  ∀ (l : Launch) (D : va_G) (C : CT) (ad : Nat → Nat) (sz : Nat), Met l M.1 (mWs M) ({ frames := e, cells := 0, slots := 0, locals := 34 * e } : Room)
    (va_Pc (as.map (rv ad)) (fun U => U.heap.size = sz ∧ va_P D vwCl (wsE ad C σ) U.heap ∧ aK D C U ∧ va_D (fun _ => True) (wsE ad C σ))) (aQ D C ad (va_A (wsE ad C σ) sz) r τ) 0 0 (va_A (wsE ad C σ) sz)
theorem wsE_at (ad : Nat → Nat) (C : CT) (σ : St) {i : Nat} (hi : i < NN) : (wsE ad C σ)[i]? = some (ad i, cellE ad C σ i) := by
  simp [wsE, List.getElem?_map, List.getElem?_range hi]
theorem wsE_set (ad : Nat → Nat) (C : CT) (σ σ' : St) {i : Nat} (hi : i < NN) {e : va_E} (he : e = cellE ad C σ' i) (ho : ∀ j, j ≠ i → cellE ad C σ' j = cellE ad C σ j) : (wsE ad C σ).set i (ad i, e) = wsE ad C σ' := by
  apply List.ext_getElem?
  intro j
  by_cases hj : j = i
  · subst hj
    rw [List.getElem?_set_self (by simp [wsE]; exact hi), wsE_at ad C σ' hi, he]
  · rw [List.getElem?_set_ne (Ne.symm hj)]
    by_cases hl : j < NN
    · rw [wsE_at ad C σ hl, wsE_at ad C σ' hl, ho j hj]
    · simp [wsE, List.getElem?_map, List.getElem?_eq_none (by simp; omega : (List.range NN).length ≤ j)]
theorem cellE_1 (ad : Nat → Nat) (C : CT) (σ : St) {i : Nat} (h : kd i = 1) : cellE ad C σ i = .inr (cl i, (List.range (nsl i)).map fun k => rv ad (av σ i k)) := by simp [cellE, h]
theorem cellE_2 (ad : Nat → Nat) (C : CT) (σ : St) {i : Nat} (h : kd i = 2) : cellE ad C σ i = .inl (C.1, (nsl i, .inl (σ.1 i))) := by simp [cellE, h]
theorem cellE_3 (ad : Nat → Nat) (C : CT) (σ : St) {i : Nat} (h : kd i = 3) : cellE ad C σ i = .inl (C.2.1, (nsl i, .inr (.inl (σ.2 i)))) := by simp [cellE, h]
theorem cellE_4 (ad : Nat → Nat) (C : CT) (σ : St) {i : Nat} (h : kd i = 4) : cellE ad C σ i = .inl (C.2.2, (nsl i, .inr (.inr (.inr (.inr fun j => some (ad (rfv i j))))))) := by simp [cellE, h]
theorem cellE_setI_ne (ad : Nat → Nat) (C : CT) (σ : St) {i j k : Nat} {v : Int32} (h : j ≠ i) : cellE ad C (setI σ i k v) j = cellE ad C σ j := by
  have e1 : (setI σ i k v).1 j = σ.1 j := by funext b; simp [setI, h]
  have e2 : ∀ b, av (setI σ i k v) j b = av σ j b := fun b => by simp only [av, e1]; rfl
  simp only [cellE, e1, e2]
  rfl
theorem cellE_setL_ne (ad : Nat → Nat) (C : CT) (σ : St) {i j k : Nat} {v : Int64} (h : j ≠ i) : cellE ad C (setL σ i k v) j = cellE ad C σ j := by
  have e1 : (setL σ i k v).2 j = σ.2 j := by funext b; simp [setL, h]
  have e2 : ∀ b, av (setL σ i k v) j b = av σ j b := fun b => by simp only [av, e1]; rfl
  simp only [cellE, e1, e2]
  rfl
theorem cellE_cpyI_ne (ad : Nat → Nat) (C : CT) (σ : St) {i j n a : Nat} (h : a ≠ j) : cellE ad C (cpyI σ i j n) a = cellE ad C σ a := by
  have e1 : (cpyI σ i j n).1 a = σ.1 a := by funext b; simp [cpyI, h]
  have e2 : ∀ b, av (cpyI σ i j n) a b = av σ a b := fun b => by simp only [av, e1]; rfl
  simp only [cellE, e1, e2]
  rfl
theorem cellE_cpyL_ne (ad : Nat → Nat) (C : CT) (σ : St) {i j n a : Nat} (h : a ≠ j) : cellE ad C (cpyL σ i j n) a = cellE ad C σ a := by
  have e1 : (cpyL σ i j n).2 a = σ.2 a := by funext b; simp [cpyL, h]
  have e2 : ∀ b, av (cpyL σ i j n) a b = av σ a b := fun b => by simp only [av, e1]; rfl
  simp only [cellE, e1, e2]
  rfl
theorem lm_at {ad : Nat → Nat} {loc : List (Nat × Value)} {k i : Nat} {v : Value} (h : loc[k]? = some (i, v)) : (lm ad loc)[k]? = some (i, rv ad v) := by
  simp [lm, List.getElem?_map, h]
theorem lm_pick {ad : Nat → Nat} {loc loc' : List (Nat × Value)} {ks : List Nat} (h : lv_pick loc ks = loc') : lv_pick (lm ad loc) ks = lm ad loc' := by
  subst h
  simp only [lv_pick, lm, List.map_filterMap, List.getElem?_map]
def st1 (i : Nat) (v : Value) (loc : List (Nat × Value)) : List (Nat × Value) := (i, v) :: loc.filter (fun q => !(q.1 == i) && !(q.1 + 1 == i && q.2.category == 2))
def st2 (i : Nat) (v : Value) (loc : List (Nat × Value)) : List (Nat × Value) := (i, v) :: loc.filter (fun q => !(q.1 == i) && (!(q.1 == i + 1) && !(q.1 + 1 == i && q.2.category == 2)))
theorem lm_st1 {ad : Nat → Nat} {loc loc' : List (Nat × Value)} {i : Nat} {v : Value} (h : st1 i v loc = loc') : (i, rv ad v) :: (lm ad loc).filter (fun q => !(q.1 == i) && !(q.1 + 1 == i && q.2.category == 2)) = lm ad loc' := by
  subst h
  simp only [st1, lm, List.map_cons, List.filter_map]
  congr 2
  apply List.filter_congr
  intro q _
  simp [rv_cat]
theorem lm_st2 {ad : Nat → Nat} {loc loc' : List (Nat × Value)} {i : Nat} {v : Value} (h : st2 i v loc = loc') : (i, rv ad v) :: (lm ad loc).filter (fun q => !(q.1 == i) && (!(q.1 == i + 1) && !(q.1 + 1 == i && q.2.category == 2))) = lm ad loc' := by
  subst h
  simp only [st2, lm, List.map_cons, List.filter_map]
  congr 2
  apply List.filter_congr
  intro q _
  simp [rv_cat]

section AR
variable {e : Nat} {M : MI} {pc : Nat} {loc loc' : List (Nat × Value)} {stk : List Value} {σ τ : St} {r : Option Value}
theorem a_iconst {n : Int} (v : Int32) (hd : decode M.2.1 pc = .ok (.iconst n, 1)) (hv : Int32.ofInt n = v) (k : A e M (pc + 1) loc (.int v :: stk) σ r τ) : A e M pc loc (stk) σ r τ := by
  intro l D C ad p ev R s m args below meth c A0 H locs ls X hA Y hl
  obtain ⟨hx, hb, hml, hr, hlk, hown, hts, hK, hf, hlo⟩ := id X
  exact lv_iconst hx hb hd hv (k l D C ad p ev R s m args below meth c A0 H locs ls X hA Y hl)
theorem a_bipush {n : Int} (v : Int32) (hd : decode M.2.1 pc = .ok (.bipush n, 2)) (hv : (Int8.ofInt n).toInt32 = v) (k : A e M (pc + 2) loc (.int v :: stk) σ r τ) : A e M pc loc (stk) σ r τ := by
  intro l D C ad p ev R s m args below meth c A0 H locs ls X hA Y hl
  obtain ⟨hx, hb, hml, hr, hlk, hown, hts, hK, hf, hlo⟩ := id X
  exact lv_bipush hx hb hd hv (k l D C ad p ev R s m args below meth c A0 H locs ls X hA Y hl)
theorem a_sipush {n : Int} (v : Int32) (hd : decode M.2.1 pc = .ok (.sipush n, 3)) (hv : (Int16.ofInt n).toInt32 = v) (k : A e M (pc + 3) loc (.int v :: stk) σ r τ) : A e M pc loc (stk) σ r τ := by
  intro l D C ad p ev R s m args below meth c A0 H locs ls X hA Y hl
  obtain ⟨hx, hb, hml, hr, hlk, hown, hts, hK, hf, hlo⟩ := id X
  exact lv_sipush hx hb hd hv (k l D C ad p ev R s m args below meth c A0 H locs ls X hA Y hl)
theorem a_lconst {n : Fin 2} (v : Int64) (hd : decode M.2.1 pc = .ok (.lconst n, 1)) (hv : Int64.ofNat (n : Nat) = v) (k : A e M (pc + 1) loc (.long v :: stk) σ r τ) : A e M pc loc (stk) σ r τ := by
  intro l D C ad p ev R s m args below meth c A0 H locs ls X hA Y hl
  obtain ⟨hx, hb, hml, hr, hlk, hown, hts, hK, hf, hlo⟩ := id X
  exact lv_lconst hx hb hd hv (k l D C ad p ev R s m args below meth c A0 H locs ls X hA Y hl)
theorem a_null (hd : decode M.2.1 pc = .ok (.aconst_null, 1)) (k : A e M (pc + 1) loc (.null :: stk) σ r τ) : A e M pc loc (stk) σ r τ := by
  intro l D C ad p ev R s m args below meth c A0 H locs ls X hA Y hl
  obtain ⟨hx, hb, hml, hr, hlk, hown, hts, hK, hf, hlo⟩ := id X
  exact lv_null hx hb hd (k l D C ad p ev R s m args below meth c A0 H locs ls X hA Y hl)
theorem a_ldc {own : String} {ix : Nat} {v : Int32} (ho : own = M.1.cls) (hc : Cond.constant own ix v ∈ aT) (hd : decode M.2.1 pc = .ok (.ldc ix, 2)) (k : A e M (pc + 2) loc (.int v :: stk) σ r τ) : A e M pc loc (stk) σ r τ := by
  intro l D C ad p ev R s m args below meth c A0 H locs ls X hA Y hl
  obtain ⟨hx, hb, hml, hr, hlk, hown, hts, hK, hf, hlo⟩ := id X
  subst ho
  exact lv_ldc hx hb hown (hts _ hc) hd (k l D C ad p ev R s m args below meth c A0 H locs ls X hA Y hl)
theorem a_ldcw {own : String} {ix : Nat} {v : Int32} (ho : own = M.1.cls) (hc : Cond.constant own ix v ∈ aT) (hd : decode M.2.1 pc = .ok (.ldc_w ix, 3)) (k : A e M (pc + 3) loc (.int v :: stk) σ r τ) : A e M pc loc (stk) σ r τ := by
  intro l D C ad p ev R s m args below meth c A0 H locs ls X hA Y hl
  obtain ⟨hx, hb, hml, hr, hlk, hown, hts, hK, hf, hlo⟩ := id X
  subst ho
  exact lv_ldcw hx hb hown (hts _ hc) hd (k l D C ad p ev R s m args below meth c A0 H locs ls X hA Y hl)
theorem a_ldc2 {own : String} {ix : Nat} {v : Int64} (ho : own = M.1.cls) (hc : Cond.constantLong own ix v ∈ aT) (hd : decode M.2.1 pc = .ok (.ldc2_w ix, 3)) (k : A e M (pc + 3) loc (.long v :: stk) σ r τ) : A e M pc loc (stk) σ r τ := by
  intro l D C ad p ev R s m args below meth c A0 H locs ls X hA Y hl
  obtain ⟨hx, hb, hml, hr, hlk, hown, hts, hK, hf, hlo⟩ := id X
  subst ho
  exact lv_ldc2 hx hb hown (hts _ hc) hd (k l D C ad p ev R s m args below meth c A0 H locs ls X hA Y hl)
theorem a_iload_n {j : Fin 4} {i : Nat} {x : Int32} (hd : decode M.2.1 pc = .ok (.iload_n j, 1)) (hi : (j : Nat) = i) (q : Nat) (hq : loc[q]? = some (i, .int x)) (k : A e M (pc + 1) loc (.int x :: stk) σ r τ) : A e M pc loc (stk) σ r τ := by
  intro l D C ad p ev R s m args below meth c A0 H locs ls X hA Y hl
  obtain ⟨hx, hb, hml, hr, hlk, hown, hts, hK, hf, hlo⟩ := id X
  exact lv_iload_n hx hb hd hi (lv_at hl q (lm_at hq)) (k l D C ad p ev R s m args below meth c A0 H locs ls X hA Y hl)
theorem a_iload {i : Nat} {x : Int32} (hd : decode M.2.1 pc = .ok (.iload i, 2)) (q : Nat) (hq : loc[q]? = some (i, .int x)) (k : A e M (pc + 2) loc (.int x :: stk) σ r τ) : A e M pc loc (stk) σ r τ := by
  intro l D C ad p ev R s m args below meth c A0 H locs ls X hA Y hl
  obtain ⟨hx, hb, hml, hr, hlk, hown, hts, hK, hf, hlo⟩ := id X
  exact lv_iload hx hb hd (lv_at hl q (lm_at hq)) (k l D C ad p ev R s m args below meth c A0 H locs ls X hA Y hl)
theorem a_lload_n {j : Fin 4} {i : Nat} {x : Int64} (hd : decode M.2.1 pc = .ok (.lload_n j, 1)) (hi : (j : Nat) = i) (q : Nat) (hq : loc[q]? = some (i, .long x)) (k : A e M (pc + 1) loc (.long x :: stk) σ r τ) : A e M pc loc (stk) σ r τ := by
  intro l D C ad p ev R s m args below meth c A0 H locs ls X hA Y hl
  obtain ⟨hx, hb, hml, hr, hlk, hown, hts, hK, hf, hlo⟩ := id X
  exact lv_lload_n hx hb hd hi (lv_at hl q (lm_at hq)) (k l D C ad p ev R s m args below meth c A0 H locs ls X hA Y hl)
theorem a_lload {i : Nat} {x : Int64} (hd : decode M.2.1 pc = .ok (.lload i, 2)) (q : Nat) (hq : loc[q]? = some (i, .long x)) (k : A e M (pc + 2) loc (.long x :: stk) σ r τ) : A e M pc loc (stk) σ r τ := by
  intro l D C ad p ev R s m args below meth c A0 H locs ls X hA Y hl
  obtain ⟨hx, hb, hml, hr, hlk, hown, hts, hK, hf, hlo⟩ := id X
  exact lv_lload hx hb hd (lv_at hl q (lm_at hq)) (k l D C ad p ev R s m args below meth c A0 H locs ls X hA Y hl)
theorem a_aload_n {j : Fin 4} {i : Nat} {x : Nat} (hd : decode M.2.1 pc = .ok (.aload_n j, 1)) (hi : (j : Nat) = i) (q : Nat) (hq : loc[q]? = some (i, .ref x)) (k : A e M (pc + 1) loc (.ref x :: stk) σ r τ) : A e M pc loc (stk) σ r τ := by
  intro l D C ad p ev R s m args below meth c A0 H locs ls X hA Y hl
  obtain ⟨hx, hb, hml, hr, hlk, hown, hts, hK, hf, hlo⟩ := id X
  exact lv_aload_n hx hb hd hi (lv_at hl q (lm_at hq)) (k l D C ad p ev R s m args below meth c A0 H locs ls X hA Y hl)
theorem a_aload {i : Nat} {x : Nat} (hd : decode M.2.1 pc = .ok (.aload i, 2)) (q : Nat) (hq : loc[q]? = some (i, .ref x)) (k : A e M (pc + 2) loc (.ref x :: stk) σ r τ) : A e M pc loc (stk) σ r τ := by
  intro l D C ad p ev R s m args below meth c A0 H locs ls X hA Y hl
  obtain ⟨hx, hb, hml, hr, hlk, hown, hts, hK, hf, hlo⟩ := id X
  exact lv_aload hx hb hd (lv_at hl q (lm_at hq)) (k l D C ad p ev R s m args below meth c A0 H locs ls X hA Y hl)
theorem a_aload_nN {j : Fin 4} {i : Nat} (hd : decode M.2.1 pc = .ok (.aload_n j, 1)) (hi : (j : Nat) = i) (q : Nat) (hq : loc[q]? = some (i, .null)) (k : A e M (pc + 1) loc (.null :: stk) σ r τ) : A e M pc loc (stk) σ r τ := by
  intro l D C ad p ev R s m args below meth c A0 H locs ls X hA Y hl
  obtain ⟨hx, hb, hml, hr, hlk, hown, hts, hK, hf, hlo⟩ := id X
  exact lv_aload_nN hx hb hd hi (lv_at hl q (lm_at hq)) (k l D C ad p ev R s m args below meth c A0 H locs ls X hA Y hl)
theorem a_aloadN {i : Nat} (hd : decode M.2.1 pc = .ok (.aload i, 2)) (q : Nat) (hq : loc[q]? = some (i, .null)) (k : A e M (pc + 2) loc (.null :: stk) σ r τ) : A e M pc loc (stk) σ r τ := by
  intro l D C ad p ev R s m args below meth c A0 H locs ls X hA Y hl
  obtain ⟨hx, hb, hml, hr, hlk, hown, hts, hK, hf, hlo⟩ := id X
  exact lv_aloadN hx hb hd (lv_at hl q (lm_at hq)) (k l D C ad p ev R s m args below meth c A0 H locs ls X hA Y hl)
theorem a_istore_n {j : Fin 4} {i : Nat} {x : Int32} (hd : decode M.2.1 pc = .ok (.istore_n j, 1)) (hi : (j : Nat) = i) (hn : i < M.2.2.1) (hq : st1 i (.int x) loc = loc') (k : A e M (pc + 1) loc' (stk) σ r τ) : A e M pc loc (.int x :: stk) σ r τ := by
  intro l D C ad p ev R s m args below meth c A0 H locs ls X hA Y hl
  obtain ⟨hx, hb, hml, hr, hlk, hown, hts, hK, hf, hlo⟩ := id X
  exact lv_istore_n hx hb hd hi hl hn (lm_st1 hq) (fun ls' hl' => k l D C ad p ev R s m args below meth c A0 H locs ls' X hA Y hl')
theorem a_istore {i : Nat} {x : Int32} (hd : decode M.2.1 pc = .ok (.istore i, 2)) (hn : i < M.2.2.1) (hq : st1 i (.int x) loc = loc') (k : A e M (pc + 2) loc' (stk) σ r τ) : A e M pc loc (.int x :: stk) σ r τ := by
  intro l D C ad p ev R s m args below meth c A0 H locs ls X hA Y hl
  obtain ⟨hx, hb, hml, hr, hlk, hown, hts, hK, hf, hlo⟩ := id X
  exact lv_istore hx hb hd hl hn (lm_st1 hq) (fun ls' hl' => k l D C ad p ev R s m args below meth c A0 H locs ls' X hA Y hl')
theorem a_lstore_n {j : Fin 4} {i : Nat} {x : Int64} (hd : decode M.2.1 pc = .ok (.lstore_n j, 1)) (hi : (j : Nat) = i) (hn : i + 1 < M.2.2.1) (hq : st2 i (.long x) loc = loc') (k : A e M (pc + 1) loc' (stk) σ r τ) : A e M pc loc (.long x :: stk) σ r τ := by
  intro l D C ad p ev R s m args below meth c A0 H locs ls X hA Y hl
  obtain ⟨hx, hb, hml, hr, hlk, hown, hts, hK, hf, hlo⟩ := id X
  exact lv_lstore_n hx hb hd hi hl hn (lm_st2 hq) (fun ls' hl' => k l D C ad p ev R s m args below meth c A0 H locs ls' X hA Y hl')
theorem a_lstore {i : Nat} {x : Int64} (hd : decode M.2.1 pc = .ok (.lstore i, 2)) (hn : i + 1 < M.2.2.1) (hq : st2 i (.long x) loc = loc') (k : A e M (pc + 2) loc' (stk) σ r τ) : A e M pc loc (.long x :: stk) σ r τ := by
  intro l D C ad p ev R s m args below meth c A0 H locs ls X hA Y hl
  obtain ⟨hx, hb, hml, hr, hlk, hown, hts, hK, hf, hlo⟩ := id X
  exact lv_lstore hx hb hd hl hn (lm_st2 hq) (fun ls' hl' => k l D C ad p ev R s m args below meth c A0 H locs ls' X hA Y hl')
theorem a_astore_n {j : Fin 4} {i : Nat} {x : Nat} (hd : decode M.2.1 pc = .ok (.astore_n j, 1)) (hi : (j : Nat) = i) (hn : i < M.2.2.1) (hq : st1 i (.ref x) loc = loc') (k : A e M (pc + 1) loc' (stk) σ r τ) : A e M pc loc (.ref x :: stk) σ r τ := by
  intro l D C ad p ev R s m args below meth c A0 H locs ls X hA Y hl
  obtain ⟨hx, hb, hml, hr, hlk, hown, hts, hK, hf, hlo⟩ := id X
  exact lv_astore_n hx hb hd hi hl hn (lm_st1 hq) (fun ls' hl' => k l D C ad p ev R s m args below meth c A0 H locs ls' X hA Y hl')
theorem a_astore {i : Nat} {x : Nat} (hd : decode M.2.1 pc = .ok (.astore i, 2)) (hn : i < M.2.2.1) (hq : st1 i (.ref x) loc = loc') (k : A e M (pc + 2) loc' (stk) σ r τ) : A e M pc loc (.ref x :: stk) σ r τ := by
  intro l D C ad p ev R s m args below meth c A0 H locs ls X hA Y hl
  obtain ⟨hx, hb, hml, hr, hlk, hown, hts, hK, hf, hlo⟩ := id X
  exact lv_astore hx hb hd hl hn (lm_st1 hq) (fun ls' hl' => k l D C ad p ev R s m args below meth c A0 H locs ls' X hA Y hl')
theorem a_iinc {i : Nat} {n : Int} {x : Int32} (v : Int32) (hd : decode M.2.1 pc = .ok (.iinc i n, 3)) (q : Nat) (hq : loc[q]? = some (i, .int x)) (hv : x + Int32.ofInt n = v) (hn : i < M.2.2.1) (hs : st1 i (.int v) loc = loc') (k : A e M (pc + 3) loc' (stk) σ r τ) : A e M pc loc (stk) σ r τ := by
  intro l D C ad p ev R s m args below meth c A0 H locs ls X hA Y hl
  obtain ⟨hx, hb, hml, hr, hlk, hown, hts, hK, hf, hlo⟩ := id X
  exact lv_iinc hx hb hd hl (lm_at hq) hv hn (lm_st1 hs) (fun ls' hl' => k l D C ad p ev R s m args below meth c A0 H locs ls' X hA Y hl')
theorem a_locs (ks : List Nat) (hs : lv_pick loc ks = loc') (k : A e M (pc) loc' (stk) σ r τ) : A e M pc loc (stk) σ r τ := by
  intro l D C ad p ev R s m args below meth c A0 H locs ls X hA Y hl
  obtain ⟨hx, hb, hml, hr, hlk, hown, hts, hK, hf, hlo⟩ := id X
  exact k l D C ad p ev R s m args below meth c A0 H locs ls X hA Y (lv_sub hl ks (lm_pick hs))
theorem a_iadd {x y : Int32} (hd : decode M.2.1 pc = .ok (.iadd, 1)) (k : A e M (pc + 1) loc (.int (x + y) :: stk) σ r τ) : A e M pc loc (.int y :: .int x :: stk) σ r τ := by
  intro l D C ad p ev R s m args below meth c A0 H locs ls X hA Y hl
  obtain ⟨hx, hb, hml, hr, hlk, hown, hts, hK, hf, hlo⟩ := id X
  exact lv_iadd hx hb hd (k l D C ad p ev R s m args below meth c A0 H locs ls X hA Y hl)
theorem a_isub {x y : Int32} (hd : decode M.2.1 pc = .ok (.isub, 1)) (k : A e M (pc + 1) loc (.int (x - y) :: stk) σ r τ) : A e M pc loc (.int y :: .int x :: stk) σ r τ := by
  intro l D C ad p ev R s m args below meth c A0 H locs ls X hA Y hl
  obtain ⟨hx, hb, hml, hr, hlk, hown, hts, hK, hf, hlo⟩ := id X
  exact lv_isub hx hb hd (k l D C ad p ev R s m args below meth c A0 H locs ls X hA Y hl)
theorem a_imul {x y : Int32} (hd : decode M.2.1 pc = .ok (.imul, 1)) (k : A e M (pc + 1) loc (.int (x * y) :: stk) σ r τ) : A e M pc loc (.int y :: .int x :: stk) σ r τ := by
  intro l D C ad p ev R s m args below meth c A0 H locs ls X hA Y hl
  obtain ⟨hx, hb, hml, hr, hlk, hown, hts, hK, hf, hlo⟩ := id X
  exact lv_imul hx hb hd (k l D C ad p ev R s m args below meth c A0 H locs ls X hA Y hl)
theorem a_iand {x y : Int32} (hd : decode M.2.1 pc = .ok (.iand, 1)) (k : A e M (pc + 1) loc (.int (x &&& y) :: stk) σ r τ) : A e M pc loc (.int y :: .int x :: stk) σ r τ := by
  intro l D C ad p ev R s m args below meth c A0 H locs ls X hA Y hl
  obtain ⟨hx, hb, hml, hr, hlk, hown, hts, hK, hf, hlo⟩ := id X
  exact lv_iand hx hb hd (k l D C ad p ev R s m args below meth c A0 H locs ls X hA Y hl)
theorem a_ior {x y : Int32} (hd : decode M.2.1 pc = .ok (.ior, 1)) (k : A e M (pc + 1) loc (.int (x ||| y) :: stk) σ r τ) : A e M pc loc (.int y :: .int x :: stk) σ r τ := by
  intro l D C ad p ev R s m args below meth c A0 H locs ls X hA Y hl
  obtain ⟨hx, hb, hml, hr, hlk, hown, hts, hK, hf, hlo⟩ := id X
  exact lv_ior hx hb hd (k l D C ad p ev R s m args below meth c A0 H locs ls X hA Y hl)
theorem a_ixor {x y : Int32} (hd : decode M.2.1 pc = .ok (.ixor, 1)) (k : A e M (pc + 1) loc (.int (x ^^^ y) :: stk) σ r τ) : A e M pc loc (.int y :: .int x :: stk) σ r τ := by
  intro l D C ad p ev R s m args below meth c A0 H locs ls X hA Y hl
  obtain ⟨hx, hb, hml, hr, hlk, hown, hts, hK, hf, hlo⟩ := id X
  exact lv_ixor hx hb hd (k l D C ad p ev R s m args below meth c A0 H locs ls X hA Y hl)
theorem a_ishl {x y : Int32} (hd : decode M.2.1 pc = .ok (.ishl, 1)) (k : A e M (pc + 1) loc (.int (x <<< (y &&& 31)) :: stk) σ r τ) : A e M pc loc (.int y :: .int x :: stk) σ r τ := by
  intro l D C ad p ev R s m args below meth c A0 H locs ls X hA Y hl
  obtain ⟨hx, hb, hml, hr, hlk, hown, hts, hK, hf, hlo⟩ := id X
  exact lv_ishl hx hb hd (k l D C ad p ev R s m args below meth c A0 H locs ls X hA Y hl)
theorem a_ishr {x y : Int32} (hd : decode M.2.1 pc = .ok (.ishr, 1)) (k : A e M (pc + 1) loc (.int (x >>> (y &&& 31)) :: stk) σ r τ) : A e M pc loc (.int y :: .int x :: stk) σ r τ := by
  intro l D C ad p ev R s m args below meth c A0 H locs ls X hA Y hl
  obtain ⟨hx, hb, hml, hr, hlk, hown, hts, hK, hf, hlo⟩ := id X
  exact lv_ishr hx hb hd (k l D C ad p ev R s m args below meth c A0 H locs ls X hA Y hl)
theorem a_idiv {x y : Int32} (hy : ¬ y = 0) (hd : decode M.2.1 pc = .ok (.idiv, 1)) (k : A e M (pc + 1) loc (.int (x / y) :: stk) σ r τ) : A e M pc loc (.int y :: .int x :: stk) σ r τ := by
  intro l D C ad p ev R s m args below meth c A0 H locs ls X hA Y hl
  obtain ⟨hx, hb, hml, hr, hlk, hown, hts, hK, hf, hlo⟩ := id X
  exact lv_idiv hx hb hd hy (k l D C ad p ev R s m args below meth c A0 H locs ls X hA Y hl)
theorem a_irem {x y : Int32} (hy : ¬ y = 0) (hd : decode M.2.1 pc = .ok (.irem, 1)) (k : A e M (pc + 1) loc (.int (x - x / y * y) :: stk) σ r τ) : A e M pc loc (.int y :: .int x :: stk) σ r τ := by
  intro l D C ad p ev R s m args below meth c A0 H locs ls X hA Y hl
  obtain ⟨hx, hb, hml, hr, hlk, hown, hts, hK, hf, hlo⟩ := id X
  exact lv_irem hx hb hd hy (k l D C ad p ev R s m args below meth c A0 H locs ls X hA Y hl)
theorem a_ineg {x : Int32} (hd : decode M.2.1 pc = .ok (.ineg, 1)) (k : A e M (pc + 1) loc (.int (-x) :: stk) σ r τ) : A e M pc loc (.int x :: stk) σ r τ := by
  intro l D C ad p ev R s m args below meth c A0 H locs ls X hA Y hl
  obtain ⟨hx, hb, hml, hr, hlk, hown, hts, hK, hf, hlo⟩ := id X
  exact lv_ineg hx hb hd (k l D C ad p ev R s m args below meth c A0 H locs ls X hA Y hl)
theorem a_ladd {x y : Int64} (hd : decode M.2.1 pc = .ok (.ladd, 1)) (k : A e M (pc + 1) loc (.long (x + y) :: stk) σ r τ) : A e M pc loc (.long y :: .long x :: stk) σ r τ := by
  intro l D C ad p ev R s m args below meth c A0 H locs ls X hA Y hl
  obtain ⟨hx, hb, hml, hr, hlk, hown, hts, hK, hf, hlo⟩ := id X
  exact lv_ladd hx hb hd (k l D C ad p ev R s m args below meth c A0 H locs ls X hA Y hl)
theorem a_lsub {x y : Int64} (hd : decode M.2.1 pc = .ok (.lsub, 1)) (k : A e M (pc + 1) loc (.long (x - y) :: stk) σ r τ) : A e M pc loc (.long y :: .long x :: stk) σ r τ := by
  intro l D C ad p ev R s m args below meth c A0 H locs ls X hA Y hl
  obtain ⟨hx, hb, hml, hr, hlk, hown, hts, hK, hf, hlo⟩ := id X
  exact lv_lsub hx hb hd (k l D C ad p ev R s m args below meth c A0 H locs ls X hA Y hl)
theorem a_lmul {x y : Int64} (hd : decode M.2.1 pc = .ok (.lmul, 1)) (k : A e M (pc + 1) loc (.long (x * y) :: stk) σ r τ) : A e M pc loc (.long y :: .long x :: stk) σ r τ := by
  intro l D C ad p ev R s m args below meth c A0 H locs ls X hA Y hl
  obtain ⟨hx, hb, hml, hr, hlk, hown, hts, hK, hf, hlo⟩ := id X
  exact lv_lmul hx hb hd (k l D C ad p ev R s m args below meth c A0 H locs ls X hA Y hl)
theorem a_land {x y : Int64} (hd : decode M.2.1 pc = .ok (.land, 1)) (k : A e M (pc + 1) loc (.long (x &&& y) :: stk) σ r τ) : A e M pc loc (.long y :: .long x :: stk) σ r τ := by
  intro l D C ad p ev R s m args below meth c A0 H locs ls X hA Y hl
  obtain ⟨hx, hb, hml, hr, hlk, hown, hts, hK, hf, hlo⟩ := id X
  exact lv_land hx hb hd (k l D C ad p ev R s m args below meth c A0 H locs ls X hA Y hl)
theorem a_lor {x y : Int64} (hd : decode M.2.1 pc = .ok (.lor, 1)) (k : A e M (pc + 1) loc (.long (x ||| y) :: stk) σ r τ) : A e M pc loc (.long y :: .long x :: stk) σ r τ := by
  intro l D C ad p ev R s m args below meth c A0 H locs ls X hA Y hl
  obtain ⟨hx, hb, hml, hr, hlk, hown, hts, hK, hf, hlo⟩ := id X
  exact lv_lor hx hb hd (k l D C ad p ev R s m args below meth c A0 H locs ls X hA Y hl)
theorem a_ldiv {x y : Int64} (hy : ¬ y = 0) (hd : decode M.2.1 pc = .ok (.ldiv, 1)) (k : A e M (pc + 1) loc (.long (x / y) :: stk) σ r τ) : A e M pc loc (.long y :: .long x :: stk) σ r τ := by
  intro l D C ad p ev R s m args below meth c A0 H locs ls X hA Y hl
  obtain ⟨hx, hb, hml, hr, hlk, hown, hts, hK, hf, hlo⟩ := id X
  exact lv_ldiv hx hb hd hy (k l D C ad p ev R s m args below meth c A0 H locs ls X hA Y hl)
theorem a_lrem {x y : Int64} (hy : ¬ y = 0) (hd : decode M.2.1 pc = .ok (.lrem, 1)) (k : A e M (pc + 1) loc (.long (x - x / y * y) :: stk) σ r τ) : A e M pc loc (.long y :: .long x :: stk) σ r τ := by
  intro l D C ad p ev R s m args below meth c A0 H locs ls X hA Y hl
  obtain ⟨hx, hb, hml, hr, hlk, hown, hts, hK, hf, hlo⟩ := id X
  exact lv_lrem hx hb hd hy (k l D C ad p ev R s m args below meth c A0 H locs ls X hA Y hl)
theorem a_i2l {x : Int32} (hd : decode M.2.1 pc = .ok (.i2l, 1)) (k : A e M (pc + 1) loc (.long x.toInt64 :: stk) σ r τ) : A e M pc loc (.int x :: stk) σ r τ := by
  intro l D C ad p ev R s m args below meth c A0 H locs ls X hA Y hl
  obtain ⟨hx, hb, hml, hr, hlk, hown, hts, hK, hf, hlo⟩ := id X
  exact lv_i2l hx hb hd rfl (k l D C ad p ev R s m args below meth c A0 H locs ls X hA Y hl)
theorem a_l2i {x : Int64} (hd : decode M.2.1 pc = .ok (.l2i, 1)) (k : A e M (pc + 1) loc (.int x.toInt32 :: stk) σ r τ) : A e M pc loc (.long x :: stk) σ r τ := by
  intro l D C ad p ev R s m args below meth c A0 H locs ls X hA Y hl
  obtain ⟨hx, hb, hml, hr, hlk, hown, hts, hK, hf, hlo⟩ := id X
  exact lv_l2i hx hb hd rfl (k l D C ad p ev R s m args below meth c A0 H locs ls X hA Y hl)
def ushrI (x y : Int32) : Int32 := (x.toUInt32 >>> (y.toUInt32 &&& Int32.toUInt32 31)).toInt32
def ushrL (x : Int64) (y : Int32) : Int64 := (x.toUInt64 >>> (y.toInt64.toUInt64 &&& Int64.toUInt64 63)).toInt64
theorem a_iushr {x y : Int32} (hd : decode M.2.1 pc = .ok (.iushr, 1)) (k : A e M (pc + 1) loc (.int (ushrI x y) :: stk) σ r τ) : A e M pc loc (.int y :: .int x :: stk) σ r τ := by
  intro l D C ad p ev R s m args below meth c A0 H locs ls X hA Y hl
  obtain ⟨hx, hb, hml, hr, hlk, hown, hts, hK, hf, hlo⟩ := id X
  exact lv_iushr hx hb hd rfl (k l D C ad p ev R s m args below meth c A0 H locs ls X hA Y hl)
theorem a_lushr {x : Int64} {y : Int32} (hd : decode M.2.1 pc = .ok (.lushr, 1)) (k : A e M (pc + 1) loc (.long (ushrL x y) :: stk) σ r τ) : A e M pc loc (.int y :: .long x :: stk) σ r τ := by
  intro l D C ad p ev R s m args below meth c A0 H locs ls X hA Y hl
  obtain ⟨hx, hb, hml, hr, hlk, hown, hts, hK, hf, hlo⟩ := id X
  exact lv_lushr hx hb hd rfl (k l D C ad p ev R s m args below meth c A0 H locs ls X hA Y hl)
theorem a_lshl {x : Int64} {y : Int32} (hd : decode M.2.1 pc = .ok (.lshl, 1)) (k : A e M (pc + 1) loc (.long (x <<< (y.toInt64 &&& 63)) :: stk) σ r τ) : A e M pc loc (.int y :: .long x :: stk) σ r τ := by
  intro l D C ad p ev R s m args below meth c A0 H locs ls X hA Y hl
  obtain ⟨hx, hb, hml, hr, hlk, hown, hts, hK, hf, hlo⟩ := id X
  exact lv_lshl hx hb hd rfl (k l D C ad p ev R s m args below meth c A0 H locs ls X hA Y hl)
theorem a_lcmp {x y : Int64} (hd : decode M.2.1 pc = .ok (.lcmp, 1)) (k : A e M (pc + 1) loc (.int (lg_cmp x y) :: stk) σ r τ) : A e M pc loc (.long y :: .long x :: stk) σ r τ := by
  intro l D C ad p ev R s m args below meth c A0 H locs ls X hA Y hl
  obtain ⟨hx, hb, hml, hr, hlk, hown, hts, hK, hf, hlo⟩ := id X
  exact W.lcmp hx hb hd (k l D C ad p ev R s m args below meth c A0 H locs ls X hA Y hl)
theorem a_dup {v : Value} (hc : v.category = 1) (hd : decode M.2.1 pc = .ok (.dup, 1)) (k : A e M (pc + 1) loc (v :: v :: stk) σ r τ) : A e M pc loc (v :: stk) σ r τ := by
  intro l D C ad p ev R s m args below meth c A0 H locs ls X hA Y hl
  obtain ⟨hx, hb, hml, hr, hlk, hown, hts, hK, hf, hlo⟩ := id X
  exact lv_dup hx hb hd (by rw [rv_cat]; exact hc) (k l D C ad p ev R s m args below meth c A0 H locs ls X hA Y hl)
theorem a_pop {v : Value} (hc : v.category = 1) (hd : decode M.2.1 pc = .ok (.pop, 1)) (k : A e M (pc + 1) loc (stk) σ r τ) : A e M pc loc (v :: stk) σ r τ := by
  intro l D C ad p ev R s m args below meth c A0 H locs ls X hA Y hl
  obtain ⟨hx, hb, hml, hr, hlk, hown, hts, hK, hf, hlo⟩ := id X
  exact lv_pop hx hb hd (by rw [rv_cat]; exact hc) (k l D C ad p ev R s m args below meth c A0 H locs ls X hA Y hl)
theorem a_dup_x1 {v w : Value} (hc : v.category = 1) (hw : w.category = 1) (hd : decode M.2.1 pc = .ok (.dup_x1, 1)) (k : A e M (pc + 1) loc (v :: w :: v :: stk) σ r τ) : A e M pc loc (v :: w :: stk) σ r τ := by
  intro l D C ad p ev R s m args below meth c A0 H locs ls X hA Y hl
  obtain ⟨hx, hb, hml, hr, hlk, hown, hts, hK, hf, hlo⟩ := id X
  exact lv_dup_x1 hx hb hd (by rw [rv_cat]; exact hc) (by rw [rv_cat]; exact hw) (k l D C ad p ev R s m args below meth c A0 H locs ls X hA Y hl)
theorem a_dup2 {v w : Value} (hc : v.category = 1) (hw : w.category = 1) (hd : decode M.2.1 pc = .ok (.dup2, 1)) (k : A e M (pc + 1) loc (v :: w :: v :: w :: stk) σ r τ) : A e M pc loc (v :: w :: stk) σ r τ := by
  intro l D C ad p ev R s m args below meth c A0 H locs ls X hA Y hl
  obtain ⟨hx, hb, hml, hr, hlk, hown, hts, hK, hf, hlo⟩ := id X
  exact lv_dup2_11 hx hb hd (by rw [rv_cat]; exact hc) (by rw [rv_cat]; exact hw) (k l D C ad p ev R s m args below meth c A0 H locs ls X hA Y hl)
theorem a_pop2 {v : Value} (hc : v.category = 2) (hd : decode M.2.1 pc = .ok (.pop2, 1)) (k : A e M (pc + 1) loc (stk) σ r τ) : A e M pc loc (v :: stk) σ r τ := by
  intro l D C ad p ev R s m args below meth c A0 H locs ls X hA Y hl
  obtain ⟨hx, hb, hml, hr, hlk, hown, hts, hK, hf, hlo⟩ := id X
  exact lv_pop2_2 hx hb hd (by rw [rv_cat]; exact hc) (k l D C ad p ev R s m args below meth c A0 H locs ls X hA Y hl)
theorem a_if_eq_t {x : Int32} {off : Int} (tgt : Nat) (hd : decode M.2.1 pc = .ok (.ifCond .eq off, 3)) (ht : (pc : Int) + off = (tgt : Int)) (h : x = 0) (k : A e M (tgt) loc (stk) σ r τ) : A e M pc loc (.int x :: stk) σ r τ := by
  intro l D C ad p ev R s m args below meth c A0 H locs ls X hA Y hl
  obtain ⟨hx, hb, hml, hr, hlk, hown, hts, hK, hf, hlo⟩ := id X
  exact lv_if_eq hx hb hd ht (fun _ => k l D C ad p ev R s m args below meth c A0 H locs ls X hA Y hl) (fun z => by first | exact absurd h z | exact absurd z h)
theorem a_if_eq_f {x : Int32} {off : Int} (tgt : Nat) (hd : decode M.2.1 pc = .ok (.ifCond .eq off, 3)) (ht : (pc : Int) + off = (tgt : Int)) (h : ¬ x = 0) (k : A e M (pc + 3) loc (stk) σ r τ) : A e M pc loc (.int x :: stk) σ r τ := by
  intro l D C ad p ev R s m args below meth c A0 H locs ls X hA Y hl
  obtain ⟨hx, hb, hml, hr, hlk, hown, hts, hK, hf, hlo⟩ := id X
  exact lv_if_eq hx hb hd ht (fun z => by first | exact absurd h z | exact absurd z h) (fun _ => k l D C ad p ev R s m args below meth c A0 H locs ls X hA Y hl)
theorem a_icmp_eq_t {x y : Int32} {off : Int} (tgt : Nat) (hd : decode M.2.1 pc = .ok (.if_icmp .eq off, 3)) (ht : (pc : Int) + off = (tgt : Int)) (h : x = y) (k : A e M (tgt) loc (stk) σ r τ) : A e M pc loc (.int y :: .int x :: stk) σ r τ := by
  intro l D C ad p ev R s m args below meth c A0 H locs ls X hA Y hl
  obtain ⟨hx, hb, hml, hr, hlk, hown, hts, hK, hf, hlo⟩ := id X
  exact lv_icmp_eq hx hb hd ht (fun _ => k l D C ad p ev R s m args below meth c A0 H locs ls X hA Y hl) (fun z => by first | exact absurd h z | exact absurd z h)
theorem a_icmp_eq_f {x y : Int32} {off : Int} (tgt : Nat) (hd : decode M.2.1 pc = .ok (.if_icmp .eq off, 3)) (ht : (pc : Int) + off = (tgt : Int)) (h : ¬ x = y) (k : A e M (pc + 3) loc (stk) σ r τ) : A e M pc loc (.int y :: .int x :: stk) σ r τ := by
  intro l D C ad p ev R s m args below meth c A0 H locs ls X hA Y hl
  obtain ⟨hx, hb, hml, hr, hlk, hown, hts, hK, hf, hlo⟩ := id X
  exact lv_icmp_eq hx hb hd ht (fun z => by first | exact absurd h z | exact absurd z h) (fun _ => k l D C ad p ev R s m args below meth c A0 H locs ls X hA Y hl)
theorem a_if_ne_t {x : Int32} {off : Int} (tgt : Nat) (hd : decode M.2.1 pc = .ok (.ifCond .ne off, 3)) (ht : (pc : Int) + off = (tgt : Int)) (h : ¬ x = 0) (k : A e M (tgt) loc (stk) σ r τ) : A e M pc loc (.int x :: stk) σ r τ := by
  intro l D C ad p ev R s m args below meth c A0 H locs ls X hA Y hl
  obtain ⟨hx, hb, hml, hr, hlk, hown, hts, hK, hf, hlo⟩ := id X
  exact lv_if_ne hx hb hd ht (fun _ => k l D C ad p ev R s m args below meth c A0 H locs ls X hA Y hl) (fun z => by first | exact absurd h z | exact absurd z h)
theorem a_if_ne_f {x : Int32} {off : Int} (tgt : Nat) (hd : decode M.2.1 pc = .ok (.ifCond .ne off, 3)) (ht : (pc : Int) + off = (tgt : Int)) (h : x = 0) (k : A e M (pc + 3) loc (stk) σ r τ) : A e M pc loc (.int x :: stk) σ r τ := by
  intro l D C ad p ev R s m args below meth c A0 H locs ls X hA Y hl
  obtain ⟨hx, hb, hml, hr, hlk, hown, hts, hK, hf, hlo⟩ := id X
  exact lv_if_ne hx hb hd ht (fun z => by first | exact absurd h z | exact absurd z h) (fun _ => k l D C ad p ev R s m args below meth c A0 H locs ls X hA Y hl)
theorem a_icmp_ne_t {x y : Int32} {off : Int} (tgt : Nat) (hd : decode M.2.1 pc = .ok (.if_icmp .ne off, 3)) (ht : (pc : Int) + off = (tgt : Int)) (h : ¬ x = y) (k : A e M (tgt) loc (stk) σ r τ) : A e M pc loc (.int y :: .int x :: stk) σ r τ := by
  intro l D C ad p ev R s m args below meth c A0 H locs ls X hA Y hl
  obtain ⟨hx, hb, hml, hr, hlk, hown, hts, hK, hf, hlo⟩ := id X
  exact lv_icmp_ne hx hb hd ht (fun _ => k l D C ad p ev R s m args below meth c A0 H locs ls X hA Y hl) (fun z => by first | exact absurd h z | exact absurd z h)
theorem a_icmp_ne_f {x y : Int32} {off : Int} (tgt : Nat) (hd : decode M.2.1 pc = .ok (.if_icmp .ne off, 3)) (ht : (pc : Int) + off = (tgt : Int)) (h : x = y) (k : A e M (pc + 3) loc (stk) σ r τ) : A e M pc loc (.int y :: .int x :: stk) σ r τ := by
  intro l D C ad p ev R s m args below meth c A0 H locs ls X hA Y hl
  obtain ⟨hx, hb, hml, hr, hlk, hown, hts, hK, hf, hlo⟩ := id X
  exact lv_icmp_ne hx hb hd ht (fun z => by first | exact absurd h z | exact absurd z h) (fun _ => k l D C ad p ev R s m args below meth c A0 H locs ls X hA Y hl)
theorem a_if_lt_t {x : Int32} {off : Int} (tgt : Nat) (hd : decode M.2.1 pc = .ok (.ifCond .lt off, 3)) (ht : (pc : Int) + off = (tgt : Int)) (h : x < 0) (k : A e M (tgt) loc (stk) σ r τ) : A e M pc loc (.int x :: stk) σ r τ := by
  intro l D C ad p ev R s m args below meth c A0 H locs ls X hA Y hl
  obtain ⟨hx, hb, hml, hr, hlk, hown, hts, hK, hf, hlo⟩ := id X
  exact lv_if_lt hx hb hd ht (fun _ => k l D C ad p ev R s m args below meth c A0 H locs ls X hA Y hl) (fun z => by first | exact absurd h z | exact absurd z h)
theorem a_if_lt_f {x : Int32} {off : Int} (tgt : Nat) (hd : decode M.2.1 pc = .ok (.ifCond .lt off, 3)) (ht : (pc : Int) + off = (tgt : Int)) (h : ¬ x < 0) (k : A e M (pc + 3) loc (stk) σ r τ) : A e M pc loc (.int x :: stk) σ r τ := by
  intro l D C ad p ev R s m args below meth c A0 H locs ls X hA Y hl
  obtain ⟨hx, hb, hml, hr, hlk, hown, hts, hK, hf, hlo⟩ := id X
  exact lv_if_lt hx hb hd ht (fun z => by first | exact absurd h z | exact absurd z h) (fun _ => k l D C ad p ev R s m args below meth c A0 H locs ls X hA Y hl)
theorem a_icmp_lt_t {x y : Int32} {off : Int} (tgt : Nat) (hd : decode M.2.1 pc = .ok (.if_icmp .lt off, 3)) (ht : (pc : Int) + off = (tgt : Int)) (h : x < y) (k : A e M (tgt) loc (stk) σ r τ) : A e M pc loc (.int y :: .int x :: stk) σ r τ := by
  intro l D C ad p ev R s m args below meth c A0 H locs ls X hA Y hl
  obtain ⟨hx, hb, hml, hr, hlk, hown, hts, hK, hf, hlo⟩ := id X
  exact lv_icmp_lt hx hb hd ht (fun _ => k l D C ad p ev R s m args below meth c A0 H locs ls X hA Y hl) (fun z => by first | exact absurd h z | exact absurd z h)
theorem a_icmp_lt_f {x y : Int32} {off : Int} (tgt : Nat) (hd : decode M.2.1 pc = .ok (.if_icmp .lt off, 3)) (ht : (pc : Int) + off = (tgt : Int)) (h : ¬ x < y) (k : A e M (pc + 3) loc (stk) σ r τ) : A e M pc loc (.int y :: .int x :: stk) σ r τ := by
  intro l D C ad p ev R s m args below meth c A0 H locs ls X hA Y hl
  obtain ⟨hx, hb, hml, hr, hlk, hown, hts, hK, hf, hlo⟩ := id X
  exact lv_icmp_lt hx hb hd ht (fun z => by first | exact absurd h z | exact absurd z h) (fun _ => k l D C ad p ev R s m args below meth c A0 H locs ls X hA Y hl)
theorem a_if_ge_t {x : Int32} {off : Int} (tgt : Nat) (hd : decode M.2.1 pc = .ok (.ifCond .ge off, 3)) (ht : (pc : Int) + off = (tgt : Int)) (h : 0 ≤ x) (k : A e M (tgt) loc (stk) σ r τ) : A e M pc loc (.int x :: stk) σ r τ := by
  intro l D C ad p ev R s m args below meth c A0 H locs ls X hA Y hl
  obtain ⟨hx, hb, hml, hr, hlk, hown, hts, hK, hf, hlo⟩ := id X
  exact lv_if_ge hx hb hd ht (fun _ => k l D C ad p ev R s m args below meth c A0 H locs ls X hA Y hl) (fun z => by first | exact absurd h z | exact absurd z h)
theorem a_if_ge_f {x : Int32} {off : Int} (tgt : Nat) (hd : decode M.2.1 pc = .ok (.ifCond .ge off, 3)) (ht : (pc : Int) + off = (tgt : Int)) (h : ¬ 0 ≤ x) (k : A e M (pc + 3) loc (stk) σ r τ) : A e M pc loc (.int x :: stk) σ r τ := by
  intro l D C ad p ev R s m args below meth c A0 H locs ls X hA Y hl
  obtain ⟨hx, hb, hml, hr, hlk, hown, hts, hK, hf, hlo⟩ := id X
  exact lv_if_ge hx hb hd ht (fun z => by first | exact absurd h z | exact absurd z h) (fun _ => k l D C ad p ev R s m args below meth c A0 H locs ls X hA Y hl)
theorem a_icmp_ge_t {x y : Int32} {off : Int} (tgt : Nat) (hd : decode M.2.1 pc = .ok (.if_icmp .ge off, 3)) (ht : (pc : Int) + off = (tgt : Int)) (h : y ≤ x) (k : A e M (tgt) loc (stk) σ r τ) : A e M pc loc (.int y :: .int x :: stk) σ r τ := by
  intro l D C ad p ev R s m args below meth c A0 H locs ls X hA Y hl
  obtain ⟨hx, hb, hml, hr, hlk, hown, hts, hK, hf, hlo⟩ := id X
  exact lv_icmp_ge hx hb hd ht (fun _ => k l D C ad p ev R s m args below meth c A0 H locs ls X hA Y hl) (fun z => by first | exact absurd h z | exact absurd z h)
theorem a_icmp_ge_f {x y : Int32} {off : Int} (tgt : Nat) (hd : decode M.2.1 pc = .ok (.if_icmp .ge off, 3)) (ht : (pc : Int) + off = (tgt : Int)) (h : ¬ y ≤ x) (k : A e M (pc + 3) loc (stk) σ r τ) : A e M pc loc (.int y :: .int x :: stk) σ r τ := by
  intro l D C ad p ev R s m args below meth c A0 H locs ls X hA Y hl
  obtain ⟨hx, hb, hml, hr, hlk, hown, hts, hK, hf, hlo⟩ := id X
  exact lv_icmp_ge hx hb hd ht (fun z => by first | exact absurd h z | exact absurd z h) (fun _ => k l D C ad p ev R s m args below meth c A0 H locs ls X hA Y hl)
theorem a_if_gt_t {x : Int32} {off : Int} (tgt : Nat) (hd : decode M.2.1 pc = .ok (.ifCond .gt off, 3)) (ht : (pc : Int) + off = (tgt : Int)) (h : 0 < x) (k : A e M (tgt) loc (stk) σ r τ) : A e M pc loc (.int x :: stk) σ r τ := by
  intro l D C ad p ev R s m args below meth c A0 H locs ls X hA Y hl
  obtain ⟨hx, hb, hml, hr, hlk, hown, hts, hK, hf, hlo⟩ := id X
  exact lv_if_gt hx hb hd ht (fun _ => k l D C ad p ev R s m args below meth c A0 H locs ls X hA Y hl) (fun z => by first | exact absurd h z | exact absurd z h)
theorem a_if_gt_f {x : Int32} {off : Int} (tgt : Nat) (hd : decode M.2.1 pc = .ok (.ifCond .gt off, 3)) (ht : (pc : Int) + off = (tgt : Int)) (h : ¬ 0 < x) (k : A e M (pc + 3) loc (stk) σ r τ) : A e M pc loc (.int x :: stk) σ r τ := by
  intro l D C ad p ev R s m args below meth c A0 H locs ls X hA Y hl
  obtain ⟨hx, hb, hml, hr, hlk, hown, hts, hK, hf, hlo⟩ := id X
  exact lv_if_gt hx hb hd ht (fun z => by first | exact absurd h z | exact absurd z h) (fun _ => k l D C ad p ev R s m args below meth c A0 H locs ls X hA Y hl)
theorem a_icmp_gt_t {x y : Int32} {off : Int} (tgt : Nat) (hd : decode M.2.1 pc = .ok (.if_icmp .gt off, 3)) (ht : (pc : Int) + off = (tgt : Int)) (h : y < x) (k : A e M (tgt) loc (stk) σ r τ) : A e M pc loc (.int y :: .int x :: stk) σ r τ := by
  intro l D C ad p ev R s m args below meth c A0 H locs ls X hA Y hl
  obtain ⟨hx, hb, hml, hr, hlk, hown, hts, hK, hf, hlo⟩ := id X
  exact lv_icmp_gt hx hb hd ht (fun _ => k l D C ad p ev R s m args below meth c A0 H locs ls X hA Y hl) (fun z => by first | exact absurd h z | exact absurd z h)
theorem a_icmp_gt_f {x y : Int32} {off : Int} (tgt : Nat) (hd : decode M.2.1 pc = .ok (.if_icmp .gt off, 3)) (ht : (pc : Int) + off = (tgt : Int)) (h : ¬ y < x) (k : A e M (pc + 3) loc (stk) σ r τ) : A e M pc loc (.int y :: .int x :: stk) σ r τ := by
  intro l D C ad p ev R s m args below meth c A0 H locs ls X hA Y hl
  obtain ⟨hx, hb, hml, hr, hlk, hown, hts, hK, hf, hlo⟩ := id X
  exact lv_icmp_gt hx hb hd ht (fun z => by first | exact absurd h z | exact absurd z h) (fun _ => k l D C ad p ev R s m args below meth c A0 H locs ls X hA Y hl)
theorem a_if_le_t {x : Int32} {off : Int} (tgt : Nat) (hd : decode M.2.1 pc = .ok (.ifCond .le off, 3)) (ht : (pc : Int) + off = (tgt : Int)) (h : x ≤ 0) (k : A e M (tgt) loc (stk) σ r τ) : A e M pc loc (.int x :: stk) σ r τ := by
  intro l D C ad p ev R s m args below meth c A0 H locs ls X hA Y hl
  obtain ⟨hx, hb, hml, hr, hlk, hown, hts, hK, hf, hlo⟩ := id X
  exact lv_if_le hx hb hd ht (fun _ => k l D C ad p ev R s m args below meth c A0 H locs ls X hA Y hl) (fun z => by first | exact absurd h z | exact absurd z h)
theorem a_if_le_f {x : Int32} {off : Int} (tgt : Nat) (hd : decode M.2.1 pc = .ok (.ifCond .le off, 3)) (ht : (pc : Int) + off = (tgt : Int)) (h : ¬ x ≤ 0) (k : A e M (pc + 3) loc (stk) σ r τ) : A e M pc loc (.int x :: stk) σ r τ := by
  intro l D C ad p ev R s m args below meth c A0 H locs ls X hA Y hl
  obtain ⟨hx, hb, hml, hr, hlk, hown, hts, hK, hf, hlo⟩ := id X
  exact lv_if_le hx hb hd ht (fun z => by first | exact absurd h z | exact absurd z h) (fun _ => k l D C ad p ev R s m args below meth c A0 H locs ls X hA Y hl)
theorem a_icmp_le_t {x y : Int32} {off : Int} (tgt : Nat) (hd : decode M.2.1 pc = .ok (.if_icmp .le off, 3)) (ht : (pc : Int) + off = (tgt : Int)) (h : x ≤ y) (k : A e M (tgt) loc (stk) σ r τ) : A e M pc loc (.int y :: .int x :: stk) σ r τ := by
  intro l D C ad p ev R s m args below meth c A0 H locs ls X hA Y hl
  obtain ⟨hx, hb, hml, hr, hlk, hown, hts, hK, hf, hlo⟩ := id X
  exact lv_icmp_le hx hb hd ht (fun _ => k l D C ad p ev R s m args below meth c A0 H locs ls X hA Y hl) (fun z => by first | exact absurd h z | exact absurd z h)
theorem a_icmp_le_f {x y : Int32} {off : Int} (tgt : Nat) (hd : decode M.2.1 pc = .ok (.if_icmp .le off, 3)) (ht : (pc : Int) + off = (tgt : Int)) (h : ¬ x ≤ y) (k : A e M (pc + 3) loc (stk) σ r τ) : A e M pc loc (.int y :: .int x :: stk) σ r τ := by
  intro l D C ad p ev R s m args below meth c A0 H locs ls X hA Y hl
  obtain ⟨hx, hb, hml, hr, hlk, hown, hts, hK, hf, hlo⟩ := id X
  exact lv_icmp_le hx hb hd ht (fun z => by first | exact absurd h z | exact absurd z h) (fun _ => k l D C ad p ev R s m args below meth c A0 H locs ls X hA Y hl)
theorem a_goto {off : Int} (tgt : Nat) (hd : decode M.2.1 pc = .ok (.goto off, 3)) (ht : (pc : Int) + off = (tgt : Int)) (k : A e M (tgt) loc (stk) σ r τ) : A e M pc loc (stk) σ r τ := by
  intro l D C ad p ev R s m args below meth c A0 H locs ls X hA Y hl
  obtain ⟨hx, hb, hml, hr, hlk, hown, hts, hK, hf, hlo⟩ := id X
  exact lv_goto hx hb hd ht (k l D C ad p ev R s m args below meth c A0 H locs ls X hA Y hl)
theorem a_ifnull_r {x : Nat} {off : Int} (hd : decode M.2.1 pc = .ok (.ifnull off, 3)) (k : A e M (pc + 3) loc (stk) σ r τ) : A e M pc loc (.ref x :: stk) σ r τ := by
  intro l D C ad p ev R s m args below meth c A0 H locs ls X hA Y hl
  obtain ⟨hx, hb, hml, hr, hlk, hown, hts, hK, hf, hlo⟩ := id X
  exact lv_ifnull hx hb hd (k l D C ad p ev R s m args below meth c A0 H locs ls X hA Y hl)
theorem a_ifnonnull_r {x : Nat} {off : Int} (tgt : Nat) (hd : decode M.2.1 pc = .ok (.ifnonnull off, 3)) (ht : (pc : Int) + off = (tgt : Int)) (k : A e M (tgt) loc (stk) σ r τ) : A e M pc loc (.ref x :: stk) σ r τ := by
  intro l D C ad p ev R s m args below meth c A0 H locs ls X hA Y hl
  obtain ⟨hx, hb, hml, hr, hlk, hown, hts, hK, hf, hlo⟩ := id X
  exact lv_ifnonnull hx hb hd ht (k l D C ad p ev R s m args below meth c A0 H locs ls X hA Y hl)
theorem a_ifnull_n {off : Int} (tgt : Nat) (hd : decode M.2.1 pc = .ok (.ifnull off, 3)) (ht : (pc : Int) + off = (tgt : Int)) (k : A e M (tgt) loc (stk) σ r τ) : A e M pc loc (.null :: stk) σ r τ := by
  intro l D C ad p ev R s m args below meth c A0 H locs ls X hA Y hl
  obtain ⟨hx, hb, hml, hr, hlk, hown, hts, hK, hf, hlo⟩ := id X
  exact lv_ifnullN hx hb hd ht (k l D C ad p ev R s m args below meth c A0 H locs ls X hA Y hl)
theorem a_ifnonnull_n {off : Int} (hd : decode M.2.1 pc = .ok (.ifnonnull off, 3)) (k : A e M (pc + 3) loc (stk) σ r τ) : A e M pc loc (.null :: stk) σ r τ := by
  intro l D C ad p ev R s m args below meth c A0 H locs ls X hA Y hl
  obtain ⟨hx, hb, hml, hr, hlk, hown, hts, hK, hf, hlo⟩ := id X
  exact lv_ifnonnullN hx hb hd (k l D C ad p ev R s m args below meth c A0 H locs ls X hA Y hl)
theorem a_tabOut {x : Int32} {dflt lo hi : Int} {offs : Array Int} {len : Nat} (tgt : Nat) (hd : decode M.2.1 pc = .ok (.tableswitch dflt lo hi offs, len)) (h : x.toInt < lo ∨ hi < x.toInt) (ht : (pc : Int) + dflt = (tgt : Int)) (k : A e M (tgt) loc (stk) σ r τ) : A e M pc loc (.int x :: stk) σ r τ := by
  intro l D C ad p ev R s m args below meth c A0 H locs ls X hA Y hl
  obtain ⟨hx, hb, hml, hr, hlk, hown, hts, hK, hf, hlo⟩ := id X
  exact lv_tableOut hx hb hd h ht (k l D C ad p ev R s m args below meth c A0 H locs ls X hA Y hl)
theorem a_tabIn {x : Int32} {dflt lo hi off : Int} {offs : Array Int} {len : Nat} (v : Int32) (tgt : Nat) (hd : decode M.2.1 pc = .ok (.tableswitch dflt lo hi offs, len)) (h : x = v) (h1 : ¬ v.toInt < lo) (h2 : ¬ hi < v.toInt) (ho : offs[(v.toInt - lo).toNat]? = some off) (ht : (pc : Int) + off = (tgt : Int)) (k : A e M (tgt) loc (stk) σ r τ) : A e M pc loc (.int x :: stk) σ r τ := by
  intro l D C ad p ev R s m args below meth c A0 H locs ls X hA Y hl
  obtain ⟨hx, hb, hml, hr, hlk, hown, hts, hK, hf, hlo⟩ := id X
  subst h
  exact lv_tableIn hx hb hd h1 h2 ho ht (k l D C ad p ev R s m args below meth c A0 H locs ls X hA Y hl)
theorem a_top {v w : Value} (h : v = w) (k : A e M (pc) loc (w :: stk) σ r τ) : A e M pc loc (v :: stk) σ r τ := by
  intro l D C ad p ev R s m args below meth c A0 H locs ls X hA Y hl
  obtain ⟨hx, hb, hml, hr, hlk, hown, hts, hK, hf, hlo⟩ := id X
  subst h
  exact k l D C ad p ev R s m args below meth c A0 H locs ls X hA Y hl
theorem a_iret {v : Int32} (hM : M.2.2.2 = some .int) (hd : decode M.2.1 pc = .ok (.ireturn, 1)) : A e M pc loc [.int v] τ (some (.int v)) τ := by
  intro l D C ad p ev R s m args below meth c A0 H locs ls X hA Y hl
  obtain ⟨hx, hb, hml, hr, hlk, hown, hts, hK, hf, hlo⟩ := id X
  exact W.iret hx hb (by rw [hr, hM]) (fun t ht hW => ⟨⟨rfl, by rw [ht]; exact Y.1, aK.warm hW hK, Y.2.1⟩, Y.2.2.F ht⟩) Y.2.2.2.2 hd hlk
theorem a_zret {v : Int32} (hM : M.2.2.2 = some .boolean) (hv : v = 0 ∨ v = 1) (hd : decode M.2.1 pc = .ok (.ireturn, 1)) : A e M pc loc [.int v] τ (some (.int v)) τ := by
  intro l D C ad p ev R s m args below meth c A0 H locs ls X hA Y hl
  obtain ⟨hx, hb, hml, hr, hlk, hown, hts, hK, hf, hlo⟩ := id X
  exact W.zret hx hb (by rw [hr, hM]) (by rcases hv with rfl | rfl <;> rfl) (fun t ht hW => ⟨⟨rfl, by rw [ht]; exact Y.1, aK.warm hW hK, Y.2.1⟩, Y.2.2.F ht⟩) Y.2.2.2.2 hd hlk
theorem a_lret {v : Int64} (hM : M.2.2.2 = some .long) (hd : decode M.2.1 pc = .ok (.lreturn, 1)) : A e M pc loc [.long v] τ (some (.long v)) τ := by
  intro l D C ad p ev R s m args below meth c A0 H locs ls X hA Y hl
  obtain ⟨hx, hb, hml, hr, hlk, hown, hts, hK, hf, hlo⟩ := id X
  exact W.lret hx hb (by rw [hr, hM]) (fun t ht hW => ⟨⟨rfl, by rw [ht]; exact Y.1, aK.warm hW hK, Y.2.1⟩, Y.2.2.F ht⟩) Y.2.2.2.2 hd (hlocks := hlk)
theorem a_vret (hM : M.2.2.2 = none) (hd : decode M.2.1 pc = .ok (.return_, 1)) : A e M pc loc [] τ none τ := by
  intro l D C ad p ev R s m args below meth c A0 H locs ls X hA Y hl
  obtain ⟨hx, hb, hml, hr, hlk, hown, hts, hK, hf, hlo⟩ := id X
  exact W.vret hx hb (by rw [hr, hM]) (fun t ht hW => ⟨⟨rfl, by rw [ht]; exact Y.1, aK.warm hW hK, Y.2.1⟩, Y.2.2.F ht⟩) Y.2.2.2.2 hd hlk
end AR
end
section
section AH
variable {e : Nat} {M : MI} {pc : Nat} {loc loc' : List (Nat × Value)} {stk : List Value} {σ τ : St} {r : Option Value}
/-- a field link of class own at the place ix: slot k of the class of number ci -/
def FL (own : String) (ix ci k : Nat) : Prop := ∃ (C : String) (T : u_T) (N : Nat), vwCl[ci]? = some (C, T, N) ∧ k < N ∧ (T k).1 = C ∧ Cond.fieldLink own ix C (T k).2.1 (T k).2.2.1 ∈ aT ∧ (∀ w ∈ u_ws C T N, w ∈ aT)
/-- the same, of a field that may be written -/
def tyOf : Nat → FieldType
  | 1 => .long
  | 3 => .boolean
  | _ => .int
def FP (own : String) (ix ci k : Nat) : Prop := ∃ (C : String) (T : u_T) (N : Nat) (ty0 : Nat → FieldType), vwCl[ci]? = some (C, T, N) ∧ k < N ∧ (T k).1 = C ∧ Cond.fieldLink own ix C (T k).2.1 (T k).2.2.1 ∈ aT ∧ (∀ w ∈ u_ws C T N, w ∈ aT) ∧
  (∀ k, k < N → parseFieldDescriptor (T k).2.2.1 = some (ty0 k)) ∧ (∀ a, a < N → ∀ b, b < N → a ≠ b → (T a).2.1 ≠ (T b).2.1) ∧ (T k).2.2.2 = false ∧ parseFieldDescriptor (T k).2.2.1 = some (tyOf (sty ci k))
theorem a_get {i k ix n : Nat} (v : Value) (hi : i < NN) (hk : kd i = 1) (hn : nsl i = n) (hkn : k < n) (hf : FL M.1.cls ix (cl i) k) (hv : av σ i k = v) (hd : decode M.2.1 pc = .ok (.getfield ix, 3)) (kk : A e M (pc + 3) loc (v :: stk) σ r τ) : A e M pc loc (.ref i :: stk) σ r τ := by
  intro l D C ad p ev R s m args below meth c A0 H locs ls X hA Y hl
  obtain ⟨hx, hb, hml, hr, hlk, hown, hts, hK, -, -⟩ := id X
  obtain ⟨Cn, T, N, h1, h2, h3, h4, h5⟩ := hf
  subst hn
  refine va_get (v := rv ad v) hx hb hts h5 hown hK.1 Y.1 i (wsE_at ad C σ hi |>.trans (by rw [cellE_1 ad C σ hk])) h1 k h2 (hts _ h4) (fun x hx => by rw [h3] at hx; exact hx) ?_ hd ?_
  · rw [List.getElem?_map, List.getElem?_range hkn, ← hv]; rfl
  · exact kk l D C ad p ev R s m args below meth c A0 H locs ls X hA Y hl
theorem fits_int (x : Int32) : fits .int (.int x) = true := rfl
theorem av_setI_self {i k : Nat} {x : Int32} (h : sty (cl i) k = 0 ∨ sty (cl i) k = 3) : av (setI σ i k x) i k = .int x := by
  rcases h with h | h <;> simp [av, h, setI]
theorem av_setI_ne {i k j : Nat} {x : Int32} (h : j ≠ k) : av (setI σ i k x) i j = av σ i j := by
  have e1 : (setI σ i k x).1 i j = σ.1 i j := by simp [setI, h]
  simp only [av, e1]; rfl
theorem av_setL_self {i k : Nat} {x : Int64} (h : sty (cl i) k = 1) : av (setL σ i k x) i k = .long x := by
  simp [av, h, setL]
theorem av_setL_ne {i k j : Nat} {x : Int64} (h : j ≠ k) : av (setL σ i k x) i j = av σ i j := by
  have e1 : (setL σ i k x).2 i j = σ.2 i j := by simp [setL, h]
  simp only [av, e1]; rfl
theorem range_set {n k : Nat} {ad : Nat → Nat} {f g : Nat → Value} {v : Value} (hk : k < n) (h1 : v = rv ad (g k)) (h2 : ∀ j, j ≠ k → g j = f j) : ((List.range n).map fun j => rv ad (f j)).set k v = (List.range n).map fun j => rv ad (g j) := by
  apply List.ext_getElem?
  intro j
  by_cases hj : j = k
  · subst hj
    rw [List.getElem?_set_self (by simpa using hk), List.getElem?_map, List.getElem?_range hk, h1]
    rfl
  · rw [List.getElem?_set_ne (Ne.symm hj), List.getElem?_map, List.getElem?_map]
    by_cases hl : j < n
    · rw [List.getElem?_range hl]
      simp [h2 j hj]
    · simp [List.getElem?_eq_none (by simp; omega : (List.range n).length ≤ j)]
theorem a_putI {i k ix n : Nat} {x : Int32} (hi : i < NN) (hk : kd i = 1) (hn : nsl i = n) (hkn : k < n) (hf : FP M.1.cls ix (cl i) k) (hs : sty (cl i) k = 0 ∨ (sty (cl i) k = 3 ∧ (x = 0 ∨ x = 1))) (hd : decode M.2.1 pc = .ok (.putfield ix, 3)) (kk : A e M (pc + 3) loc stk (setI σ i k x) r τ) : A e M pc loc (.int x :: .ref i :: stk) σ r τ := by
  intro l D C ad p ev R s m args below meth c A0 H locs ls X hA Y hl
  obtain ⟨hx, hb, hml, hr, hlk, hown, hts, hK, -, -⟩ := id X
  obtain ⟨Cn, T, N, ty0, h1, h2, h3, h4, h5, h6, h7, h8, h9⟩ := hf
  subst hn
  have hs2 : sty (cl i) k = 0 ∨ sty (cl i) k = 3 := by rcases hs with h | h; exact Or.inl h; exact Or.inr h.1
  have hnar : narrow (tyOf (sty (cl i) k)) (.int x) = .int x ∧ fits (tyOf (sty (cl i) k)) (.int x) = true := by
    rcases hs with h | ⟨h, rfl | rfl⟩ <;> rw [h] <;> exact ⟨rfl, rfl⟩
  refine va_put (ty := tyOf (sty (cl i) k)) hx hb hts h5 ty0 h6 h7 hown hK.1 Y.1 Y.2.1 Y.2.2 i (wsE_at ad C σ hi |>.trans (by rw [cellE_1 ad C σ hk])) h1 k h2 (hts _ h4) (fun x hx => by rw [h3] at hx; exact hx) h8 h9 hnar.1 hnar.2 (by simpa using hkn) hd (fun H1 locs1 q1 q2 q3 => ?_)
  have e1 := wsE_set ad C σ (setI σ i k x) hi (e := .inr (cl i, ((List.range (nsl i)).map fun j => rv ad (av σ i j)).set k (rv ad (.int x)))) (by
    rw [cellE_1 ad C _ hk, range_set hkn (g := av (setI σ i k x) i) (by rw [av_setI_self hs2]) (fun j hj => av_setI_ne hj)]) (fun j hj => cellE_setI_ne ad C σ hj)
  rw [e1] at q1 q2
  exact kk l D C ad p ev R s m args below meth c A0 H1 locs1 ls X hA ⟨q1, q2, q3⟩ hl
theorem a_putL {i k ix n : Nat} {x : Int64} (hi : i < NN) (hk : kd i = 1) (hn : nsl i = n) (hkn : k < n) (hf : FP M.1.cls ix (cl i) k) (hs : sty (cl i) k = 1) (hd : decode M.2.1 pc = .ok (.putfield ix, 3)) (kk : A e M (pc + 3) loc stk (setL σ i k x) r τ) : A e M pc loc (.long x :: .ref i :: stk) σ r τ := by
  intro l D C ad p ev R s m args below meth c A0 H locs ls X hA Y hl
  obtain ⟨hx, hb, hml, hr, hlk, hown, hts, hK, -, -⟩ := id X
  obtain ⟨Cn, T, N, ty0, h1, h2, h3, h4, h5, h6, h7, h8, h9⟩ := hf
  subst hn
  rw [hs] at h9
  refine va_put (ty := .long) hx hb hts h5 ty0 h6 h7 hown hK.1 Y.1 Y.2.1 Y.2.2 i (wsE_at ad C σ hi |>.trans (by rw [cellE_1 ad C σ hk])) h1 k h2 (hts _ h4) (fun x hx => by rw [h3] at hx; exact hx) h8 h9 rfl rfl (by simpa using hkn) hd (fun H1 locs1 q1 q2 q3 => ?_)
  have e1 := wsE_set ad C σ (setL σ i k x) hi (e := .inr (cl i, ((List.range (nsl i)).map fun j => rv ad (av σ i j)).set k (rv ad (.long x)))) (by
    rw [cellE_1 ad C _ hk, range_set hkn (g := av (setL σ i k x) i) (by rw [av_setL_self hs]) (fun j hj => av_setL_ne hj)]) (fun j hj => cellE_setL_ne ad C σ hj)
  rw [e1] at q1 q2
  exact kk l D C ad p ev R s m args below meth c A0 H1 locs1 ls X hA ⟨q1, q2, q3⟩ hl
theorem a_iald {i n : Nat} {j : Int32} (hi : i < NN) (hk : kd i = 2) (hn : nsl i = n) (hb : inb j n = true) (hd : decode M.2.1 pc = .ok (.iaload, 1)) (kk : A e M (pc + 1) loc (.int (σ.1 i j.toNatClampNeg) :: stk) σ r τ) : A e M pc loc (.int j :: .ref i :: stk) σ r τ := by
  intro l D C ad p ev R s m args below meth c A0 H locs ls X hA Y hl
  obtain ⟨hx, hbb, hml, hr, hlk, hown, hts, hK, -, -⟩ := id X
  subst hn
  exact va_iald hx hbb hK.1 Y.1 i 0 (wsE_at ad C σ hi |>.trans (by rw [cellE_2 ad C σ hk])) rfl (inb_vp hb) hd (kk l D C ad p ev R s m args below meth c A0 H locs ls X hA Y hl)
theorem a_lald {i n : Nat} {j : Int32} (hi : i < NN) (hk : kd i = 3) (hn : nsl i = n) (hb : inb j n = true) (hd : decode M.2.1 pc = .ok (.laload, 1)) (kk : A e M (pc + 1) loc (.long (σ.2 i j.toNatClampNeg) :: stk) σ r τ) : A e M pc loc (.int j :: .ref i :: stk) σ r τ := by
  intro l D C ad p ev R s m args below meth c A0 H locs ls X hA Y hl
  obtain ⟨hx, hbb, hml, hr, hlk, hown, hts, hK, -, -⟩ := id X
  subst hn
  exact va_lald hx hbb hK.1 Y.1 i 1 (wsE_at ad C σ hi |>.trans (by rw [cellE_3 ad C σ hk])) rfl (inb_vp hb) hd (kk l D C ad p ev R s m args below meth c A0 H locs ls X hA Y hl)
theorem a_aald {i n : Nat} {j : Int32} (v : Nat) (hi : i < NN) (hk : kd i = 4) (hn : nsl i = n) (hb : inb j n = true) (hv : rfv i j.toNatClampNeg = v) (hd : decode M.2.1 pc = .ok (.aaload, 1)) (kk : A e M (pc + 1) loc (.ref v :: stk) σ r τ) : A e M pc loc (.int j :: .ref i :: stk) σ r τ := by
  intro l D C ad p ev R s m args below meth c A0 H locs ls X hA Y hl
  obtain ⟨hx, hbb, hml, hr, hlk, hown, hts, hK, -, -⟩ := id X
  subst hn; subst hv
  exact va_aldq (f := fun j => some (ad (rfv i j))) hx hbb hK.1 Y.1 i 2 (wsE_at ad C σ hi |>.trans (by rw [cellE_4 ad C σ hk])) rfl (inb_vp hb) hd (kk l D C ad p ev R s m args below meth c A0 H locs ls X hA Y hl)
theorem a_iast {i n : Nat} {j x : Int32} (hi : i < NN) (hk : kd i = 2) (hn : nsl i = n) (hb : inb j n = true) (hd : decode M.2.1 pc = .ok (.iastore, 1)) (kk : A e M (pc + 1) loc stk (setI σ i j.toNatClampNeg x) r τ) : A e M pc loc (.int x :: .int j :: .ref i :: stk) σ r τ := by
  intro l D C ad p ev R s m args below meth c A0 H locs ls X hA Y hl
  obtain ⟨hx, hbb, hml, hr, hlk, hown, hts, hK, -, -⟩ := id X
  subst hn
  refine va_iast hx hbb hK.1 Y.1 Y.2.1 Y.2.2 i 0 (wsE_at ad C σ hi |>.trans (by rw [cellE_2 ad C σ hk])) rfl (inb_vp hb) hd (fun H1 locs1 q1 q2 q3 => ?_)
  have e1 := wsE_set ad C σ (setI σ i j.toNatClampNeg x) hi (e := .inl (C.1, (nsl i, .inl (upd (σ.1 i) j.toNatClampNeg x)))) (by
    rw [cellE_2 ad C _ hk]
    congr 4
    funext b
    simp [setI, upd]) (fun j hj => cellE_setI_ne ad C σ hj)
  rw [e1] at q1 q2
  exact kk l D C ad p ev R s m args below meth c A0 H1 locs1 ls X hA ⟨q1, q2, q3⟩ hl
theorem a_last {i n : Nat} {j : Int32} {x : Int64} (hi : i < NN) (hk : kd i = 3) (hn : nsl i = n) (hb : inb j n = true) (hd : decode M.2.1 pc = .ok (.lastore, 1)) (kk : A e M (pc + 1) loc stk (setL σ i j.toNatClampNeg x) r τ) : A e M pc loc (.long x :: .int j :: .ref i :: stk) σ r τ := by
  intro l D C ad p ev R s m args below meth c A0 H locs ls X hA Y hl
  obtain ⟨hx, hbb, hml, hr, hlk, hown, hts, hK, -, -⟩ := id X
  subst hn
  refine va_last hx hbb hK.1 Y.1 Y.2.1 Y.2.2 i 1 (wsE_at ad C σ hi |>.trans (by rw [cellE_3 ad C σ hk])) rfl (inb_vp hb) hd (fun H1 locs1 q1 q2 q3 => ?_)
  have e1 := wsE_set ad C σ (setL σ i j.toNatClampNeg x) hi (e := .inl (C.2.1, (nsl i, .inr (.inl (vp_updL (σ.2 i) j.toNatClampNeg x))))) (by
    rw [cellE_3 ad C _ hk]
    congr 5
    funext b
    simp [setL, vp_updL]) (fun j hj => cellE_setL_ne ad C σ hj)
  rw [e1] at q1 q2
  exact kk l D C ad p ev R s m args below meth c A0 H1 locs1 ls X hA ⟨q1, q2, q3⟩ hl
theorem a_alen {i n : Nat} {v : Int32} (hi : i < NN) (hk : kd i = 2 ∨ kd i = 3) (hn : nsl i = n) (hv : Int32.ofNat n = v) (hd : decode M.2.1 pc = .ok (.arraylength, 1)) (kk : A e M (pc + 1) loc (.int v :: stk) σ r τ) : A e M pc loc (.ref i :: stk) σ r τ := by
  intro l D C ad p ev R s m args below meth c A0 H locs ls X hA Y hl
  obtain ⟨hx, hbb, hml, hr, hlk, hown, hts, hK, -, -⟩ := id X
  subst hn
  rcases hk with hk | hk
  · exact va_alen hx hbb hK.1 Y.1 i 0 (wsE_at ad C σ hi |>.trans (by rw [cellE_2 ad C σ hk])) rfl hv hd (kk l D C ad p ev R s m args below meth c A0 H locs ls X hA Y hl)
  · exact va_alen hx hbb hK.1 Y.1 i 1 (wsE_at ad C σ hi |>.trans (by rw [cellE_3 ad C σ hk])) rfl hv hd (kk l D C ad p ev R s m args below meth c A0 H locs ls X hA Y hl)
/-- System.arraycopy from both starts -/
def CPL (own : String) (ix : Nat) : Prop := Cond.methodLink own ix arraycopyName ∈ aT ∧ Cond.native arraycopyName ∈ aT ∧ Cond.static arraycopyName ∈ aT ∧ Cond.initialized "java/lang/System" ∈ aT
theorem a_cpyI {i j ix n0 n1 : Nat} {n : Int32} (hi : i < NN) (hj : j < NN) (hki : kd i = 2) (hkj : kd j = 2) (hni : nsl i = n0) (hnj : nsl j = n1) (hf : CPL M.1.cls ix) (h3 : ¬ n < 0) (h4 : n.toNatClampNeg ≤ n0) (h5 : n.toNatClampNeg ≤ n1) (hw : ((stk.map (rv id)).map fun v => v.category).sum ≤ 8) (hd : decode M.2.1 pc = .ok (.invokestatic ix, 3)) (kk : A (e + 1) M (pc + 3) loc stk (cpyI σ i j n.toNatClampNeg) r τ) : A (e + 1) M pc loc (.int n :: .int 0 :: .ref j :: .int 0 :: .ref i :: stk) σ r τ := by
  intro l D C ad p ev R s m args below meth c A0 H locs ls X hA Y hl
  obtain ⟨hx, hbb, hml, hr, hlk, hown, hts, hK, hf1, hf2⟩ := id X
  obtain ⟨w1, w2, w3, w4⟩ := hf
  subst hni; subst hnj
  have hw2 : ((stk.map (rv ad)).map fun v => v.category).sum ≤ 8 := by
    have e1 : ∀ f : Nat → Nat, ((stk.map (rv f)).map fun v => v.category) = stk.map fun v => v.category := fun f => by simp [Function.comp_def, rv_cat]
    rw [e1] at hw ⊢; exact hw
  refine va_copyi hx hbb (hml.trans hl.1.symm) hown (hts _ w1) (hts _ w2) (hts _ w3) (hts _ w4) hK.1 Y.1 Y.2.1 Y.2.2 i j 0 0 (wsE_at ad C σ hi |>.trans (by rw [cellE_2 ad C σ hki])) (wsE_at ad C σ hj |>.trans (by rw [cellE_2 ad C σ hkj])) rfl rfl rfl (by decide) (by decide) h3 (by simpa using h4) (by simpa using h5) (fun _ _ => rfl) (by omega) (Nat.le_trans (Nat.add_le_add_right hw2 _) (Nat.le_trans (show 8 + (nativeFrameWords "java/lang/System" "arraycopy" 5 + 11) ≤ 34 from by decide +kernel) (by omega))) hd (fun H1 locs1 q1 q2 q3 => ?_)
  have e1 := wsE_set ad C σ (cpyI σ i j n.toNatClampNeg) hj (e := .inl (C.1, (nsl j, .inl (va_cpy (σ.1 i) (σ.1 j) (0 : Int32).toNatClampNeg (0 : Int32).toNatClampNeg n.toNatClampNeg)))) (by
    rw [cellE_2 ad C _ hkj]
    congr 4
    funext b
    simp [cpyI, va_cpy]) (fun a ha => cellE_cpyI_ne ad C σ ha)
  rw [e1] at q1 q2
  exact kk l D C ad p ev R s m args below meth c A0 H1 locs1 ls X hA ⟨q1, q2, q3⟩ hl
theorem a_cpyL {i j ix n0 n1 : Nat} {n : Int32} (hi : i < NN) (hj : j < NN) (hki : kd i = 3) (hkj : kd j = 3) (hni : nsl i = n0) (hnj : nsl j = n1) (hf : CPL M.1.cls ix) (h3 : ¬ n < 0) (h4 : n.toNatClampNeg ≤ n0) (h5 : n.toNatClampNeg ≤ n1) (hw : ((stk.map (rv id)).map fun v => v.category).sum ≤ 8) (hd : decode M.2.1 pc = .ok (.invokestatic ix, 3)) (kk : A (e + 1) M (pc + 3) loc stk (cpyL σ i j n.toNatClampNeg) r τ) : A (e + 1) M pc loc (.int n :: .int 0 :: .ref j :: .int 0 :: .ref i :: stk) σ r τ := by
  intro l D C ad p ev R s m args below meth c A0 H locs ls X hA Y hl
  obtain ⟨hx, hbb, hml, hr, hlk, hown, hts, hK, hf1, hf2⟩ := id X
  obtain ⟨w1, w2, w3, w4⟩ := hf
  subst hni; subst hnj
  have hw2 : ((stk.map (rv ad)).map fun v => v.category).sum ≤ 8 := by
    have e1 : ∀ f : Nat → Nat, ((stk.map (rv f)).map fun v => v.category) = stk.map fun v => v.category := fun f => by simp [Function.comp_def, rv_cat]
    rw [e1] at hw ⊢; exact hw
  refine va_copyl hx hbb (hml.trans hl.1.symm) hown (hts _ w1) (hts _ w2) (hts _ w3) (hts _ w4) hK.1 Y.1 Y.2.1 Y.2.2 i j 1 1 (wsE_at ad C σ hi |>.trans (by rw [cellE_3 ad C σ hki])) (wsE_at ad C σ hj |>.trans (by rw [cellE_3 ad C σ hkj])) rfl rfl rfl (by decide) (by decide) h3 (by simpa using h4) (by simpa using h5) (fun _ _ => rfl) (by omega) (Nat.le_trans (Nat.add_le_add_right hw2 _) (Nat.le_trans (show 8 + (nativeFrameWords "java/lang/System" "arraycopy" 5 + 11) ≤ 34 from by decide +kernel) (by omega))) hd (fun H1 locs1 q1 q2 q3 => ?_)
  have e1 := wsE_set ad C σ (cpyL σ i j n.toNatClampNeg) hj (e := .inl (C.2.1, (nsl j, .inr (.inl (va_cpy (σ.2 i) (σ.2 j) (0 : Int32).toNatClampNeg (0 : Int32).toNatClampNeg n.toNatClampNeg))))) (by
    rw [cellE_3 ad C _ hkj]
    congr 5
    funext b
    simp [cpyL, va_cpy]) (fun a ha => cellE_cpyL_ne ad C σ ha)
  rw [e1] at q1 q2
  exact kk l D C ad p ev R s m args below meth c A0 H1 locs1 ls X hA ⟨q1, q2, q3⟩ hl
/-- calls: the words of a site -/
def VL (own : String) (ix ci : Nat) (M' : MI) (n : Nat) : Prop := (∃ (T : u_T) (N : Nat), vwCl[ci]? = some (M'.1.cls, T, N)) ∧ (Cond.methodLink own ix M'.1 ∈ aT ∨ ∃ host, Cond.methodLinkNest own ix M'.1 host ∈ aNst) ∧ Cond.instanceMethod M'.1 ∈ aT ∧ Cond.selects M'.1.cls M'.1 M'.1 ∈ aT ∧ Cond.initialized M'.1.cls ∈ aT ∧ Cond.code M'.1 M'.2.1 M'.2.2.1 M'.2.2.2 ∈ aT ∧
  (M'.1.cls ≠ "java/lang/invoke/MethodHandle" ∧ M'.1.cls ≠ "java/lang/invoke/VarHandle" ∧ (parseMethodDescriptor M'.1.desc).map (fun d => d.parameters.length) = some n) ∧ M'.2.2.1 ≤ 15
def SL (own : String) (ix : Nat) (M' : MI) (n : Nat) : Prop := (Cond.methodLink own ix M'.1 ∈ aT ∨ ∃ host, Cond.methodLinkNest own ix M'.1 host ∈ aNst) ∧ Cond.static M'.1 ∈ aT ∧ Cond.initialized M'.1.cls ∈ aT ∧ Cond.code M'.1 M'.2.1 M'.2.2.1 M'.2.2.2 ∈ aT ∧
  (M'.1.cls ≠ "java/lang/invoke/MethodHandle" ∧ M'.1.cls ≠ "java/lang/invoke/VarHandle" ∧ (parseMethodDescriptor M'.1.desc).map (fun d => d.parameters.length) = some n) ∧ M'.2.2.1 ≤ 15
theorem aT_good {w : Cond} (h : w ∈ aT) : w ∈ aT ∧ ((w.onTables && w.keeps) = true ∨ ∃ ty, w = .arrayClass ty) := ⟨h, good_of_word (List.mem_filter.mp h).2⟩
theorem mWs_good {M' : MI} (h : Cond.code M'.1 M'.2.1 M'.2.2.1 M'.2.2.2 ∈ aT) : GoodIn aT (mWs M') := fun w hw => by
  rcases List.mem_cons.mp hw with rfl | hw
  · exact aT_good h
  · exact aT_good hw
theorem rv_map_length (ad : Nat → Nat) (as : List Value) : (as.map (rv ad)).length = as.length := List.length_map ..
theorem cat_map (ad : Nat → Nat) (as : List Value) : ((as.map (rv ad)).map fun v => v.category) = as.map fun v => v.category := by simp [Function.comp_def, rv_cat]
/-- behind a call -/
theorem a_back {l : Launch} {D : va_G} {C : CT} {ad : Nat → Nat} {p : Program} {ev : Env} {R : Room} {s : State} {m : MethodId} {args : Array Value} {below : List Frame} {meth : Method} {c : Code} {A0 : Nat → Prop} {H : Heap} {locs : List Loc} {ls : Array Slot} {st0 : List Value} {a : Array Value} {q : Option Value} {σ1 : St} {Q : State → Prop}
    (hr : va_Run p l ev R s m args below meth c H locs 0 0 0 0 (F0 m pc ls st0) (stk.map (rv ad)) (aQ D C ad (va_A (wsE ad C σ) H.size) q σ1 a) (va_A (wsE ad C σ) H.size)) (hA : ∀ q, s.heap.size ≤ q → A0 q) (Y : Hp D C ad A0 s σ H locs)
    (kk : ∀ (H1 : Heap) (locs1 : List Loc), Hp D C ad A0 s σ1 H1 locs1 → W p l ev R s m args below meth c H1 locs1 0 0 Q (F0 m (pc + 3) ls (((q.toList ++ stk)).map (rv ad)))) : W p l ev R s m args below meth c H locs 0 0 Q (F0 m pc ls st0) := by
  intro T hT X
  obtain ⟨v, st₀, t, T', L, h0, X', hL, e1, e2, ⟨⟨hv, hB⟩, hz, hk⟩, st⟩ := hr T hT X
  rw [h0] at hz hk
  have hfree : ∀ z, va_A (wsE ad C σ) H.size z → A0 z := by
    intro z hz2
    rcases hz2 with ⟨k, w, hw⟩ | hw
    · exact Y.2.1.2 k _ hw
    · exact hA z (Nat.le_trans Y.2.2.1 hw)
  have hv' : v.toList ++ stk.map (rv ad) = ((q.toList ++ stk)).map (rv ad) := by
    have : v = q.map (rv ad) := by injection hv
    subst this
    cases q <;> simp
  have hS : va_S A0 s.heap T'.heap (locs ++ L) := by
    refine ⟨Nat.le_trans Y.2.2.1 (by rw [e1]; exact hz), fun z h1 h2 => ?_, fun z hz2 => ?_⟩
    · rw [e1, hk z (Nat.lt_of_lt_of_le h1 Y.2.2.1) (fun w => h2 (hfree z w))]
      exact Y.2.2.2.1 z h1 h2
    · rcases List.mem_append.mp hz2 with h | h
      · exact Y.2.2.2.2 z h
      · exact hfree _ (hL z h)
  have hP : va_P D vwCl (wsE ad C σ1) T'.heap := by rw [e1]; exact hB.1
  have hD : va_D A0 (wsE ad C σ1) := hB.2.2.weaken (fun k w _ h => hfree _ h)
  obtain ⟨t2, a1, b1⟩ := kk T'.heap (locs ++ L) ⟨hP, hD, hS⟩ T' rfl X'
  rw [← hv'] at a1
  exact ⟨t2, st t2 a1, b1⟩
theorem a_blind {D : va_G} {C : CT} {ad : Nat → Nat} {as : List Value} {sz : Nat} : FrameBlind (va_Pc (as.map (rv ad)) (fun U => U.heap.size = sz ∧ va_P D vwCl (wsE ad C σ) U.heap ∧ aK D C U ∧ va_D (fun _ => True) (wsE ad C σ))) := by
  intro a U g mk h
  obtain ⟨h1, h2, h3, h4, h5⟩ := h
  exact ⟨h1, h2, h3, aK.same (s := U) (U := U.calling g mk a) rfl h4, h5⟩
theorem a_preS {D : va_G} {C : CT} {ad : Nat → Nat} {as : List Value} {s : State} {H : Heap} {A0 : Nat → Prop} {locs : List Loc} (Y : Hp D C ad A0 s σ H locs) (hK : aK D C s) : PreS s H (va_Pc (as.map (rv ad)) (fun U => U.heap.size = H.size ∧ va_P D vwCl (wsE ad C σ) U.heap ∧ aK D C U ∧ va_D (fun _ => True) (wsE ad C σ))) (as.map (rv ad)) :=
  ⟨a_blind, fun U hU hW => ⟨rfl, by rw [hU], by rw [hU]; exact Y.1, aK.warm hW hK, Y.2.1.weaken (fun _ _ _ _ => trivial)⟩⟩
theorem a_callS {ix n : Nat} {as : List Value} {M' : MI} {q : Option Value} {σ1 : St} (hs : Sp e M' as σ q σ1) (hL : SL M.1.cls ix M' n) (hn : as.length = n) (hw : (stk.map fun v => v.category).sum ≤ 8) (hd : decode M.2.1 pc = .ok (.invokestatic ix, 3)) (kk : A (e + 1) M (pc + 3) loc (q.toList ++ stk) σ1 r τ) : A (e + 1) M pc loc (as.reverse ++ stk) σ r τ := by
  intro l D C ad p ev R s m args below meth c A0 H locs ls X hA Y hl
  obtain ⟨hx, hbb, hml, hr, hlk, hown, hts, hK, hf1, hf2⟩ := id X
  obtain ⟨hlink, w2, w3, w4, hdsc, h15⟩ := hL
  have hst : (F0 m pc ls ((as.reverse ++ stk).map (rv ad))).stack = (as.map (rv ad)).reverse ++ stk.map (rv ad) := by simp
  have hW : 2 * (F0 m pc ls ((as.reverse ++ stk).map (rv ad))).monitorRoom + ((stk.map (rv ad)).map fun v => v.category).sum ≤ 8 := by
    rw [cat_map]; exact lv_room hw
  have hroom : e + 1 ≤ R.frames ∧ 8 + (M'.2.2.1 + 11) + 34 * e ≤ R.locals := ⟨hf1, by omega⟩
  have hrun : va_Run p l ev R s m args below meth c H locs 0 0 0 0 (F0 m pc ls ((as.reverse ++ stk).map (rv ad))) (stk.map (rv ad)) (aQ D C ad (va_A (wsE ad C σ) H.size) q σ1 (as.map (rv ad)).toArray) (va_A (wsE ad C σ) H.size) := by
    rcases hlink with w1 | ⟨host, w1⟩
    · exact va_runS ⟨hx, hbb, hml, hown, hts⟩ (hs l D C ad H.size) ⟨callB_of (ws' := aT) n hts (mWs_good w4) rfl rfl rfl (hts _ w3) (hts _ w1) hdsc hroom, hts _ w2⟩ (a_preS Y hK) rfl (by simpa using hn) hl.1 hst hW hd ⟨Nat.zero_le _, Nat.zero_le _⟩
    · exact va_runSN ⟨hx, hbb, hml, hown, hts⟩ (hs l D C ad H.size) ⟨va_cnB (ws' := aT) n hts (mWs_good w4) rfl rfl rfl (hK.2 _ w1) (hts _ w3) hdsc hroom, hts _ w2, trivial⟩ (a_preS Y hK) rfl (by simpa using hn) hl.1 hst hW hd ⟨Nat.zero_le _, Nat.zero_le _⟩
  exact a_back hrun hA Y (fun H1 locs1 Y1 => kk l D C ad p ev R s m args below meth c A0 H1 locs1 ls X hA Y1 hl)
theorem a_callV {ix n i : Nat} {as : List Value} {M' : MI} {q : Option Value} {σ1 : St} (hs : Sp e M' (.ref i :: as) σ q σ1) (hi : i < NN) (hk : kd i = 1) (hL : VL M.1.cls ix (cl i) M' n) (hn : as.length = n) (hw : (stk.map fun v => v.category).sum ≤ 8) (hd : decode M.2.1 pc = .ok (.invokevirtual ix, 3)) (kk : A (e + 1) M (pc + 3) loc (q.toList ++ stk) σ1 r τ) : A (e + 1) M pc loc (as.reverse ++ .ref i :: stk) σ r τ := by
  intro l D C ad p ev R s m args below meth c A0 H locs ls X hA Y hl
  obtain ⟨hx, hbb, hml, hr, hlk, hown, hts, hK, hf1, hf2⟩ := id X
  obtain ⟨⟨T, N, hcl⟩, hlink, w2, w5, w3, w4, hdsc, h15⟩ := hL
  have hst : (F0 m pc ls ((as.reverse ++ .ref i :: stk).map (rv ad))).stack = (as.map (rv ad)).reverse ++ .ref (ad i) :: stk.map (rv ad) := by simp [rv]
  have hW : 2 * (F0 m pc ls ((as.reverse ++ .ref i :: stk).map (rv ad))).monitorRoom + ((stk.map (rv ad)).map fun v => v.category).sum ≤ 8 := by
    rw [cat_map]; exact lv_room hw
  have hroom : e + 1 ≤ R.frames ∧ 8 + (M'.2.2.1 + 11) + 34 * e ≤ R.locals := ⟨hf1, by omega⟩
  have hpre : PreV s H M'.1.cls (ad i) (va_Pc ((.ref i :: as).map (rv ad)) (fun U => U.heap.size = H.size ∧ va_P D vwCl (wsE ad C σ) U.heap ∧ aK D C U ∧ va_D (fun _ => True) (wsE ad C σ))) (as.map (rv ad)) :=
    ⟨a_blind, va_recv hK.1 Y.1 hcl (wsE_at ad C σ hi |>.trans (by rw [cellE_1 ad C σ hk])), fun U hU hW => (a_preS (as := .ref i :: as) Y hK).2 U hU hW⟩
  have hrun : va_Run p l ev R s m args below meth c H locs 0 0 0 0 (F0 m pc ls ((as.reverse ++ .ref i :: stk).map (rv ad))) (stk.map (rv ad)) (aQ D C ad (va_A (wsE ad C σ) H.size) q σ1 (.ref (ad i) :: as.map (rv ad)).toArray) (va_A (wsE ad C σ) H.size) := by
    rcases hlink with w1 | ⟨host, w1⟩
    · exact va_runV ⟨hx, hbb, hml, hown, hts⟩ (hs l D C ad H.size) ⟨callB_of (ws' := aT) n hts (mWs_good w4) rfl rfl rfl (hts _ w3) (hts _ w1) hdsc hroom, hts _ w2, hts _ w5⟩ hpre rfl (by simpa using hn) hl.1 hst hW hd ⟨Nat.zero_le _, Nat.zero_le _⟩
    · exact va_runVN ⟨hx, hbb, hml, hown, hts⟩ (hs l D C ad H.size) ⟨va_cnB (ws' := aT) n hts (mWs_good w4) rfl rfl rfl (hK.2 _ w1) (hts _ w3) hdsc hroom, hts _ w2, hts _ w5⟩ hpre rfl (by simpa using hn) hl.1 hst hW hd ⟨Nat.zero_le _, Nat.zero_le _⟩
  exact a_back hrun hA Y (fun H1 locs1 Y1 => kk l D C ad p ev R s m args below meth c A0 H1 locs1 ls X hA Y1 hl)
theorem lv_args_lm (ad : Nat → Nat) : ∀ (as : List Value) (k : Nat), lv_args k (as.map (rv ad)) = lm ad (lv_args k as)
  | [], _ => rfl
  | v :: as, k => by
    show (k, rv ad v) :: lv_args (if (rv ad v).category = 2 then k + 2 else k + 1) (as.map (rv ad)) = (k, rv ad v) :: lm ad (lv_args (if v.category = 2 then k + 2 else k + 1) as)
    rw [rv_cat, lv_args_lm ad as]
theorem lg_len (ad : Nat → Nat) : ∀ as : List Value, (lg_sl (as.map (rv ad))).length = (lg_sl as).length
  | [] => rfl
  | v :: as => by
    have h := lg_len ad as
    simp only [lg_sl, List.map_cons, List.flatMap_cons, List.length_append, rv_cat] at h ⊢
    rw [h]
    split <;> rfl
/-- a method's contract out of the walk of its body -/
theorem sp_of {as : List Value} (hy : plainName M.1.cls = true) (hlen : (lg_sl as).length ≤ M.2.2.1) (hq : lv_args 0 as = loc) (h : A e M 0 loc [] σ r τ) : Sp e M as σ r τ := by
  intro l D C ad sz
  refine Met.ofW (cc := M.2.1) (maxL := M.2.2.1) (ret := M.2.2.2) (ws' := aT) hy rfl ?_
  intro p ev s m args below meth c s₁ B hml hv
  obtain ⟨rfl, hsz, hP, hK, hD0⟩ := hv
  have hts := atoms_spec (ws := mWs M) B.pre
  have hown : s.vm.findClass M.1.cls = some m.cls := findClass_of_methodNamed B.named
  have hl := lv_entry (as.map (rv ad)) (n := M.2.2.1) (by rw [lg_len]; exact hlen)
  rw [lg_entry_eq]
  generalize (lg_sl (as.map (rv ad)) ++ List.replicate (M.2.2.1 - (lg_sl (as.map (rv ad))).length) Slot.unset).toArray = ls at hl ⊢
  rw [lv_args_lm, hq] at hl
  subst hsz
  exact h l D C ad p ev _ s m _ below meth c (va_A (wsE ad C σ) s.heap.size) s.heap [] ls ⟨B.exec, B.bytes, hml, B.returns, B.notSynchronized, hown, fun w hw => hts w (List.mem_cons_of_mem _ hw), hK, Nat.le_refl _, Nat.le_refl _⟩ (fun q hq => Or.inr hq) ⟨hP, hD0.self, va_S.rf⟩ hl
end AH
end
