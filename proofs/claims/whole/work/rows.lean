section
-- ===== PART A: goes FIRST, ahead of the names: the tables' words, and 'selects' of the private methods out of them =====
/-- a private method of a class that the tables say can be made, by its rows of tables_1 -/
def lw_okq (q : MethodName × Nat) : Prop := (q.1.cls ≠ "java/lang/invoke/MethodHandle" ∧ q.1.cls ≠ "java/lang/invoke/VarHandle") ∧ Cond.instantiable q.1.cls q.2 ∈ tables_1 ∧ Cond.privateMethod q.1 ∈ tables_1 ∧ Cond.instanceMethod q.1 ∈ tables_1
theorem lw_p0 : lw_okq (⟨"GivenGoesOn", "areTwo", "(II)Z"⟩, 11) := ⟨⟨by decide +kernel, by decide +kernel⟩, List.mem_of_getElem? (i := 15) (by decide +kernel), List.mem_of_getElem? (i := 311) (by decide +kernel), List.mem_of_getElem? (i := 312) (by decide +kernel)⟩
theorem lw_p1 : lw_okq (⟨"GivenGoesOn", "isPerson", "(I)Z"⟩, 11) := ⟨⟨by decide +kernel, by decide +kernel⟩, List.mem_of_getElem? (i := 15) (by decide +kernel), List.mem_of_getElem? (i := 315) (by decide +kernel), List.mem_of_getElem? (i := 316) (by decide +kernel)⟩
theorem lw_p2 : lw_okq (⟨"GivenGoesOn", "isGift", "(I)Z"⟩, 11) := ⟨⟨by decide +kernel, by decide +kernel⟩, List.mem_of_getElem? (i := 15) (by decide +kernel), List.mem_of_getElem? (i := 379) (by decide +kernel), List.mem_of_getElem? (i := 380) (by decide +kernel)⟩
theorem lw_p3 : lw_okq (⟨"GivenGoesOn", "whoMayHave", "(I)I"⟩, 11) := ⟨⟨by decide +kernel, by decide +kernel⟩, List.mem_of_getElem? (i := 15) (by decide +kernel), List.mem_of_getElem? (i := 406) (by decide +kernel), List.mem_of_getElem? (i := 407) (by decide +kernel)⟩
theorem lw_p4 : lw_okq (⟨"GivenGoesOn$World", "chosenBy", "(II)I"⟩, 9) := ⟨⟨by decide +kernel, by decide +kernel⟩, List.mem_of_getElem? (i := 68) (by decide +kernel), List.mem_of_getElem? (i := 443) (by decide +kernel), List.mem_of_getElem? (i := 444) (by decide +kernel)⟩
theorem lw_p5 : lw_okq (⟨"GivenGoesOn$World", "markOf", "(II)I"⟩, 9) := ⟨⟨by decide +kernel, by decide +kernel⟩, List.mem_of_getElem? (i := 68) (by decide +kernel), List.mem_of_getElem? (i := 447) (by decide +kernel), List.mem_of_getElem? (i := 448) (by decide +kernel)⟩
theorem lw_p6 : lw_okq (⟨"GivenGoesOn$Walks", "spread", "(JII)V"⟩, 2) := ⟨⟨by decide +kernel, by decide +kernel⟩, List.mem_of_getElem? (i := 170) (by decide +kernel), List.mem_of_getElem? (i := 490) (by decide +kernel), List.mem_of_getElem? (i := 491) (by decide +kernel)⟩
theorem lw_p7 : lw_okq (⟨"GivenGoesOn$Circle", "mostBehind", "(LGivenGoesOn$World;I)I"⟩, 2) := ⟨⟨by decide +kernel, by decide +kernel⟩, List.mem_of_getElem? (i := 184) (by decide +kernel), List.mem_of_getElem? (i := 526) (by decide +kernel), List.mem_of_getElem? (i := 527) (by decide +kernel)⟩
theorem lw_p8 : lw_okq (⟨"GivenGoesOn$Circle", "mostBy", "(LGivenGoesOn$World;II)I"⟩, 2) := ⟨⟨by decide +kernel, by decide +kernel⟩, List.mem_of_getElem? (i := 184) (by decide +kernel), List.mem_of_getElem? (i := 530) (by decide +kernel), List.mem_of_getElem? (i := 531) (by decide +kernel)⟩
theorem lw_p9 : lw_okq (⟨"GivenGoesOn$Circle", "firstOfMost", "(LGivenGoesOn$World;I)I"⟩, 2) := ⟨⟨by decide +kernel, by decide +kernel⟩, List.mem_of_getElem? (i := 184) (by decide +kernel), List.mem_of_getElem? (i := 539) (by decide +kernel), List.mem_of_getElem? (i := 540) (by decide +kernel)⟩
theorem lw_p10 : lw_okq (⟨"GivenGoesOn$World", "knownByAny", "(I)I"⟩, 9) := ⟨⟨by decide +kernel, by decide +kernel⟩, List.mem_of_getElem? (i := 68) (by decide +kernel), List.mem_of_getElem? (i := 560) (by decide +kernel), List.mem_of_getElem? (i := 561) (by decide +kernel)⟩
theorem lw_p11 : lw_okq (⟨"GivenGoesOn", "withPerson", "(JI)J"⟩, 11) := ⟨⟨by decide +kernel, by decide +kernel⟩, List.mem_of_getElem? (i := 15) (by decide +kernel), List.mem_of_getElem? (i := 661) (by decide +kernel), List.mem_of_getElem? (i := 662) (by decide +kernel)⟩
theorem lw_p12 : lw_okq (⟨"GivenGoesOn", "withGift", "(JI)J"⟩, 11) := ⟨⟨by decide +kernel, by decide +kernel⟩, List.mem_of_getElem? (i := 15) (by decide +kernel), List.mem_of_getElem? (i := 667) (by decide +kernel), List.mem_of_getElem? (i := 668) (by decide +kernel)⟩
theorem lw_p13 : lw_okq (⟨"GivenGoesOnModel", "faultOf", "()I"⟩, 46) := ⟨⟨by decide +kernel, by decide +kernel⟩, List.mem_of_getElem? (i := 678) (by decide +kernel), List.mem_of_getElem? (i := 836) (by decide +kernel), List.mem_of_getElem? (i := 837) (by decide +kernel)⟩
theorem lw_p14 : lw_okq (⟨"GivenGoesOnModel", "go", "(I)Z"⟩, 46) := ⟨⟨by decide +kernel, by decide +kernel⟩, List.mem_of_getElem? (i := 678) (by decide +kernel), List.mem_of_getElem? (i := 840) (by decide +kernel), List.mem_of_getElem? (i := 841) (by decide +kernel)⟩
theorem lw_p15 : lw_okq (⟨"GivenGoesOnModel", "tellLaw", "(I)I"⟩, 46) := ⟨⟨by decide +kernel, by decide +kernel⟩, List.mem_of_getElem? (i := 678) (by decide +kernel), List.mem_of_getElem? (i := 858) (by decide +kernel), List.mem_of_getElem? (i := 859) (by decide +kernel)⟩
def lw_privs_1 : List (MethodName × Nat) := [(⟨"GivenGoesOn", "areTwo", "(II)Z"⟩, 11), (⟨"GivenGoesOn", "isPerson", "(I)Z"⟩, 11), (⟨"GivenGoesOn", "isGift", "(I)Z"⟩, 11), (⟨"GivenGoesOn", "whoMayHave", "(I)I"⟩, 11), (⟨"GivenGoesOn$World", "chosenBy", "(II)I"⟩, 9), (⟨"GivenGoesOn$World", "markOf", "(II)I"⟩, 9), (⟨"GivenGoesOn$Walks", "spread", "(JII)V"⟩, 2), (⟨"GivenGoesOn$Circle", "mostBehind", "(LGivenGoesOn$World;I)I"⟩, 2), (⟨"GivenGoesOn$Circle", "mostBy", "(LGivenGoesOn$World;II)I"⟩, 2), (⟨"GivenGoesOn$Circle", "firstOfMost", "(LGivenGoesOn$World;I)I"⟩, 2), (⟨"GivenGoesOn$World", "knownByAny", "(I)I"⟩, 9), (⟨"GivenGoesOn", "withPerson", "(JI)J"⟩, 11), (⟨"GivenGoesOn", "withGift", "(JI)J"⟩, 11), (⟨"GivenGoesOnModel", "faultOf", "()I"⟩, 46), (⟨"GivenGoesOnModel", "go", "(I)Z"⟩, 46), (⟨"GivenGoesOnModel", "tellLaw", "(I)I"⟩, 46)]
theorem lw_r1 : ∀ q ∈ lw_privs_1, lw_okq q := List.forall_mem_cons.mpr ⟨lw_p0, List.forall_mem_cons.mpr ⟨lw_p1, List.forall_mem_cons.mpr ⟨lw_p2, List.forall_mem_cons.mpr ⟨lw_p3, List.forall_mem_cons.mpr ⟨lw_p4, List.forall_mem_cons.mpr ⟨lw_p5, List.forall_mem_cons.mpr ⟨lw_p6, List.forall_mem_cons.mpr ⟨lw_p7, List.forall_mem_cons.mpr ⟨lw_p8, List.forall_mem_cons.mpr ⟨lw_p9, List.forall_mem_cons.mpr ⟨lw_p10, List.forall_mem_cons.mpr ⟨lw_p11, List.forall_mem_cons.mpr ⟨lw_p12, List.forall_mem_cons.mpr ⟨lw_p13, List.forall_mem_cons.mpr ⟨lw_p14, List.forall_mem_cons.mpr ⟨lw_p15, fun _ h => absurd h List.not_mem_nil⟩⟩⟩⟩⟩⟩⟩⟩⟩⟩⟩⟩⟩⟩⟩⟩
theorem lw_p16 : lw_okq (⟨"GivenGoesOnModel", "arePair", "(II)Z"⟩, 46) := ⟨⟨by decide +kernel, by decide +kernel⟩, List.mem_of_getElem? (i := 678) (by decide +kernel), List.mem_of_getElem? (i := 871) (by decide +kernel), List.mem_of_getElem? (i := 872) (by decide +kernel)⟩
theorem lw_p17 : lw_okq (⟨"GivenGoesOnModel", "isPerson", "(I)Z"⟩, 46) := ⟨⟨by decide +kernel, by decide +kernel⟩, List.mem_of_getElem? (i := 678) (by decide +kernel), List.mem_of_getElem? (i := 875) (by decide +kernel), List.mem_of_getElem? (i := 876) (by decide +kernel)⟩
theorem lw_p18 : lw_okq (⟨"GivenGoesOnModel", "tellPerson", "(II)I"⟩, 46) := ⟨⟨by decide +kernel, by decide +kernel⟩, List.mem_of_getElem? (i := 678) (by decide +kernel), List.mem_of_getElem? (i := 888) (by decide +kernel), List.mem_of_getElem? (i := 889) (by decide +kernel)⟩
theorem lw_p19 : lw_okq (⟨"GivenGoesOnModel", "holds", "(I)I"⟩, 46) := ⟨⟨by decide +kernel, by decide +kernel⟩, List.mem_of_getElem? (i := 678) (by decide +kernel), List.mem_of_getElem? (i := 892) (by decide +kernel), List.mem_of_getElem? (i := 893) (by decide +kernel)⟩
theorem lw_p20 : lw_okq (⟨"GivenGoesOnModel", "lives", "(I)Z"⟩, 46) := ⟨⟨by decide +kernel, by decide +kernel⟩, List.mem_of_getElem? (i := 678) (by decide +kernel), List.mem_of_getElem? (i := 896) (by decide +kernel), List.mem_of_getElem? (i := 897) (by decide +kernel)⟩
theorem lw_p21 : lw_okq (⟨"GivenGoesOnModel", "restOf", "(I)I"⟩, 46) := ⟨⟨by decide +kernel, by decide +kernel⟩, List.mem_of_getElem? (i := 678) (by decide +kernel), List.mem_of_getElem? (i := 908) (by decide +kernel), List.mem_of_getElem? (i := 909) (by decide +kernel)⟩
theorem lw_p22 : lw_okq (⟨"GivenGoesOnModel", "isGift", "(I)Z"⟩, 46) := ⟨⟨by decide +kernel, by decide +kernel⟩, List.mem_of_getElem? (i := 678) (by decide +kernel), List.mem_of_getElem? (i := 922) (by decide +kernel), List.mem_of_getElem? (i := 923) (by decide +kernel)⟩
theorem lw_p23 : lw_okq (⟨"GivenGoesOnModel", "tellGift", "(II)I"⟩, 46) := ⟨⟨by decide +kernel, by decide +kernel⟩, List.mem_of_getElem? (i := 678) (by decide +kernel), List.mem_of_getElem? (i := 926) (by decide +kernel), List.mem_of_getElem? (i := 927) (by decide +kernel)⟩
theorem lw_p24 : lw_okq (⟨"GivenGoesOnModel", "worthOf", "(I)I"⟩, 46) := ⟨⟨by decide +kernel, by decide +kernel⟩, List.mem_of_getElem? (i := 678) (by decide +kernel), List.mem_of_getElem? (i := 930) (by decide +kernel), List.mem_of_getElem? (i := 931) (by decide +kernel)⟩
theorem lw_p25 : lw_okq (⟨"GivenGoesOnModel", "mayOf", "(I)I"⟩, 46) := ⟨⟨by decide +kernel, by decide +kernel⟩, List.mem_of_getElem? (i := 678) (by decide +kernel), List.mem_of_getElem? (i := 943) (by decide +kernel), List.mem_of_getElem? (i := 944) (by decide +kernel)⟩
theorem lw_p26 : lw_okq (⟨"GivenGoesOnModel", "mayHave", "(II)I"⟩, 46) := ⟨⟨by decide +kernel, by decide +kernel⟩, List.mem_of_getElem? (i := 678) (by decide +kernel), List.mem_of_getElem? (i := 947) (by decide +kernel), List.mem_of_getElem? (i := 948) (by decide +kernel)⟩
theorem lw_p27 : lw_okq (⟨"GivenGoesOnModel", "goOn", "(II)I"⟩, 46) := ⟨⟨by decide +kernel, by decide +kernel⟩, List.mem_of_getElem? (i := 678) (by decide +kernel), List.mem_of_getElem? (i := 955) (by decide +kernel), List.mem_of_getElem? (i := 956) (by decide +kernel)⟩
theorem lw_p28 : lw_okq (⟨"GivenGoesOnModel", "year", "(Z)I"⟩, 46) := ⟨⟨by decide +kernel, by decide +kernel⟩, List.mem_of_getElem? (i := 678) (by decide +kernel), List.mem_of_getElem? (i := 964) (by decide +kernel), List.mem_of_getElem? (i := 965) (by decide +kernel)⟩
theorem lw_p29 : lw_okq (⟨"GivenGoesOnModel", "byDraw", "(I)I"⟩, 46) := ⟨⟨by decide +kernel, by decide +kernel⟩, List.mem_of_getElem? (i := 678) (by decide +kernel), List.mem_of_getElem? (i := 968) (by decide +kernel), List.mem_of_getElem? (i := 969) (by decide +kernel)⟩
theorem lw_p30 : lw_okq (⟨"GivenGoesOnModel", "draw", "(I)I"⟩, 46) := ⟨⟨by decide +kernel, by decide +kernel⟩, List.mem_of_getElem? (i := 678) (by decide +kernel), List.mem_of_getElem? (i := 975) (by decide +kernel), List.mem_of_getElem? (i := 976) (by decide +kernel)⟩
theorem lw_p31 : lw_okq (⟨"GivenGoesOnModel", "byHabit", "(II)I"⟩, 46) := ⟨⟨by decide +kernel, by decide +kernel⟩, List.mem_of_getElem? (i := 678) (by decide +kernel), List.mem_of_getElem? (i := 983) (by decide +kernel), List.mem_of_getElem? (i := 984) (by decide +kernel)⟩
def lw_privs_2 : List (MethodName × Nat) := [(⟨"GivenGoesOnModel", "arePair", "(II)Z"⟩, 46), (⟨"GivenGoesOnModel", "isPerson", "(I)Z"⟩, 46), (⟨"GivenGoesOnModel", "tellPerson", "(II)I"⟩, 46), (⟨"GivenGoesOnModel", "holds", "(I)I"⟩, 46), (⟨"GivenGoesOnModel", "lives", "(I)Z"⟩, 46), (⟨"GivenGoesOnModel", "restOf", "(I)I"⟩, 46), (⟨"GivenGoesOnModel", "isGift", "(I)Z"⟩, 46), (⟨"GivenGoesOnModel", "tellGift", "(II)I"⟩, 46), (⟨"GivenGoesOnModel", "worthOf", "(I)I"⟩, 46), (⟨"GivenGoesOnModel", "mayOf", "(I)I"⟩, 46), (⟨"GivenGoesOnModel", "mayHave", "(II)I"⟩, 46), (⟨"GivenGoesOnModel", "goOn", "(II)I"⟩, 46), (⟨"GivenGoesOnModel", "year", "(Z)I"⟩, 46), (⟨"GivenGoesOnModel", "byDraw", "(I)I"⟩, 46), (⟨"GivenGoesOnModel", "draw", "(I)I"⟩, 46), (⟨"GivenGoesOnModel", "byHabit", "(II)I"⟩, 46)]
theorem lw_r2 : ∀ q ∈ lw_privs_2, lw_okq q := List.forall_mem_cons.mpr ⟨lw_p16, List.forall_mem_cons.mpr ⟨lw_p17, List.forall_mem_cons.mpr ⟨lw_p18, List.forall_mem_cons.mpr ⟨lw_p19, List.forall_mem_cons.mpr ⟨lw_p20, List.forall_mem_cons.mpr ⟨lw_p21, List.forall_mem_cons.mpr ⟨lw_p22, List.forall_mem_cons.mpr ⟨lw_p23, List.forall_mem_cons.mpr ⟨lw_p24, List.forall_mem_cons.mpr ⟨lw_p25, List.forall_mem_cons.mpr ⟨lw_p26, List.forall_mem_cons.mpr ⟨lw_p27, List.forall_mem_cons.mpr ⟨lw_p28, List.forall_mem_cons.mpr ⟨lw_p29, List.forall_mem_cons.mpr ⟨lw_p30, List.forall_mem_cons.mpr ⟨lw_p31, fun _ h => absurd h List.not_mem_nil⟩⟩⟩⟩⟩⟩⟩⟩⟩⟩⟩⟩⟩⟩⟩⟩
theorem lw_p32 : lw_okq (⟨"GivenGoesOnModel", "layWays", "(I)V"⟩, 46) := ⟨⟨by decide +kernel, by decide +kernel⟩, List.mem_of_getElem? (i := 678) (by decide +kernel), List.mem_of_getElem? (i := 991) (by decide +kernel), List.mem_of_getElem? (i := 992) (by decide +kernel)⟩
theorem lw_p33 : lw_okq (⟨"GivenGoesOnModel", "beginWays", "(I)V"⟩, 46) := ⟨⟨by decide +kernel, by decide +kernel⟩, List.mem_of_getElem? (i := 678) (by decide +kernel), List.mem_of_getElem? (i := 995) (by decide +kernel), List.mem_of_getElem? (i := 996) (by decide +kernel)⟩
theorem lw_p34 : lw_okq (⟨"GivenGoesOnModel", "goAll", "(IZ)J"⟩, 46) := ⟨⟨by decide +kernel, by decide +kernel⟩, List.mem_of_getElem? (i := 678) (by decide +kernel), List.mem_of_getElem? (i := 999) (by decide +kernel), List.mem_of_getElem? (i := 1000) (by decide +kernel)⟩
theorem lw_p35 : lw_okq (⟨"GivenGoesOnModel", "soonestOf", "(I)I"⟩, 46) := ⟨⟨by decide +kernel, by decide +kernel⟩, List.mem_of_getElem? (i := 678) (by decide +kernel), List.mem_of_getElem? (i := 1007) (by decide +kernel), List.mem_of_getElem? (i := 1008) (by decide +kernel)⟩
theorem lw_p36 : lw_okq (⟨"GivenGoesOnModel", "trapsOf", "()I"⟩, 46) := ⟨⟨by decide +kernel, by decide +kernel⟩, List.mem_of_getElem? (i := 678) (by decide +kernel), List.mem_of_getElem? (i := 1027) (by decide +kernel), List.mem_of_getElem? (i := 1028) (by decide +kernel)⟩
theorem lw_p37 : lw_okq (⟨"GivenGoesOnModel", "tellRound", "(I)I"⟩, 46) := ⟨⟨by decide +kernel, by decide +kernel⟩, List.mem_of_getElem? (i := 678) (by decide +kernel), List.mem_of_getElem? (i := 1037) (by decide +kernel), List.mem_of_getElem? (i := 1038) (by decide +kernel)⟩
theorem lw_p38 : lw_okq (⟨"GivenGoesOnModel", "layRound", "()V"⟩, 46) := ⟨⟨by decide +kernel, by decide +kernel⟩, List.mem_of_getElem? (i := 678) (by decide +kernel), List.mem_of_getElem? (i := 1041) (by decide +kernel), List.mem_of_getElem? (i := 1042) (by decide +kernel)⟩
theorem lw_p39 : lw_okq (⟨"GivenGoesOnModel", "tellStranger", "(III)I"⟩, 46) := ⟨⟨by decide +kernel, by decide +kernel⟩, List.mem_of_getElem? (i := 678) (by decide +kernel), List.mem_of_getElem? (i := 1049) (by decide +kernel), List.mem_of_getElem? (i := 1050) (by decide +kernel)⟩
theorem lw_p40 : lw_okq (⟨"GivenGoesOnModel", "layFar", "(I)V"⟩, 46) := ⟨⟨by decide +kernel, by decide +kernel⟩, List.mem_of_getElem? (i := 678) (by decide +kernel), List.mem_of_getElem? (i := 1053) (by decide +kernel), List.mem_of_getElem? (i := 1054) (by decide +kernel)⟩
theorem lw_p41 : lw_okq (⟨"GivenGoesOnModel", "livesMany", "()I"⟩, 46) := ⟨⟨by decide +kernel, by decide +kernel⟩, List.mem_of_getElem? (i := 678) (by decide +kernel), List.mem_of_getElem? (i := 1064) (by decide +kernel), List.mem_of_getElem? (i := 1065) (by decide +kernel)⟩
theorem lw_p42 : lw_okq (⟨"GivenGoesOnModel", "isYear", "(I)Z"⟩, 46) := ⟨⟨by decide +kernel, by decide +kernel⟩, List.mem_of_getElem? (i := 678) (by decide +kernel), List.mem_of_getElem? (i := 1076) (by decide +kernel), List.mem_of_getElem? (i := 1077) (by decide +kernel)⟩
theorem lw_p43 : lw_okq (⟨"GivenGoesOnModel", "filledOf", "()I"⟩, 46) := ⟨⟨by decide +kernel, by decide +kernel⟩, List.mem_of_getElem? (i := 678) (by decide +kernel), List.mem_of_getElem? (i := 1084) (by decide +kernel), List.mem_of_getElem? (i := 1085) (by decide +kernel)⟩
theorem lw_p44 : lw_okq (⟨"GivenGoesOnModel", "countOf", "(I)I"⟩, 46) := ⟨⟨by decide +kernel, by decide +kernel⟩, List.mem_of_getElem? (i := 678) (by decide +kernel), List.mem_of_getElem? (i := 1104) (by decide +kernel), List.mem_of_getElem? (i := 1105) (by decide +kernel)⟩
theorem lw_p45 : lw_okq (⟨"GivenGoesOnModel", "say", "(J)V"⟩, 46) := ⟨⟨by decide +kernel, by decide +kernel⟩, List.mem_of_getElem? (i := 678) (by decide +kernel), List.mem_of_getElem? (i := 1113) (by decide +kernel), List.mem_of_getElem? (i := 1114) (by decide +kernel)⟩
theorem lw_p46 : lw_okq (⟨"GivenGoesOnModel", "sayGift", "(I)V"⟩, 46) := ⟨⟨by decide +kernel, by decide +kernel⟩, List.mem_of_getElem? (i := 678) (by decide +kernel), List.mem_of_getElem? (i := 1118) (by decide +kernel), List.mem_of_getElem? (i := 1119) (by decide +kernel)⟩
def lw_privs_3 : List (MethodName × Nat) := [(⟨"GivenGoesOnModel", "layWays", "(I)V"⟩, 46), (⟨"GivenGoesOnModel", "beginWays", "(I)V"⟩, 46), (⟨"GivenGoesOnModel", "goAll", "(IZ)J"⟩, 46), (⟨"GivenGoesOnModel", "soonestOf", "(I)I"⟩, 46), (⟨"GivenGoesOnModel", "trapsOf", "()I"⟩, 46), (⟨"GivenGoesOnModel", "tellRound", "(I)I"⟩, 46), (⟨"GivenGoesOnModel", "layRound", "()V"⟩, 46), (⟨"GivenGoesOnModel", "tellStranger", "(III)I"⟩, 46), (⟨"GivenGoesOnModel", "layFar", "(I)V"⟩, 46), (⟨"GivenGoesOnModel", "livesMany", "()I"⟩, 46), (⟨"GivenGoesOnModel", "isYear", "(I)Z"⟩, 46), (⟨"GivenGoesOnModel", "filledOf", "()I"⟩, 46), (⟨"GivenGoesOnModel", "countOf", "(I)I"⟩, 46), (⟨"GivenGoesOnModel", "say", "(J)V"⟩, 46), (⟨"GivenGoesOnModel", "sayGift", "(I)V"⟩, 46)]
theorem lw_r3 : ∀ q ∈ lw_privs_3, lw_okq q := List.forall_mem_cons.mpr ⟨lw_p32, List.forall_mem_cons.mpr ⟨lw_p33, List.forall_mem_cons.mpr ⟨lw_p34, List.forall_mem_cons.mpr ⟨lw_p35, List.forall_mem_cons.mpr ⟨lw_p36, List.forall_mem_cons.mpr ⟨lw_p37, List.forall_mem_cons.mpr ⟨lw_p38, List.forall_mem_cons.mpr ⟨lw_p39, List.forall_mem_cons.mpr ⟨lw_p40, List.forall_mem_cons.mpr ⟨lw_p41, List.forall_mem_cons.mpr ⟨lw_p42, List.forall_mem_cons.mpr ⟨lw_p43, List.forall_mem_cons.mpr ⟨lw_p44, List.forall_mem_cons.mpr ⟨lw_p45, List.forall_mem_cons.mpr ⟨lw_p46, fun _ h => absurd h List.not_mem_nil⟩⟩⟩⟩⟩⟩⟩⟩⟩⟩⟩⟩⟩⟩⟩
def lw_privs : List (MethodName × Nat) := lw_privs_1 ++ (lw_privs_2 ++ (lw_privs_3))
def lw_tbl : List Cond := k2_sels lw_privs ++ tables_1
theorem lw_privs_ok : ∀ q ∈ lw_privs, lw_okq q := by
  show ∀ q ∈ lw_privs_1 ++ (lw_privs_2 ++ (lw_privs_3)), lw_okq q
  exact List.forall_mem_append.mpr ⟨lw_r1, List.forall_mem_append.mpr ⟨lw_r2, lw_r3⟩⟩
end
section
def RX0 : String := "GivenGoesOn$Book"
def TX0 : u_T := fun k => match k with
  | 0 => ("GivenGoesOn$Book", "written", "[I", true)
  | 1 => ("GivenGoesOn$Book", "home", "I", false)
  | _ => ("GivenGoesOn$Book", "length", "I", false)
def tyX0 : Nat → FieldType := fun k => match k with
  | 0 => .array .int
  | 1 => .int
  | _ => .int
theorem nmX0 : ∀ a, a < 3 → ∀ b, b < 3 → a ≠ b → (TX0 a).2.1 ≠ (TX0 b).2.1 := by decide +kernel
theorem tyX0_ok : ∀ k, k < 3 → parseFieldDescriptor (TX0 k).2.2.1 = some (tyX0 k) := by decide +kernel
abbrev cX0_init : ByteArray := prog_2_method_1_code
def yX0_init : MethodName := ⟨RX0, "<init>", "()V"⟩
abbrev cX0_isOpen : ByteArray := prog_2_method_2_code
def yX0_isOpen : MethodName := ⟨RX0, "isOpen", "()Z"⟩
abbrev cX0_hasYear : ByteArray := prog_2_method_3_code
def yX0_hasYear : MethodName := ⟨RX0, "hasYear", "(I)Z"⟩
abbrev cX0_begin : ByteArray := prog_2_method_4_code
def yX0_begin : MethodName := ⟨RX0, "begin", "(II)V"⟩
abbrev cX0_fillings : ByteArray := prog_2_method_5_code
def yX0_fillings : MethodName := ⟨RX0, "fillings", "(LGivenGoesOn$World;LGivenGoesOn$Walks;)I"⟩
abbrev cX0_onlyOneIn : ByteArray := prog_2_method_6_code
def yX0_onlyOneIn : MethodName := ⟨RX0, "onlyOneIn", "(ILGivenGoesOn$World;LGivenGoesOn$Walks;)I"⟩
def RX1 : String := "GivenGoesOn$Circle"
def TX1 : u_T := fun k => match k with
  | 0 => ("GivenGoesOn$Circle", "most", "[I", true)
  | _ => ("GivenGoesOn$Circle", "to", "[I", true)
def tyX1 : Nat → FieldType := fun k => match k with
  | 0 => .array .int
  | _ => .array .int
theorem nmX1 : ∀ a, a < 2 → ∀ b, b < 2 → a ≠ b → (TX1 a).2.1 ≠ (TX1 b).2.1 := by decide +kernel
theorem tyX1_ok : ∀ k, k < 2 → parseFieldDescriptor (TX1 k).2.2.1 = some (tyX1 k) := by decide +kernel
abbrev cX1_init : ByteArray := prog_3_method_1_code
def yX1_init : MethodName := ⟨RX1, "<init>", "()V"⟩
abbrev cX1_find : ByteArray := prog_3_method_2_code
def yX1_find : MethodName := ⟨RX1, "find", "(LGivenGoesOn$World;)V"⟩
abbrev cX1_mostBehind : ByteArray := prog_3_method_3_code
def yX1_mostBehind : MethodName := ⟨RX1, "mostBehind", "(LGivenGoesOn$World;I)I"⟩
abbrev cX1_firstOfMost : ByteArray := prog_3_method_4_code
def yX1_firstOfMost : MethodName := ⟨RX1, "firstOfMost", "(LGivenGoesOn$World;I)I"⟩
abbrev cX1_mostBy : ByteArray := prog_3_method_5_code
def yX1_mostBy : MethodName := ⟨RX1, "mostBy", "(LGivenGoesOn$World;II)I"⟩
abbrev cX1_isThere : ByteArray := prog_3_method_6_code
def yX1_isThere : MethodName := ⟨RX1, "isThere", "()Z"⟩
abbrev cX1_likingTogether : ByteArray := prog_3_method_7_code
def yX1_likingTogether : MethodName := ⟨RX1, "likingTogether", "()I"⟩
def RX2 : String := "GivenGoesOn$Draws"
def TX2 : u_T := fun k => match k with
  | _ => ("GivenGoesOn$Draws", "seed", "J", false)
def tyX2 : Nat → FieldType := fun k => match k with
  | _ => .long
theorem nmX2 : ∀ a, a < 1 → ∀ b, b < 1 → a ≠ b → (TX2 a).2.1 ≠ (TX2 b).2.1 := by decide +kernel
theorem tyX2_ok : ∀ k, k < 1 → parseFieldDescriptor (TX2 k).2.2.1 = some (tyX2 k) := by decide +kernel
abbrev cX2_init : ByteArray := prog_4_method_1_code
def yX2_init : MethodName := ⟨RX2, "<init>", "()V"⟩
abbrev cX2_oneOf : ByteArray := prog_4_method_2_code
def yX2_oneOf : MethodName := ⟨RX2, "oneOf", "(I)I"⟩
def RX3 : String := "GivenGoesOn$Gift"
def TX3 : u_T := fun k => match k with
  | 0 => ("GivenGoesOn$Gift", "kind", "I", false)
  | 1 => ("GivenGoesOn$Gift", "home", "I", false)
  | 2 => ("GivenGoesOn$Gift", "holder", "I", false)
  | 3 => ("GivenGoesOn$Gift", "from", "I", false)
  | 4 => ("GivenGoesOn$Gift", "wear", "I", false)
  | 5 => ("GivenGoesOn$Gift", "age", "I", false)
  | 6 => ("GivenGoesOn$Gift", "fate", "I", false)
  | _ => ("GivenGoesOn$Gift", "hands", "I", false)
def tyX3 : Nat → FieldType := fun k => match k with
  | 0 => .int
  | 1 => .int
  | 2 => .int
  | 3 => .int
  | 4 => .int
  | 5 => .int
  | 6 => .int
  | _ => .int
theorem nmX3 : ∀ a, a < 8 → ∀ b, b < 8 → a ≠ b → (TX3 a).2.1 ≠ (TX3 b).2.1 := by decide +kernel
theorem tyX3_ok : ∀ k, k < 8 → parseFieldDescriptor (TX3 k).2.2.1 = some (tyX3 k) := by decide +kernel
abbrev cX3_init : ByteArray := prog_5_method_1_code
def yX3_init : MethodName := ⟨RX3, "<init>", "()V"⟩
abbrev cX3_begin : ByteArray := prog_5_method_2_code
def yX3_begin : MethodName := ⟨RX3, "begin", "(II)V"⟩
abbrev cX3_copyFrom : ByteArray := prog_5_method_3_code
def yX3_copyFrom : MethodName := ⟨RX3, "copyFrom", "(LGivenGoesOn$Gift;)V"⟩
abbrev cX3_lives : ByteArray := prog_5_method_4_code
def yX3_lives : MethodName := ⟨RX3, "lives", "()Z"⟩
abbrev cX3_isOf : ByteArray := prog_5_method_5_code
def yX3_isOf : MethodName := ⟨RX3, "isOf", "(I)Z"⟩
abbrev cX3_worth : ByteArray := prog_5_method_6_code
def yX3_worth : MethodName := ⟨RX3, "worth", "()I"⟩
abbrev cX3_mustGo : ByteArray := prog_5_method_7_code
def yX3_mustGo : MethodName := ⟨RX3, "mustGo", "(I)Z"⟩
abbrev cX3_moveTo : ByteArray := prog_5_method_8_code
def yX3_moveTo : MethodName := ⟨RX3, "moveTo", "(II)V"⟩
def RX4 : String := "GivenGoesOn$Law"
def TX4 : u_T := fun k => match k with
  | 0 => ("GivenGoesOn$Law", "keep", "I", false)
  | 1 => ("GivenGoesOn$Law", "back", "Z", false)
  | 2 => ("GivenGoesOn$Law", "one", "Z", false)
  | _ => ("GivenGoesOn$Law", "most", "I", false)
def tyX4 : Nat → FieldType := fun k => match k with
  | 0 => .int
  | 1 => .boolean
  | 2 => .boolean
  | _ => .int
theorem nmX4 : ∀ a, a < 4 → ∀ b, b < 4 → a ≠ b → (TX4 a).2.1 ≠ (TX4 b).2.1 := by decide +kernel
theorem tyX4_ok : ∀ k, k < 4 → parseFieldDescriptor (TX4 k).2.2.1 = some (tyX4 k) := by decide +kernel
abbrev cX4_init : ByteArray := prog_6_method_1_code
def yX4_init : MethodName := ⟨RX4, "<init>", "()V"⟩
abbrev cX4_readFrom : ByteArray := prog_6_method_2_code
def yX4_readFrom : MethodName := ⟨RX4, "readFrom", "(LGivenGoesOn$Page;)V"⟩
def RX5 : String := "GivenGoesOn$Page"
def TX5 : u_T := fun k => match k with
  | 0 => ("GivenGoesOn$Page", "letter", "[I", true)
  | _ => ("GivenGoesOn$Page", "size", "I", false)
def tyX5 : Nat → FieldType := fun k => match k with
  | 0 => .array .int
  | _ => .int
theorem nmX5 : ∀ a, a < 2 → ∀ b, b < 2 → a ≠ b → (TX5 a).2.1 ≠ (TX5 b).2.1 := by decide +kernel
theorem tyX5_ok : ∀ k, k < 2 → parseFieldDescriptor (TX5 k).2.2.1 = some (tyX5 k) := by decide +kernel
abbrev cX5_init : ByteArray := prog_7_method_1_code
def yX5_init : MethodName := ⟨RX5, "<init>", "()V"⟩
abbrev cX5_lettersIn : ByteArray := prog_7_method_2_code
def yX5_lettersIn : MethodName := ⟨RX5, "lettersIn", "(J)I"⟩
abbrev cX5_byteOf : ByteArray := prog_7_method_3_code
def yX5_byteOf : MethodName := ⟨RX5, "byteOf", "(JI)I"⟩
abbrev cX5_append : ByteArray := prog_7_method_4_code
def yX5_append : MethodName := ⟨RX5, "append", "(JI)V"⟩
abbrev cX5_firstFault : ByteArray := prog_7_method_5_code
def yX5_firstFault : MethodName := ⟨RX5, "firstFault", "()I"⟩
abbrev cX5_isLaw : ByteArray := prog_7_method_6_code
def yX5_isLaw : MethodName := ⟨RX5, "isLaw", "()Z"⟩
abbrev cX5_behind : ByteArray := prog_7_method_7_code
def yX5_behind : MethodName := ⟨RX5, "behind", "(II)I"⟩
def RX6 : String := "GivenGoesOn$Walks"
def TX6 : u_T := fun k => match k with
  | 0 => ("GivenGoesOn$Walks", "now", "[J", true)
  | _ => ("GivenGoesOn$Walks", "next", "[J", true)
def tyX6 : Nat → FieldType := fun k => match k with
  | 0 => .array .long
  | _ => .array .long
theorem nmX6 : ∀ a, a < 2 → ∀ b, b < 2 → a ≠ b → (TX6 a).2.1 ≠ (TX6 b).2.1 := by decide +kernel
theorem tyX6_ok : ∀ k, k < 2 → parseFieldDescriptor (TX6 k).2.2.1 = some (tyX6 k) := by decide +kernel
abbrev cX6_init : ByteArray := prog_8_method_1_code
def yX6_init : MethodName := ⟨RX6, "<init>", "()V"⟩
abbrev cX6_begin : ByteArray := prog_8_method_2_code
def yX6_begin : MethodName := ⟨RX6, "begin", "(II)V"⟩
abbrev cX6_goOn : ByteArray := prog_8_method_3_code
def yX6_goOn : MethodName := ⟨RX6, "goOn", "(LGivenGoesOn$World;ZIZ)J"⟩
abbrev cX6_spread : ByteArray := prog_8_method_4_code
def yX6_spread : MethodName := ⟨RX6, "spread", "(JII)V"⟩
abbrev cX6_keepOnly : ByteArray := prog_8_method_5_code
def yX6_keepOnly : MethodName := ⟨RX6, "keepOnly", "(I)V"⟩
abbrev cX6_sum : ByteArray := prog_8_method_6_code
def yX6_sum : MethodName := ⟨RX6, "sum", "()J"⟩
abbrev cX6_spot : ByteArray := prog_8_method_7_code
def yX6_spot : MethodName := ⟨RX6, "spot", "(II)I"⟩
abbrev cX6_clear : ByteArray := prog_8_method_8_code
def yX6_clear : MethodName := ⟨RX6, "clear", "([J)V"⟩
def RX7 : String := "GivenGoesOn$World"
def TX7 : u_T := fun k => match k with
  | 0 => ("GivenGoesOn$World", "people", "I", false)
  | 1 => ("GivenGoesOn$World", "habit", "[I", true)
  | 2 => ("GivenGoesOn$World", "known", "[I", true)
  | 3 => ("GivenGoesOn$World", "feasts", "[I", true)
  | 4 => ("GivenGoesOn$World", "liking", "[I", true)
  | 5 => ("GivenGoesOn$World", "owed", "[I", true)
  | 6 => ("GivenGoesOn$World", "gifts", "I", false)
  | 7 => ("GivenGoesOn$World", "row", "[LGivenGoesOn$Gift;", true)
  | _ => ("GivenGoesOn$World", "yearsGone", "I", false)
def tyX7 : Nat → FieldType := fun k => match k with
  | 0 => .int
  | 1 => .array .int
  | 2 => .array .int
  | 3 => .array .int
  | 4 => .array .int
  | 5 => .array .int
  | 6 => .int
  | 7 => .array (.object "GivenGoesOn$Gift")
  | _ => .int
theorem nmX7 : ∀ a, a < 9 → ∀ b, b < 9 → a ≠ b → (TX7 a).2.1 ≠ (TX7 b).2.1 := by decide +kernel
theorem tyX7_ok : ∀ k, k < 9 → parseFieldDescriptor (TX7 k).2.2.1 = some (tyX7 k) := by decide +kernel
abbrev cX7_init : ByteArray := prog_9_method_1_code
def yX7_init : MethodName := ⟨RX7, "<init>", "()V"⟩
abbrev cX7_copyFrom : ByteArray := prog_9_method_2_code
def yX7_copyFrom : MethodName := ⟨RX7, "copyFrom", "(LGivenGoesOn$World;)V"⟩
abbrev cX7_addPerson : ByteArray := prog_9_method_3_code
def yX7_addPerson : MethodName := ⟨RX7, "addPerson", "(I)I"⟩
abbrev cX7_addGift : ByteArray := prog_9_method_4_code
def yX7_addGift : MethodName := ⟨RX7, "addGift", "(II)I"⟩
abbrev cX7_knows : ByteArray := prog_9_method_5_code
def yX7_knows : MethodName := ⟨RX7, "knows", "(II)Z"⟩
abbrev cX7_setKnown : ByteArray := prog_9_method_6_code
def yX7_setKnown : MethodName := ⟨RX7, "setKnown", "(IIZ)V"⟩
abbrev cX7_heldBy : ByteArray := prog_9_method_7_code
def yX7_heldBy : MethodName := ⟨RX7, "heldBy", "(I)I"⟩
abbrev cX7_living : ByteArray := prog_9_method_8_code
def yX7_living : MethodName := ⟨RX7, "living", "()I"⟩
abbrev cX7_allFeasts : ByteArray := prog_9_method_9_code
def yX7_allFeasts : MethodName := ⟨RX7, "allFeasts", "()I"⟩
abbrev cX7_balance : ByteArray := prog_9_method_10_code
def yX7_balance : MethodName := ⟨RX7, "balance", "(I)I"⟩
abbrev cX7_mayHave : ByteArray := prog_9_method_11_code
def yX7_mayHave : MethodName := ⟨RX7, "mayHave", "(IIZ)I"⟩
abbrev cX7_handOn : ByteArray := prog_9_method_12_code
def yX7_handOn : MethodName := ⟨RX7, "handOn", "(LGivenGoesOn$Gift;II)V"⟩
abbrev cX7_passYear : ByteArray := prog_9_method_13_code
def yX7_passYear : MethodName := ⟨RX7, "passYear", "(LGivenGoesOn$Law;LGivenGoesOn$Draws;)I"⟩
abbrev cX7_chosenBy : ByteArray := prog_9_method_14_code
def yX7_chosenBy : MethodName := ⟨RX7, "chosenBy", "(II)I"⟩
abbrev cX7_markOf : ByteArray := prog_9_method_15_code
def yX7_markOf : MethodName := ⟨RX7, "markOf", "(II)I"⟩
abbrev cX7_handsBetween : ByteArray := prog_9_method_16_code
def yX7_handsBetween : MethodName := ⟨RX7, "handsBetween", "(II)I"⟩
abbrev cX7_knownByAny : ByteArray := prog_9_method_17_code
def yX7_knownByAny : MethodName := ⟨RX7, "knownByAny", "(I)I"⟩
abbrev cX7_firstBetween : ByteArray := prog_9_method_18_code
def yX7_firstBetween : MethodName := ⟨RX7, "firstBetween", "(II)I"⟩
def RX8 : String := "GivenGoesOn"
def TX8 : u_T := fun k => match k with
  | 0 => ("GivenGoesOn", "page", "LGivenGoesOn$Page;", true)
  | 1 => ("GivenGoesOn", "law", "LGivenGoesOn$Law;", true)
  | 2 => ("GivenGoesOn", "world", "LGivenGoesOn$World;", true)
  | 3 => ("GivenGoesOn", "kept", "LGivenGoesOn$World;", true)
  | 4 => ("GivenGoesOn", "trial", "LGivenGoesOn$World;", true)
  | 5 => ("GivenGoesOn", "draws", "LGivenGoesOn$Draws;", true)
  | 6 => ("GivenGoesOn", "walks", "LGivenGoesOn$Walks;", true)
  | 7 => ("GivenGoesOn", "circle", "LGivenGoesOn$Circle;", true)
  | 8 => ("GivenGoesOn", "book", "LGivenGoesOn$Book;", true)
  | 9 => ("GivenGoesOn", "lawsRead", "I", false)
  | _ => ("GivenGoesOn", "hasImage", "Z", false)
def tyX8 : Nat → FieldType := fun k => match k with
  | 0 => .object "GivenGoesOn$Page"
  | 1 => .object "GivenGoesOn$Law"
  | 2 => .object "GivenGoesOn$World"
  | 3 => .object "GivenGoesOn$World"
  | 4 => .object "GivenGoesOn$World"
  | 5 => .object "GivenGoesOn$Draws"
  | 6 => .object "GivenGoesOn$Walks"
  | 7 => .object "GivenGoesOn$Circle"
  | 8 => .object "GivenGoesOn$Book"
  | 9 => .int
  | _ => .boolean
theorem nmX8 : ∀ a, a < 11 → ∀ b, b < 11 → a ≠ b → (TX8 a).2.1 ≠ (TX8 b).2.1 := by decide +kernel
theorem tyX8_ok : ∀ k, k < 11 → parseFieldDescriptor (TX8 k).2.2.1 = some (tyX8 k) := by decide +kernel
abbrev cX8_init : ByteArray := prog_1_method_1_code
def yX8_init : MethodName := ⟨RX8, "<init>", "()V"⟩
abbrev cX8_letters : ByteArray := prog_1_method_2_code
def yX8_letters : MethodName := ⟨RX8, "letters", "(J)I"⟩
abbrev cX8_blank : ByteArray := prog_1_method_3_code
def yX8_blank : MethodName := ⟨RX8, "blank", "()I"⟩
abbrev cX8_fault : ByteArray := prog_1_method_4_code
def yX8_fault : MethodName := ⟨RX8, "fault", "()I"⟩
abbrev cX8_law : ByteArray := prog_1_method_5_code
def yX8_law : MethodName := ⟨RX8, "law", "()I"⟩
abbrev cX8_lawTold : ByteArray := prog_1_method_6_code
def yX8_lawTold : MethodName := ⟨RX8, "lawTold", "(I)I"⟩
abbrev cX8_person : ByteArray := prog_1_method_7_code
def yX8_person : MethodName := ⟨RX8, "person", "(I)I"⟩
abbrev cX8_know : ByteArray := prog_1_method_8_code
def yX8_know : MethodName := ⟨RX8, "know", "(IIZ)I"⟩
abbrev cX8_like : ByteArray := prog_1_method_9_code
def yX8_like : MethodName := ⟨RX8, "like", "(III)I"⟩
abbrev cX8_about : ByteArray := prog_1_method_10_code
def yX8_about : MethodName := ⟨RX8, "about", "(II)I"⟩
abbrev cX8_owes : ByteArray := prog_1_method_11_code
def yX8_owes : MethodName := ⟨RX8, "owes", "(II)I"⟩
abbrev cX8_rest : ByteArray := prog_1_method_12_code
def yX8_rest : MethodName := ⟨RX8, "rest", "(I)I"⟩
abbrev cX8_gift : ByteArray := prog_1_method_13_code
def yX8_gift : MethodName := ⟨RX8, "gift", "(II)I"⟩
abbrev cX8_told : ByteArray := prog_1_method_14_code
def yX8_told : MethodName := ⟨RX8, "told", "(II)I"⟩
abbrev cX8_as : ByteArray := prog_1_method_15_code
def yX8_as : MethodName := ⟨RX8, "as", "(II)I"⟩
abbrev cX8_may : ByteArray := prog_1_method_16_code
def yX8_may : MethodName := ⟨RX8, "may", "(I)I"⟩
abbrev cX8_give : ByteArray := prog_1_method_17_code
def yX8_give : MethodName := ⟨RX8, "give", "(II)I"⟩
abbrev cX8_years : ByteArray := prog_1_method_18_code
def yX8_years : MethodName := ⟨RX8, "years", "(I)I"⟩
abbrev cX8_ways : ByteArray := prog_1_method_19_code
def yX8_ways : MethodName := ⟨RX8, "ways", "(II)I"⟩
abbrev cX8_soonest : ByteArray := prog_1_method_20_code
def yX8_soonest : MethodName := ⟨RX8, "soonest", "(I)I"⟩
abbrev cX8_likely : ByteArray := prog_1_method_21_code
def yX8_likely : MethodName := ⟨RX8, "likely", "(III)J"⟩
abbrev cX8_traps : ByteArray := prog_1_method_22_code
def yX8_traps : MethodName := ⟨RX8, "traps", "()I"⟩
abbrev cX8_round : ByteArray := prog_1_method_23_code
def yX8_round : MethodName := ⟨RX8, "round", "(I)I"⟩
abbrev cX8_stranger : ByteArray := prog_1_method_24_code
def yX8_stranger : MethodName := ⟨RX8, "stranger", "(III)I"⟩
abbrev cX8_drawn : ByteArray := prog_1_method_25_code
def yX8_drawn : MethodName := ⟨RX8, "drawn", "(III)I"⟩
abbrev cX8_open : ByteArray := prog_1_method_26_code
def yX8_open : MethodName := ⟨RX8, "open", "(II)I"⟩
abbrev cX8_write : ByteArray := prog_1_method_27_code
def yX8_write : MethodName := ⟨RX8, "write", "(II)I"⟩
abbrev cX8_filled : ByteArray := prog_1_method_28_code
def yX8_filled : MethodName := ⟨RX8, "filled", "()I"⟩
abbrev cX8_sure : ByteArray := prog_1_method_29_code
def yX8_sure : MethodName := ⟨RX8, "sure", "(I)I"⟩
abbrev cX8_image : ByteArray := prog_1_method_30_code
def yX8_image : MethodName := ⟨RX8, "image", "()I"⟩
abbrev cX8_restore : ByteArray := prog_1_method_31_code
def yX8_restore : MethodName := ⟨RX8, "restore", "()I"⟩
abbrev cX8_count : ByteArray := prog_1_method_32_code
def yX8_count : MethodName := ⟨RX8, "count", "(I)I"⟩
abbrev cX8_digest : ByteArray := prog_1_method_33_code
def yX8_digest : MethodName := ⟨RX8, "digest", "()J"⟩
abbrev cX8_withPerson : ByteArray := prog_1_method_34_code
def yX8_withPerson : MethodName := ⟨RX8, "withPerson", "(JI)J"⟩
abbrev cX8_withGift : ByteArray := prog_1_method_35_code
def yX8_withGift : MethodName := ⟨RX8, "withGift", "(JI)J"⟩
abbrev cX8_isPerson : ByteArray := prog_1_method_36_code
def yX8_isPerson : MethodName := ⟨RX8, "isPerson", "(I)Z"⟩
abbrev cX8_areTwo : ByteArray := prog_1_method_37_code
def yX8_areTwo : MethodName := ⟨RX8, "areTwo", "(II)Z"⟩
abbrev cX8_isGift : ByteArray := prog_1_method_38_code
def yX8_isGift : MethodName := ⟨RX8, "isGift", "(I)Z"⟩
abbrev cX8_whoMayHave : ByteArray := prog_1_method_39_code
def yX8_whoMayHave : MethodName := ⟨RX8, "whoMayHave", "(I)I"⟩
abbrev cX8_mixed : ByteArray := prog_1_method_40_code
def yX8_mixed : MethodName := ⟨RX8, "mixed", "(JJ)J"⟩
abbrev cX8_within : ByteArray := prog_1_method_41_code
def yX8_within : MethodName := ⟨RX8, "within", "(III)Z"⟩
abbrev cX8_pair : ByteArray := prog_1_method_42_code
def yX8_pair : MethodName := ⟨RX8, "pair", "(II)I"⟩
abbrev cX8_bit : ByteArray := prog_1_method_43_code
def yX8_bit : MethodName := ⟨RX8, "bit", "(I)I"⟩
abbrev cX8_greatestCommon : ByteArray := prog_1_method_44_code
def yX8_greatestCommon : MethodName := ⟨RX8, "greatestCommon", "(JJ)J"⟩
def RX9 : String := "GivenGoesOnModel"
def TX9 : u_T := fun k => match k with
  | 0 => ("GivenGoesOnModel", "page", "[I", true)
  | 1 => ("GivenGoesOnModel", "pageMany", "I", false)
  | 2 => ("GivenGoesOnModel", "keep", "I", false)
  | 3 => ("GivenGoesOnModel", "isBack", "I", false)
  | 4 => ("GivenGoesOnModel", "isOne", "I", false)
  | 5 => ("GivenGoesOnModel", "most", "I", false)
  | 6 => ("GivenGoesOnModel", "lawsRead", "I", false)
  | 7 => ("GivenGoesOnModel", "state", "I", false)
  | 8 => ("GivenGoesOnModel", "readKeep", "I", false)
  | 9 => ("GivenGoesOnModel", "readBack", "I", false)
  | 10 => ("GivenGoesOnModel", "readOne", "I", false)
  | 11 => ("GivenGoesOnModel", "readMost", "I", false)
  | 12 => ("GivenGoesOnModel", "people", "I", false)
  | 13 => ("GivenGoesOnModel", "habits", "[I", true)
  | 14 => ("GivenGoesOnModel", "knows", "[I", true)
  | 15 => ("GivenGoesOnModel", "likes", "[I", true)
  | 16 => ("GivenGoesOnModel", "owed", "[I", true)
  | 17 => ("GivenGoesOnModel", "feasts", "[I", true)
  | 18 => ("GivenGoesOnModel", "feastMany", "I", false)
  | 19 => ("GivenGoesOnModel", "yearsGone", "I", false)
  | 20 => ("GivenGoesOnModel", "gifts", "I", false)
  | 21 => ("GivenGoesOnModel", "rows", "[I", true)
  | 22 => ("GivenGoesOnModel", "seedNow", "I", false)
  | 23 => ("GivenGoesOnModel", "gave", "[I", true)
  | 24 => ("GivenGoesOnModel", "now", "[J", true)
  | 25 => ("GivenGoesOnModel", "next", "[J", true)
  | 26 => ("GivenGoesOnModel", "home", "[J", true)
  | 27 => ("GivenGoesOnModel", "best", "[I", true)
  | 28 => ("GivenGoesOnModel", "givesTo", "[I", true)
  | 29 => ("GivenGoesOnModel", "far", "[I", true)
  | 30 => ("GivenGoesOnModel", "savedRows", "[I", true)
  | 31 => ("GivenGoesOnModel", "savedOwed", "[I", true)
  | 32 => ("GivenGoesOnModel", "savedFeasts", "[I", true)
  | 33 => ("GivenGoesOnModel", "bookBy", "I", false)
  | 34 => ("GivenGoesOnModel", "bookYears", "I", false)
  | 35 => ("GivenGoesOnModel", "writtenIn", "[I", true)
  | 36 => ("GivenGoesOnModel", "keptGifts", "I", false)
  | 37 => ("GivenGoesOnModel", "keptPeople", "I", false)
  | 38 => ("GivenGoesOnModel", "keptFeastMany", "I", false)
  | 39 => ("GivenGoesOnModel", "keptYears", "I", false)
  | 40 => ("GivenGoesOnModel", "keptRows", "[I", true)
  | 41 => ("GivenGoesOnModel", "keptOwed", "[I", true)
  | 42 => ("GivenGoesOnModel", "keptLikes", "[I", true)
  | 43 => ("GivenGoesOnModel", "keptKnows", "[I", true)
  | 44 => ("GivenGoesOnModel", "keptFeasts", "[I", true)
  | _ => ("GivenGoesOnModel", "hash", "J", false)
def tyX9 : Nat → FieldType := fun k => match k with
  | 0 => .array .int
  | 1 => .int
  | 2 => .int
  | 3 => .int
  | 4 => .int
  | 5 => .int
  | 6 => .int
  | 7 => .int
  | 8 => .int
  | 9 => .int
  | 10 => .int
  | 11 => .int
  | 12 => .int
  | 13 => .array .int
  | 14 => .array .int
  | 15 => .array .int
  | 16 => .array .int
  | 17 => .array .int
  | 18 => .int
  | 19 => .int
  | 20 => .int
  | 21 => .array .int
  | 22 => .int
  | 23 => .array .int
  | 24 => .array .long
  | 25 => .array .long
  | 26 => .array .long
  | 27 => .array .int
  | 28 => .array .int
  | 29 => .array .int
  | 30 => .array .int
  | 31 => .array .int
  | 32 => .array .int
  | 33 => .int
  | 34 => .int
  | 35 => .array .int
  | 36 => .int
  | 37 => .int
  | 38 => .int
  | 39 => .int
  | 40 => .array .int
  | 41 => .array .int
  | 42 => .array .int
  | 43 => .array .int
  | 44 => .array .int
  | _ => .long
theorem nmX9 : ∀ a, a < 46 → ∀ b, b < 46 → a ≠ b → (TX9 a).2.1 ≠ (TX9 b).2.1 := by decide +kernel
theorem tyX9_ok : ∀ k, k < 46 → parseFieldDescriptor (TX9 k).2.2.1 = some (tyX9 k) := by decide +kernel
abbrev cX9_init : ByteArray := prog_11_method_1_code
def yX9_init : MethodName := ⟨RX9, "<init>", "()V"⟩
abbrev cX9_in : ByteArray := prog_11_method_2_code
def yX9_in : MethodName := ⟨RX9, "in", "(JJJ)Z"⟩
abbrev cX9_letters : ByteArray := prog_11_method_3_code
def yX9_letters : MethodName := ⟨RX9, "letters", "(J)I"⟩
abbrev cX9_blank : ByteArray := prog_11_method_4_code
def yX9_blank : MethodName := ⟨RX9, "blank", "()I"⟩
abbrev cX9_go : ByteArray := prog_11_method_5_code
def yX9_go : MethodName := ⟨RX9, "go", "(I)Z"⟩
abbrev cX9_faultOf : ByteArray := prog_11_method_6_code
def yX9_faultOf : MethodName := ⟨RX9, "faultOf", "()I"⟩
abbrev cX9_fault : ByteArray := prog_11_method_7_code
def yX9_fault : MethodName := ⟨RX9, "fault", "()I"⟩
abbrev cX9_law : ByteArray := prog_11_method_8_code
def yX9_law : MethodName := ⟨RX9, "law", "()I"⟩
abbrev cX9_tellLaw : ByteArray := prog_11_method_9_code
def yX9_tellLaw : MethodName := ⟨RX9, "tellLaw", "(I)I"⟩
abbrev cX9_lawTold : ByteArray := prog_11_method_10_code
def yX9_lawTold : MethodName := ⟨RX9, "lawTold", "(I)I"⟩
abbrev cX9_isPerson : ByteArray := prog_11_method_11_code
def yX9_isPerson : MethodName := ⟨RX9, "isPerson", "(I)Z"⟩
abbrev cX9_arePair : ByteArray := prog_11_method_12_code
def yX9_arePair : MethodName := ⟨RX9, "arePair", "(II)Z"⟩
abbrev cX9_person : ByteArray := prog_11_method_13_code
def yX9_person : MethodName := ⟨RX9, "person", "(I)I"⟩
abbrev cX9_know : ByteArray := prog_11_method_14_code
def yX9_know : MethodName := ⟨RX9, "know", "(IIZ)I"⟩
abbrev cX9_like : ByteArray := prog_11_method_15_code
def yX9_like : MethodName := ⟨RX9, "like", "(III)I"⟩
abbrev cX9_isGift : ByteArray := prog_11_method_16_code
def yX9_isGift : MethodName := ⟨RX9, "isGift", "(I)Z"⟩
abbrev cX9_lives : ByteArray := prog_11_method_17_code
def yX9_lives : MethodName := ⟨RX9, "lives", "(I)Z"⟩
abbrev cX9_holds : ByteArray := prog_11_method_18_code
def yX9_holds : MethodName := ⟨RX9, "holds", "(I)I"⟩
abbrev cX9_tellPerson : ByteArray := prog_11_method_19_code
def yX9_tellPerson : MethodName := ⟨RX9, "tellPerson", "(II)I"⟩
abbrev cX9_about : ByteArray := prog_11_method_20_code
def yX9_about : MethodName := ⟨RX9, "about", "(II)I"⟩
abbrev cX9_owes : ByteArray := prog_11_method_21_code
def yX9_owes : MethodName := ⟨RX9, "owes", "(II)I"⟩
abbrev cX9_restOf : ByteArray := prog_11_method_22_code
def yX9_restOf : MethodName := ⟨RX9, "restOf", "(I)I"⟩
abbrev cX9_rest : ByteArray := prog_11_method_23_code
def yX9_rest : MethodName := ⟨RX9, "rest", "(I)I"⟩
abbrev cX9_gift : ByteArray := prog_11_method_24_code
def yX9_gift : MethodName := ⟨RX9, "gift", "(II)I"⟩
abbrev cX9_worthOf : ByteArray := prog_11_method_25_code
def yX9_worthOf : MethodName := ⟨RX9, "worthOf", "(I)I"⟩
abbrev cX9_tellGift : ByteArray := prog_11_method_26_code
def yX9_tellGift : MethodName := ⟨RX9, "tellGift", "(II)I"⟩
abbrev cX9_told : ByteArray := prog_11_method_27_code
def yX9_told : MethodName := ⟨RX9, "told", "(II)I"⟩
abbrev cX9_as : ByteArray := prog_11_method_28_code
def yX9_as : MethodName := ⟨RX9, "as", "(II)I"⟩
abbrev cX9_mayHave : ByteArray := prog_11_method_29_code
def yX9_mayHave : MethodName := ⟨RX9, "mayHave", "(II)I"⟩
abbrev cX9_mayOf : ByteArray := prog_11_method_30_code
def yX9_mayOf : MethodName := ⟨RX9, "mayOf", "(I)I"⟩
abbrev cX9_may : ByteArray := prog_11_method_31_code
def yX9_may : MethodName := ⟨RX9, "may", "(I)I"⟩
abbrev cX9_goOn : ByteArray := prog_11_method_32_code
def yX9_goOn : MethodName := ⟨RX9, "goOn", "(II)I"⟩
abbrev cX9_give : ByteArray := prog_11_method_33_code
def yX9_give : MethodName := ⟨RX9, "give", "(II)I"⟩
abbrev cX9_ones : ByteArray := prog_11_method_34_code
def yX9_ones : MethodName := ⟨RX9, "ones", "(I)I"⟩
abbrev cX9_byHabit : ByteArray := prog_11_method_35_code
def yX9_byHabit : MethodName := ⟨RX9, "byHabit", "(II)I"⟩
abbrev cX9_draw : ByteArray := prog_11_method_36_code
def yX9_draw : MethodName := ⟨RX9, "draw", "(I)I"⟩
abbrev cX9_byDraw : ByteArray := prog_11_method_37_code
def yX9_byDraw : MethodName := ⟨RX9, "byDraw", "(I)I"⟩
abbrev cX9_year : ByteArray := prog_11_method_38_code
def yX9_year : MethodName := ⟨RX9, "year", "(Z)I"⟩
abbrev cX9_years : ByteArray := prog_11_method_39_code
def yX9_years : MethodName := ⟨RX9, "years", "(I)I"⟩
abbrev cX9_goAll : ByteArray := prog_11_method_40_code
def yX9_goAll : MethodName := ⟨RX9, "goAll", "(IZ)J"⟩
abbrev cX9_beginWays : ByteArray := prog_11_method_41_code
def yX9_beginWays : MethodName := ⟨RX9, "beginWays", "(I)V"⟩
abbrev cX9_layWays : ByteArray := prog_11_method_42_code
def yX9_layWays : MethodName := ⟨RX9, "layWays", "(I)V"⟩
abbrev cX9_ways : ByteArray := prog_11_method_43_code
def yX9_ways : MethodName := ⟨RX9, "ways", "(II)I"⟩
abbrev cX9_soonestOf : ByteArray := prog_11_method_44_code
def yX9_soonestOf : MethodName := ⟨RX9, "soonestOf", "(I)I"⟩
abbrev cX9_soonest : ByteArray := prog_11_method_45_code
def yX9_soonest : MethodName := ⟨RX9, "soonest", "(I)I"⟩
abbrev cX9_term : ByteArray := prog_11_method_46_code
def yX9_term : MethodName := ⟨RX9, "term", "(JJI)J"⟩
abbrev cX9_likely : ByteArray := prog_11_method_47_code
def yX9_likely : MethodName := ⟨RX9, "likely", "(III)J"⟩
abbrev cX9_trapsOf : ByteArray := prog_11_method_48_code
def yX9_trapsOf : MethodName := ⟨RX9, "trapsOf", "()I"⟩
abbrev cX9_traps : ByteArray := prog_11_method_49_code
def yX9_traps : MethodName := ⟨RX9, "traps", "()I"⟩
abbrev cX9_layRound : ByteArray := prog_11_method_50_code
def yX9_layRound : MethodName := ⟨RX9, "layRound", "()V"⟩
abbrev cX9_tellRound : ByteArray := prog_11_method_51_code
def yX9_tellRound : MethodName := ⟨RX9, "tellRound", "(I)I"⟩
abbrev cX9_round : ByteArray := prog_11_method_52_code
def yX9_round : MethodName := ⟨RX9, "round", "(I)I"⟩
abbrev cX9_layFar : ByteArray := prog_11_method_53_code
def yX9_layFar : MethodName := ⟨RX9, "layFar", "(I)V"⟩
abbrev cX9_tellStranger : ByteArray := prog_11_method_54_code
def yX9_tellStranger : MethodName := ⟨RX9, "tellStranger", "(III)I"⟩
abbrev cX9_stranger : ByteArray := prog_11_method_55_code
def yX9_stranger : MethodName := ⟨RX9, "stranger", "(III)I"⟩
abbrev cX9_livesMany : ByteArray := prog_11_method_56_code
def yX9_livesMany : MethodName := ⟨RX9, "livesMany", "()I"⟩
abbrev cX9_copy : ByteArray := prog_11_method_57_code
def yX9_copy : MethodName := ⟨RX9, "copy", "([I[II)V"⟩
abbrev cX9_drawn : ByteArray := prog_11_method_58_code
def yX9_drawn : MethodName := ⟨RX9, "drawn", "(III)I"⟩
abbrev cX9_open : ByteArray := prog_11_method_59_code
def yX9_open : MethodName := ⟨RX9, "open", "(II)I"⟩
abbrev cX9_isYear : ByteArray := prog_11_method_60_code
def yX9_isYear : MethodName := ⟨RX9, "isYear", "(I)Z"⟩
abbrev cX9_write : ByteArray := prog_11_method_61_code
def yX9_write : MethodName := ⟨RX9, "write", "(II)I"⟩
abbrev cX9_filledOf : ByteArray := prog_11_method_62_code
def yX9_filledOf : MethodName := ⟨RX9, "filledOf", "()I"⟩
abbrev cX9_filled : ByteArray := prog_11_method_63_code
def yX9_filled : MethodName := ⟨RX9, "filled", "()I"⟩
abbrev cX9_sure : ByteArray := prog_11_method_64_code
def yX9_sure : MethodName := ⟨RX9, "sure", "(I)I"⟩
abbrev cX9_image : ByteArray := prog_11_method_65_code
def yX9_image : MethodName := ⟨RX9, "image", "()I"⟩
abbrev cX9_restore : ByteArray := prog_11_method_66_code
def yX9_restore : MethodName := ⟨RX9, "restore", "()I"⟩
abbrev cX9_countOf : ByteArray := prog_11_method_67_code
def yX9_countOf : MethodName := ⟨RX9, "countOf", "(I)I"⟩
abbrev cX9_count : ByteArray := prog_11_method_68_code
def yX9_count : MethodName := ⟨RX9, "count", "(I)I"⟩
abbrev cX9_say : ByteArray := prog_11_method_69_code
def yX9_say : MethodName := ⟨RX9, "say", "(J)V"⟩
abbrev cX9_sayGift : ByteArray := prog_11_method_70_code
def yX9_sayGift : MethodName := ⟨RX9, "sayGift", "(I)V"⟩
abbrev cX9_digest : ByteArray := prog_11_method_71_code
def yX9_digest : MethodName := ⟨RX9, "digest", "()J"⟩
def RJ6 : String := "java/lang/Integer"
abbrev cJ6_bitCount_0f7a4 : ByteArray := prog_12_method_49_code
def yJ6_bitCount_0f7a4 : MethodName := ⟨RJ6, "bitCount", "(I)I"⟩
def RJ9 : String := "java/lang/Math"
abbrev cJ9_max_7cf53 : ByteArray := prog_13_method_65_code
def yJ9_max_7cf53 : MethodName := ⟨RJ9, "max", "(II)I"⟩
abbrev cJ9_min_7cf53 : ByteArray := prog_13_method_69_code
def yJ9_min_7cf53 : MethodName := ⟨RJ9, "min", "(II)I"⟩
def RJ10 : String := "java/lang/System"
def RL : String := "GivenGoesOnLaw"
abbrev cL_law : ByteArray := code
abbrev vwCl : List vw_C := [(RX0, TX0, 3), (RX1, TX1, 2), (RX2, TX2, 1), (RX3, TX3, 8), (RX4, TX4, 4), (RX5, TX5, 2), (RX6, TX6, 2), (RX7, TX7, 9), (RX8, TX8, 11), (RX9, TX9, 46)]
end
section
theorem dX9_init_0 : decode cX9_init 0 = .ok (.aload_n 0, 1) := by decide +kernel
theorem dX9_init_1 : decode cX9_init 1 = .ok (.invokespecial 1, 3) := by decide +kernel
theorem dX9_init_4 : decode cX9_init 4 = .ok (.aload_n 0, 1) := by decide +kernel
theorem dX9_init_5 : decode cX9_init 5 = .ok (.bipush 16, 2) := by decide +kernel
theorem dX9_init_7 : decode cX9_init 7 = .ok (.newarray .int, 2) := by decide +kernel
theorem dX9_init_9 : decode cX9_init 9 = .ok (.putfield 7, 3) := by decide +kernel
theorem dX9_init_12 : decode cX9_init 12 = .ok (.aload_n 0, 1) := by decide +kernel
theorem dX9_init_13 : decode cX9_init 13 = .ok (.bipush 8, 2) := by decide +kernel
theorem dX9_init_15 : decode cX9_init 15 = .ok (.newarray .int, 2) := by decide +kernel
theorem dX9_init_17 : decode cX9_init 17 = .ok (.putfield 13, 3) := by decide +kernel
theorem dX9_init_20 : decode cX9_init 20 = .ok (.aload_n 0, 1) := by decide +kernel
theorem dX9_init_21 : decode cX9_init 21 = .ok (.bipush 8, 2) := by decide +kernel
theorem dX9_init_23 : decode cX9_init 23 = .ok (.newarray .int, 2) := by decide +kernel
theorem dX9_init_25 : decode cX9_init 25 = .ok (.putfield 16, 3) := by decide +kernel
theorem dX9_init_28 : decode cX9_init 28 = .ok (.aload_n 0, 1) := by decide +kernel
theorem dX9_init_29 : decode cX9_init 29 = .ok (.bipush 64, 2) := by decide +kernel
theorem dX9_init_31 : decode cX9_init 31 = .ok (.newarray .int, 2) := by decide +kernel
theorem dX9_init_33 : decode cX9_init 33 = .ok (.putfield 19, 3) := by decide +kernel
theorem dX9_init_36 : decode cX9_init 36 = .ok (.aload_n 0, 1) := by decide +kernel
theorem dX9_init_37 : decode cX9_init 37 = .ok (.bipush 64, 2) := by decide +kernel
theorem dX9_init_39 : decode cX9_init 39 = .ok (.newarray .int, 2) := by decide +kernel
theorem dX9_init_41 : decode cX9_init 41 = .ok (.putfield 22, 3) := by decide +kernel
theorem dX9_init_44 : decode cX9_init 44 = .ok (.aload_n 0, 1) := by decide +kernel
theorem dX9_init_45 : decode cX9_init 45 = .ok (.bipush 8, 2) := by decide +kernel
theorem dX9_init_47 : decode cX9_init 47 = .ok (.newarray .int, 2) := by decide +kernel
theorem dX9_init_49 : decode cX9_init 49 = .ok (.putfield 25, 3) := by decide +kernel
theorem dX9_init_52 : decode cX9_init 52 = .ok (.aload_n 0, 1) := by decide +kernel
theorem dX9_init_53 : decode cX9_init 53 = .ok (.bipush 64, 2) := by decide +kernel
theorem dX9_init_55 : decode cX9_init 55 = .ok (.newarray .int, 2) := by decide +kernel
theorem dX9_init_57 : decode cX9_init 57 = .ok (.putfield 28, 3) := by decide +kernel
theorem dX9_init_60 : decode cX9_init 60 = .ok (.aload_n 0, 1) := by decide +kernel
theorem dX9_init_61 : decode cX9_init 61 = .ok (.bipush 8, 2) := by decide +kernel
theorem dX9_init_63 : decode cX9_init 63 = .ok (.newarray .int, 2) := by decide +kernel
theorem dX9_init_65 : decode cX9_init 65 = .ok (.putfield 31, 3) := by decide +kernel
theorem dX9_init_68 : decode cX9_init 68 = .ok (.aload_n 0, 1) := by decide +kernel
theorem dX9_init_69 : decode cX9_init 69 = .ok (.bipush 72, 2) := by decide +kernel
theorem dX9_init_71 : decode cX9_init 71 = .ok (.newarray .long, 2) := by decide +kernel
theorem dX9_init_73 : decode cX9_init 73 = .ok (.putfield 34, 3) := by decide +kernel
theorem dX9_init_76 : decode cX9_init 76 = .ok (.aload_n 0, 1) := by decide +kernel
theorem dX9_init_77 : decode cX9_init 77 = .ok (.bipush 72, 2) := by decide +kernel
theorem dX9_init_79 : decode cX9_init 79 = .ok (.newarray .long, 2) := by decide +kernel
theorem dX9_init_81 : decode cX9_init 81 = .ok (.putfield 38, 3) := by decide +kernel
theorem dX9_init_84 : decode cX9_init 84 = .ok (.aload_n 0, 1) := by decide +kernel
theorem dX9_init_85 : decode cX9_init 85 = .ok (.bipush 9, 2) := by decide +kernel
theorem dX9_init_87 : decode cX9_init 87 = .ok (.newarray .long, 2) := by decide +kernel
theorem dX9_init_89 : decode cX9_init 89 = .ok (.putfield 41, 3) := by decide +kernel
theorem dX9_init_92 : decode cX9_init 92 = .ok (.aload_n 0, 1) := by decide +kernel
theorem dX9_init_93 : decode cX9_init 93 = .ok (.sipush 2304, 3) := by decide +kernel
theorem dX9_init_96 : decode cX9_init 96 = .ok (.newarray .int, 2) := by decide +kernel
theorem dX9_init_98 : decode cX9_init 98 = .ok (.putfield 44, 3) := by decide +kernel
theorem dX9_init_101 : decode cX9_init 101 = .ok (.aload_n 0, 1) := by decide +kernel
theorem dX9_init_102 : decode cX9_init 102 = .ok (.bipush 8, 2) := by decide +kernel
theorem dX9_init_104 : decode cX9_init 104 = .ok (.newarray .int, 2) := by decide +kernel
theorem dX9_init_106 : decode cX9_init 106 = .ok (.putfield 47, 3) := by decide +kernel
theorem dX9_init_109 : decode cX9_init 109 = .ok (.aload_n 0, 1) := by decide +kernel
theorem dX9_init_110 : decode cX9_init 110 = .ok (.bipush 8, 2) := by decide +kernel
theorem dX9_init_112 : decode cX9_init 112 = .ok (.newarray .int, 2) := by decide +kernel
theorem dX9_init_114 : decode cX9_init 114 = .ok (.putfield 50, 3) := by decide +kernel
theorem dX9_init_117 : decode cX9_init 117 = .ok (.aload_n 0, 1) := by decide +kernel
theorem dX9_init_118 : decode cX9_init 118 = .ok (.bipush 64, 2) := by decide +kernel
theorem dX9_init_120 : decode cX9_init 120 = .ok (.newarray .int, 2) := by decide +kernel
theorem dX9_init_122 : decode cX9_init 122 = .ok (.putfield 53, 3) := by decide +kernel
theorem dX9_init_125 : decode cX9_init 125 = .ok (.aload_n 0, 1) := by decide +kernel
theorem dX9_init_126 : decode cX9_init 126 = .ok (.bipush 64, 2) := by decide +kernel
theorem dX9_init_128 : decode cX9_init 128 = .ok (.newarray .int, 2) := by decide +kernel
theorem dX9_init_130 : decode cX9_init 130 = .ok (.putfield 56, 3) := by decide +kernel
theorem dX9_init_133 : decode cX9_init 133 = .ok (.aload_n 0, 1) := by decide +kernel
theorem dX9_init_134 : decode cX9_init 134 = .ok (.bipush 8, 2) := by decide +kernel
theorem dX9_init_136 : decode cX9_init 136 = .ok (.newarray .int, 2) := by decide +kernel
theorem dX9_init_138 : decode cX9_init 138 = .ok (.putfield 59, 3) := by decide +kernel
theorem dX9_init_141 : decode cX9_init 141 = .ok (.aload_n 0, 1) := by decide +kernel
theorem dX9_init_142 : decode cX9_init 142 = .ok (.bipush 8, 2) := by decide +kernel
theorem dX9_init_144 : decode cX9_init 144 = .ok (.newarray .int, 2) := by decide +kernel
theorem dX9_init_146 : decode cX9_init 146 = .ok (.putfield 62, 3) := by decide +kernel
theorem dX9_init_149 : decode cX9_init 149 = .ok (.aload_n 0, 1) := by decide +kernel
theorem dX9_init_150 : decode cX9_init 150 = .ok (.bipush 64, 2) := by decide +kernel
theorem dX9_init_152 : decode cX9_init 152 = .ok (.newarray .int, 2) := by decide +kernel
theorem dX9_init_154 : decode cX9_init 154 = .ok (.putfield 65, 3) := by decide +kernel
theorem dX9_init_157 : decode cX9_init 157 = .ok (.aload_n 0, 1) := by decide +kernel
theorem dX9_init_158 : decode cX9_init 158 = .ok (.bipush 64, 2) := by decide +kernel
theorem dX9_init_160 : decode cX9_init 160 = .ok (.newarray .int, 2) := by decide +kernel
theorem dX9_init_162 : decode cX9_init 162 = .ok (.putfield 68, 3) := by decide +kernel
theorem dX9_init_165 : decode cX9_init 165 = .ok (.aload_n 0, 1) := by decide +kernel
theorem dX9_init_166 : decode cX9_init 166 = .ok (.bipush 64, 2) := by decide +kernel
theorem dX9_init_168 : decode cX9_init 168 = .ok (.newarray .int, 2) := by decide +kernel
theorem dX9_init_170 : decode cX9_init 170 = .ok (.putfield 71, 3) := by decide +kernel
theorem dX9_init_173 : decode cX9_init 173 = .ok (.aload_n 0, 1) := by decide +kernel
theorem dX9_init_174 : decode cX9_init 174 = .ok (.bipush 8, 2) := by decide +kernel
theorem dX9_init_176 : decode cX9_init 176 = .ok (.newarray .int, 2) := by decide +kernel
theorem dX9_init_178 : decode cX9_init 178 = .ok (.putfield 74, 3) := by decide +kernel
theorem dX9_init_181 : decode cX9_init 181 = .ok (.aload_n 0, 1) := by decide +kernel
theorem dX9_init_182 : decode cX9_init 182 = .ok (.bipush 8, 2) := by decide +kernel
theorem dX9_init_184 : decode cX9_init 184 = .ok (.newarray .int, 2) := by decide +kernel
theorem dX9_init_186 : decode cX9_init 186 = .ok (.putfield 77, 3) := by decide +kernel
theorem dX9_init_189 : decode cX9_init 189 = .ok (.aload_n 0, 1) := by decide +kernel
theorem dX9_init_190 : decode cX9_init 190 = .ok (.iconst (-1), 1) := by decide +kernel
theorem dX9_init_191 : decode cX9_init 191 = .ok (.putfield 80, 3) := by decide +kernel
theorem dX9_init_194 : decode cX9_init 194 = .ok (.aload_n 0, 1) := by decide +kernel
theorem dX9_init_195 : decode cX9_init 195 = .ok (.iconst 1, 1) := by decide +kernel
theorem dX9_init_196 : decode cX9_init 196 = .ok (.putfield 84, 3) := by decide +kernel
theorem dX9_init_199 : decode cX9_init 199 = .ok (.aload_n 0, 1) := by decide +kernel
theorem dX9_init_200 : decode cX9_init 200 = .ok (.iconst 3, 1) := by decide +kernel
theorem dX9_init_201 : decode cX9_init 201 = .ok (.putfield 87, 3) := by decide +kernel
theorem dX9_init_204 : decode cX9_init 204 = .ok (.aload_n 0, 1) := by decide +kernel
theorem dX9_init_205 : decode cX9_init 205 = .ok (.iconst (-1), 1) := by decide +kernel
theorem dX9_init_206 : decode cX9_init 206 = .ok (.putfield 90, 3) := by decide +kernel
theorem dX9_init_209 : decode cX9_init 209 = .ok (.return_, 1) := by decide +kernel
theorem dX9_in_0 : decode cX9_in 0 = .ok (.lload_n 0, 1) := by decide +kernel
theorem dX9_in_1 : decode cX9_in 1 = .ok (.lload_n 2, 1) := by decide +kernel
theorem dX9_in_2 : decode cX9_in 2 = .ok (.lcmp, 1) := by decide +kernel
theorem dX9_in_3 : decode cX9_in 3 = .ok (.ifCond .lt 14, 3) := by decide +kernel
theorem dX9_in_6 : decode cX9_in 6 = .ok (.lload_n 0, 1) := by decide +kernel
theorem dX9_in_7 : decode cX9_in 7 = .ok (.lload 4, 2) := by decide +kernel
theorem dX9_in_9 : decode cX9_in 9 = .ok (.lcmp, 1) := by decide +kernel
theorem dX9_in_10 : decode cX9_in 10 = .ok (.ifCond .gt 7, 3) := by decide +kernel
theorem dX9_in_13 : decode cX9_in 13 = .ok (.iconst 1, 1) := by decide +kernel
theorem dX9_in_14 : decode cX9_in 14 = .ok (.goto 4, 3) := by decide +kernel
theorem dX9_in_17 : decode cX9_in 17 = .ok (.iconst 0, 1) := by decide +kernel
theorem dX9_in_18 : decode cX9_in 18 = .ok (.ireturn, 1) := by decide +kernel
theorem dX9_letters_0 : decode cX9_letters 0 = .ok (.iconst 0, 1) := by decide +kernel
theorem dX9_letters_1 : decode cX9_letters 1 = .ok (.istore_n 3, 1) := by decide +kernel
theorem dX9_letters_2 : decode cX9_letters 2 = .ok (.iconst 1, 1) := by decide +kernel
theorem dX9_letters_3 : decode cX9_letters 3 = .ok (.istore 4, 2) := by decide +kernel
theorem dX9_letters_5 : decode cX9_letters 5 = .ok (.lload_n 1, 1) := by decide +kernel
theorem dX9_letters_6 : decode cX9_letters 6 = .ok (.lstore 5, 2) := by decide +kernel
theorem dX9_letters_8 : decode cX9_letters 8 = .ok (.iconst 0, 1) := by decide +kernel
theorem dX9_letters_9 : decode cX9_letters 9 = .ok (.istore 7, 2) := by decide +kernel
theorem dX9_letters_11 : decode cX9_letters 11 = .ok (.iload 7, 2) := by decide +kernel
theorem dX9_letters_13 : decode cX9_letters 13 = .ok (.bipush 8, 2) := by decide +kernel
theorem dX9_letters_15 : decode cX9_letters 15 = .ok (.if_icmp .ge 68, 3) := by decide +kernel
theorem dX9_letters_18 : decode cX9_letters 18 = .ok (.lload 5, 2) := by decide +kernel
theorem dX9_letters_20 : decode cX9_letters 20 = .ok (.ldc2_w 93, 3) := by decide +kernel
theorem dX9_letters_23 : decode cX9_letters 23 = .ok (.land, 1) := by decide +kernel
theorem dX9_letters_24 : decode cX9_letters 24 = .ok (.l2i, 1) := by decide +kernel
theorem dX9_letters_25 : decode cX9_letters 25 = .ok (.istore 8, 2) := by decide +kernel
theorem dX9_letters_27 : decode cX9_letters 27 = .ok (.lload 5, 2) := by decide +kernel
theorem dX9_letters_29 : decode cX9_letters 29 = .ok (.bipush 8, 2) := by decide +kernel
theorem dX9_letters_31 : decode cX9_letters 31 = .ok (.lushr, 1) := by decide +kernel
theorem dX9_letters_32 : decode cX9_letters 32 = .ok (.lstore 5, 2) := by decide +kernel
theorem dX9_letters_34 : decode cX9_letters 34 = .ok (.iload 4, 2) := by decide +kernel
theorem dX9_letters_36 : decode cX9_letters 36 = .ok (.ifCond .eq 25, 3) := by decide +kernel
theorem dX9_letters_39 : decode cX9_letters 39 = .ok (.iload 8, 2) := by decide +kernel
theorem dX9_letters_41 : decode cX9_letters 41 = .ok (.bipush 126, 2) := by decide +kernel
theorem dX9_letters_43 : decode cX9_letters 43 = .ok (.if_icmp .gt 18, 3) := by decide +kernel
theorem dX9_letters_46 : decode cX9_letters 46 = .ok (.iload 8, 2) := by decide +kernel
theorem dX9_letters_48 : decode cX9_letters 48 = .ok (.ifCond .eq 9, 3) := by decide +kernel
theorem dX9_letters_51 : decode cX9_letters 51 = .ok (.iload_n 3, 1) := by decide +kernel
theorem dX9_letters_52 : decode cX9_letters 52 = .ok (.iload 7, 2) := by decide +kernel
theorem dX9_letters_54 : decode cX9_letters 54 = .ok (.if_icmp .ne 7, 3) := by decide +kernel
theorem dX9_letters_57 : decode cX9_letters 57 = .ok (.iconst 1, 1) := by decide +kernel
theorem dX9_letters_58 : decode cX9_letters 58 = .ok (.goto 4, 3) := by decide +kernel
theorem dX9_letters_61 : decode cX9_letters 61 = .ok (.iconst 0, 1) := by decide +kernel
theorem dX9_letters_62 : decode cX9_letters 62 = .ok (.istore 4, 2) := by decide +kernel
theorem dX9_letters_64 : decode cX9_letters 64 = .ok (.iload_n 3, 1) := by decide +kernel
theorem dX9_letters_65 : decode cX9_letters 65 = .ok (.iload 8, 2) := by decide +kernel
theorem dX9_letters_67 : decode cX9_letters 67 = .ok (.ifCond .le 7, 3) := by decide +kernel
theorem dX9_letters_70 : decode cX9_letters 70 = .ok (.iconst 1, 1) := by decide +kernel
theorem dX9_letters_71 : decode cX9_letters 71 = .ok (.goto 4, 3) := by decide +kernel
theorem dX9_letters_74 : decode cX9_letters 74 = .ok (.iconst 0, 1) := by decide +kernel
theorem dX9_letters_75 : decode cX9_letters 75 = .ok (.iadd, 1) := by decide +kernel
theorem dX9_letters_76 : decode cX9_letters 76 = .ok (.istore_n 3, 1) := by decide +kernel
theorem dX9_letters_77 : decode cX9_letters 77 = .ok (.iinc 7 1, 3) := by decide +kernel
theorem dX9_letters_80 : decode cX9_letters 80 = .ok (.goto (-69), 3) := by decide +kernel
theorem dX9_letters_83 : decode cX9_letters 83 = .ok (.iload 4, 2) := by decide +kernel
theorem dX9_letters_85 : decode cX9_letters 85 = .ok (.ifCond .ne 6, 3) := by decide +kernel
theorem dX9_letters_88 : decode cX9_letters 88 = .ok (.bipush (-102), 2) := by decide +kernel
theorem dX9_letters_90 : decode cX9_letters 90 = .ok (.ireturn, 1) := by decide +kernel
theorem dX9_letters_91 : decode cX9_letters 91 = .ok (.aload_n 0, 1) := by decide +kernel
theorem dX9_letters_92 : decode cX9_letters 92 = .ok (.getfield 95, 3) := by decide +kernel
theorem dX9_letters_95 : decode cX9_letters 95 = .ok (.iload_n 3, 1) := by decide +kernel
theorem dX9_letters_96 : decode cX9_letters 96 = .ok (.iadd, 1) := by decide +kernel
theorem dX9_letters_97 : decode cX9_letters 97 = .ok (.bipush 16, 2) := by decide +kernel
theorem dX9_letters_99 : decode cX9_letters 99 = .ok (.if_icmp .le 6, 3) := by decide +kernel
theorem dX9_letters_102 : decode cX9_letters 102 = .ok (.bipush (-104), 2) := by decide +kernel
theorem dX9_letters_104 : decode cX9_letters 104 = .ok (.ireturn, 1) := by decide +kernel
theorem dX9_letters_105 : decode cX9_letters 105 = .ok (.iconst 0, 1) := by decide +kernel
theorem dX9_letters_106 : decode cX9_letters 106 = .ok (.istore 7, 2) := by decide +kernel
theorem dX9_letters_108 : decode cX9_letters 108 = .ok (.iload 7, 2) := by decide +kernel
theorem dX9_letters_110 : decode cX9_letters 110 = .ok (.iload_n 3, 1) := by decide +kernel
theorem dX9_letters_111 : decode cX9_letters 111 = .ok (.if_icmp .ge 40, 3) := by decide +kernel
theorem dX9_letters_114 : decode cX9_letters 114 = .ok (.aload_n 0, 1) := by decide +kernel
theorem dX9_letters_115 : decode cX9_letters 115 = .ok (.getfield 7, 3) := by decide +kernel
theorem dX9_letters_118 : decode cX9_letters 118 = .ok (.aload_n 0, 1) := by decide +kernel
theorem dX9_letters_119 : decode cX9_letters 119 = .ok (.getfield 95, 3) := by decide +kernel
theorem dX9_letters_122 : decode cX9_letters 122 = .ok (.lload_n 1, 1) := by decide +kernel
theorem dX9_letters_123 : decode cX9_letters 123 = .ok (.bipush 8, 2) := by decide +kernel
theorem dX9_letters_125 : decode cX9_letters 125 = .ok (.iload 7, 2) := by decide +kernel
theorem dX9_letters_127 : decode cX9_letters 127 = .ok (.imul, 1) := by decide +kernel
theorem dX9_letters_128 : decode cX9_letters 128 = .ok (.lushr, 1) := by decide +kernel
theorem dX9_letters_129 : decode cX9_letters 129 = .ok (.ldc2_w 93, 3) := by decide +kernel
theorem dX9_letters_132 : decode cX9_letters 132 = .ok (.land, 1) := by decide +kernel
theorem dX9_letters_133 : decode cX9_letters 133 = .ok (.l2i, 1) := by decide +kernel
theorem dX9_letters_134 : decode cX9_letters 134 = .ok (.iastore, 1) := by decide +kernel
theorem dX9_letters_135 : decode cX9_letters 135 = .ok (.aload_n 0, 1) := by decide +kernel
theorem dX9_letters_136 : decode cX9_letters 136 = .ok (.dup, 1) := by decide +kernel
theorem dX9_letters_137 : decode cX9_letters 137 = .ok (.getfield 95, 3) := by decide +kernel
theorem dX9_letters_140 : decode cX9_letters 140 = .ok (.iconst 1, 1) := by decide +kernel
theorem dX9_letters_141 : decode cX9_letters 141 = .ok (.iadd, 1) := by decide +kernel
theorem dX9_letters_142 : decode cX9_letters 142 = .ok (.putfield 95, 3) := by decide +kernel
theorem dX9_letters_145 : decode cX9_letters 145 = .ok (.iinc 7 1, 3) := by decide +kernel
theorem dX9_letters_148 : decode cX9_letters 148 = .ok (.goto (-40), 3) := by decide +kernel
theorem dX9_letters_151 : decode cX9_letters 151 = .ok (.aload_n 0, 1) := by decide +kernel
theorem dX9_letters_152 : decode cX9_letters 152 = .ok (.getfield 95, 3) := by decide +kernel
theorem dX9_letters_155 : decode cX9_letters 155 = .ok (.ireturn, 1) := by decide +kernel
theorem dX9_blank_0 : decode cX9_blank 0 = .ok (.aload_n 0, 1) := by decide +kernel
theorem dX9_blank_1 : decode cX9_blank 1 = .ok (.getfield 95, 3) := by decide +kernel
theorem dX9_blank_4 : decode cX9_blank 4 = .ok (.istore_n 1, 1) := by decide +kernel
theorem dX9_blank_5 : decode cX9_blank 5 = .ok (.aload_n 0, 1) := by decide +kernel
theorem dX9_blank_6 : decode cX9_blank 6 = .ok (.iconst 0, 1) := by decide +kernel
theorem dX9_blank_7 : decode cX9_blank 7 = .ok (.putfield 95, 3) := by decide +kernel
theorem dX9_blank_10 : decode cX9_blank 10 = .ok (.iload_n 1, 1) := by decide +kernel
theorem dX9_blank_11 : decode cX9_blank 11 = .ok (.ireturn, 1) := by decide +kernel
theorem dX9_go_0 : decode cX9_go 0 = .ok (.aload_n 0, 1) := by decide +kernel
theorem dX9_go_1 : decode cX9_go 1 = .ok (.getfield 98, 3) := by decide +kernel
theorem dX9_go_4 : decode cX9_go 4 = .ok (.iconst 1, 1) := by decide +kernel
theorem dX9_go_5 : decode cX9_go 5 = .ok (.if_icmp .ne 28, 3) := by decide +kernel
theorem dX9_go_8 : decode cX9_go 8 = .ok (.aload_n 0, 1) := by decide +kernel
theorem dX9_go_9 : decode cX9_go 9 = .ok (.iload_n 1, 1) := by decide +kernel
theorem dX9_go_10 : decode cX9_go 10 = .ok (.bipush 48, 2) := by decide +kernel
theorem dX9_go_12 : decode cX9_go 12 = .ok (.isub, 1) := by decide +kernel
theorem dX9_go_13 : decode cX9_go 13 = .ok (.putfield 101, 3) := by decide +kernel
theorem dX9_go_16 : decode cX9_go 16 = .ok (.aload_n 0, 1) := by decide +kernel
theorem dX9_go_17 : decode cX9_go 17 = .ok (.iconst 2, 1) := by decide +kernel
theorem dX9_go_18 : decode cX9_go 18 = .ok (.putfield 98, 3) := by decide +kernel
theorem dX9_go_21 : decode cX9_go 21 = .ok (.iload_n 1, 1) := by decide +kernel
theorem dX9_go_22 : decode cX9_go 22 = .ok (.i2l, 1) := by decide +kernel
theorem dX9_go_23 : decode cX9_go 23 = .ok (.ldc2_w 104, 3) := by decide +kernel
theorem dX9_go_26 : decode cX9_go 26 = .ok (.ldc2_w 106, 3) := by decide +kernel
theorem dX9_go_29 : decode cX9_go 29 = .ok (.invokestatic 108, 3) := by decide +kernel
theorem dX9_go_32 : decode cX9_go 32 = .ok (.ireturn, 1) := by decide +kernel
theorem dX9_go_33 : decode cX9_go 33 = .ok (.aload_n 0, 1) := by decide +kernel
theorem dX9_go_34 : decode cX9_go 34 = .ok (.getfield 98, 3) := by decide +kernel
theorem dX9_go_37 : decode cX9_go 37 = .ok (.iconst 5, 1) := by decide +kernel
theorem dX9_go_38 : decode cX9_go 38 = .ok (.if_icmp .ne 29, 3) := by decide +kernel
theorem dX9_go_41 : decode cX9_go 41 = .ok (.aload_n 0, 1) := by decide +kernel
theorem dX9_go_42 : decode cX9_go 42 = .ok (.iload_n 1, 1) := by decide +kernel
theorem dX9_go_43 : decode cX9_go 43 = .ok (.bipush 48, 2) := by decide +kernel
theorem dX9_go_45 : decode cX9_go 45 = .ok (.isub, 1) := by decide +kernel
theorem dX9_go_46 : decode cX9_go 46 = .ok (.putfield 112, 3) := by decide +kernel
theorem dX9_go_49 : decode cX9_go 49 = .ok (.aload_n 0, 1) := by decide +kernel
theorem dX9_go_50 : decode cX9_go 50 = .ok (.bipush 6, 2) := by decide +kernel
theorem dX9_go_52 : decode cX9_go 52 = .ok (.putfield 98, 3) := by decide +kernel
theorem dX9_go_55 : decode cX9_go 55 = .ok (.iload_n 1, 1) := by decide +kernel
theorem dX9_go_56 : decode cX9_go 56 = .ok (.i2l, 1) := by decide +kernel
theorem dX9_go_57 : decode cX9_go 57 = .ok (.ldc2_w 104, 3) := by decide +kernel
theorem dX9_go_60 : decode cX9_go 60 = .ok (.ldc2_w 115, 3) := by decide +kernel
theorem dX9_go_63 : decode cX9_go 63 = .ok (.invokestatic 108, 3) := by decide +kernel
theorem dX9_go_66 : decode cX9_go 66 = .ok (.ireturn, 1) := by decide +kernel
theorem dX9_go_67 : decode cX9_go 67 = .ok (.iload_n 1, 1) := by decide +kernel
theorem dX9_go_68 : decode cX9_go 68 = .ok (.bipush 107, 2) := by decide +kernel
theorem dX9_go_70 : decode cX9_go 70 = .ok (.if_icmp .ne 10, 3) := by decide +kernel
theorem dX9_go_73 : decode cX9_go 73 = .ok (.aload_n 0, 1) := by decide +kernel
theorem dX9_go_74 : decode cX9_go 74 = .ok (.getfield 98, 3) := by decide +kernel
theorem dX9_go_77 : decode cX9_go 77 = .ok (.ifCond .eq 45, 3) := by decide +kernel
theorem dX9_go_80 : decode cX9_go 80 = .ok (.iload_n 1, 1) := by decide +kernel
theorem dX9_go_81 : decode cX9_go 81 = .ok (.bipush 98, 2) := by decide +kernel
theorem dX9_go_83 : decode cX9_go 83 = .ok (.if_icmp .ne 11, 3) := by decide +kernel
theorem dX9_go_86 : decode cX9_go 86 = .ok (.aload_n 0, 1) := by decide +kernel
theorem dX9_go_87 : decode cX9_go 87 = .ok (.getfield 98, 3) := by decide +kernel
theorem dX9_go_90 : decode cX9_go 90 = .ok (.iconst 3, 1) := by decide +kernel
theorem dX9_go_91 : decode cX9_go 91 = .ok (.if_icmp .lt 31, 3) := by decide +kernel
theorem dX9_go_94 : decode cX9_go 94 = .ok (.iload_n 1, 1) := by decide +kernel
theorem dX9_go_95 : decode cX9_go 95 = .ok (.bipush 111, 2) := by decide +kernel
theorem dX9_go_97 : decode cX9_go 97 = .ok (.if_icmp .ne 11, 3) := by decide +kernel
theorem dX9_go_100 : decode cX9_go 100 = .ok (.aload_n 0, 1) := by decide +kernel
theorem dX9_go_101 : decode cX9_go 101 = .ok (.getfield 98, 3) := by decide +kernel
theorem dX9_go_104 : decode cX9_go 104 = .ok (.iconst 4, 1) := by decide +kernel
theorem dX9_go_105 : decode cX9_go 105 = .ok (.if_icmp .lt 17, 3) := by decide +kernel
theorem dX9_go_108 : decode cX9_go 108 = .ok (.iload_n 1, 1) := by decide +kernel
theorem dX9_go_109 : decode cX9_go 109 = .ok (.bipush 119, 2) := by decide +kernel
theorem dX9_go_111 : decode cX9_go 111 = .ok (.if_icmp .ne 15, 3) := by decide +kernel
theorem dX9_go_114 : decode cX9_go 114 = .ok (.aload_n 0, 1) := by decide +kernel
theorem dX9_go_115 : decode cX9_go 115 = .ok (.getfield 98, 3) := by decide +kernel
theorem dX9_go_118 : decode cX9_go 118 = .ok (.iconst 5, 1) := by decide +kernel
theorem dX9_go_119 : decode cX9_go 119 = .ok (.if_icmp .ge 7, 3) := by decide +kernel
theorem dX9_go_122 : decode cX9_go 122 = .ok (.iconst 1, 1) := by decide +kernel
theorem dX9_go_123 : decode cX9_go 123 = .ok (.goto 4, 3) := by decide +kernel
theorem dX9_go_126 : decode cX9_go 126 = .ok (.iconst 0, 1) := by decide +kernel
theorem dX9_go_127 : decode cX9_go 127 = .ok (.istore_n 2, 1) := by decide +kernel
theorem dX9_go_128 : decode cX9_go 128 = .ok (.aload_n 0, 1) := by decide +kernel
theorem dX9_go_129 : decode cX9_go 129 = .ok (.iload_n 1, 1) := by decide +kernel
theorem dX9_go_130 : decode cX9_go 130 = .ok (.bipush 98, 2) := by decide +kernel
theorem dX9_go_132 : decode cX9_go 132 = .ok (.if_icmp .ne 7, 3) := by decide +kernel
theorem dX9_go_135 : decode cX9_go 135 = .ok (.iconst 1, 1) := by decide +kernel
theorem dX9_go_136 : decode cX9_go 136 = .ok (.goto 7, 3) := by decide +kernel
theorem dX9_go_139 : decode cX9_go 139 = .ok (.aload_n 0, 1) := by decide +kernel
theorem dX9_go_140 : decode cX9_go 140 = .ok (.getfield 117, 3) := by decide +kernel
theorem dX9_go_143 : decode cX9_go 143 = .ok (.putfield 117, 3) := by decide +kernel
theorem dX9_go_146 : decode cX9_go 146 = .ok (.aload_n 0, 1) := by decide +kernel
theorem dX9_go_147 : decode cX9_go 147 = .ok (.iload_n 1, 1) := by decide +kernel
theorem dX9_go_148 : decode cX9_go 148 = .ok (.bipush 111, 2) := by decide +kernel
theorem dX9_go_150 : decode cX9_go 150 = .ok (.if_icmp .ne 7, 3) := by decide +kernel
theorem dX9_go_153 : decode cX9_go 153 = .ok (.iconst 1, 1) := by decide +kernel
theorem dX9_go_154 : decode cX9_go 154 = .ok (.goto 7, 3) := by decide +kernel
theorem dX9_go_157 : decode cX9_go 157 = .ok (.aload_n 0, 1) := by decide +kernel
theorem dX9_go_158 : decode cX9_go 158 = .ok (.getfield 120, 3) := by decide +kernel
theorem dX9_go_161 : decode cX9_go 161 = .ok (.putfield 120, 3) := by decide +kernel
theorem dX9_go_164 : decode cX9_go 164 = .ok (.aload_n 0, 1) := by decide +kernel
theorem dX9_go_165 : decode cX9_go 165 = .ok (.iload_n 1, 1) := by decide +kernel
theorem dX9_go_166 : decode cX9_go 166 = .ok (.bipush 107, 2) := by decide +kernel
theorem dX9_go_168 : decode cX9_go 168 = .ok (.if_icmp .ne 7, 3) := by decide +kernel
theorem dX9_go_171 : decode cX9_go 171 = .ok (.iconst 1, 1) := by decide +kernel
theorem dX9_go_172 : decode cX9_go 172 = .ok (.goto 24, 3) := by decide +kernel
theorem dX9_go_175 : decode cX9_go 175 = .ok (.iload_n 1, 1) := by decide +kernel
theorem dX9_go_176 : decode cX9_go 176 = .ok (.bipush 98, 2) := by decide +kernel
theorem dX9_go_178 : decode cX9_go 178 = .ok (.if_icmp .ne 7, 3) := by decide +kernel
theorem dX9_go_181 : decode cX9_go 181 = .ok (.iconst 3, 1) := by decide +kernel
theorem dX9_go_182 : decode cX9_go 182 = .ok (.goto 14, 3) := by decide +kernel
theorem dX9_go_185 : decode cX9_go 185 = .ok (.iload_n 1, 1) := by decide +kernel
theorem dX9_go_186 : decode cX9_go 186 = .ok (.bipush 111, 2) := by decide +kernel
theorem dX9_go_188 : decode cX9_go 188 = .ok (.if_icmp .ne 7, 3) := by decide +kernel
theorem dX9_go_191 : decode cX9_go 191 = .ok (.iconst 4, 1) := by decide +kernel
theorem dX9_go_192 : decode cX9_go 192 = .ok (.goto 4, 3) := by decide +kernel
theorem dX9_go_195 : decode cX9_go 195 = .ok (.iconst 5, 1) := by decide +kernel
theorem dX9_go_196 : decode cX9_go 196 = .ok (.putfield 98, 3) := by decide +kernel
theorem dX9_go_199 : decode cX9_go 199 = .ok (.iload_n 2, 1) := by decide +kernel
theorem dX9_go_200 : decode cX9_go 200 = .ok (.ireturn, 1) := by decide +kernel
theorem dX9_faultOf_0 : decode cX9_faultOf 0 = .ok (.aload_n 0, 1) := by decide +kernel
theorem dX9_faultOf_1 : decode cX9_faultOf 1 = .ok (.iconst 0, 1) := by decide +kernel
theorem dX9_faultOf_2 : decode cX9_faultOf 2 = .ok (.putfield 98, 3) := by decide +kernel
theorem dX9_faultOf_5 : decode cX9_faultOf 5 = .ok (.aload_n 0, 1) := by decide +kernel
theorem dX9_faultOf_6 : decode cX9_faultOf 6 = .ok (.iconst 1, 1) := by decide +kernel
theorem dX9_faultOf_7 : decode cX9_faultOf 7 = .ok (.putfield 101, 3) := by decide +kernel
theorem dX9_faultOf_10 : decode cX9_faultOf 10 = .ok (.aload_n 0, 1) := by decide +kernel
theorem dX9_faultOf_11 : decode cX9_faultOf 11 = .ok (.iconst 0, 1) := by decide +kernel
theorem dX9_faultOf_12 : decode cX9_faultOf 12 = .ok (.putfield 117, 3) := by decide +kernel
theorem dX9_faultOf_15 : decode cX9_faultOf 15 = .ok (.aload_n 0, 1) := by decide +kernel
theorem dX9_faultOf_16 : decode cX9_faultOf 16 = .ok (.iconst 0, 1) := by decide +kernel
theorem dX9_faultOf_17 : decode cX9_faultOf 17 = .ok (.putfield 120, 3) := by decide +kernel
theorem dX9_faultOf_20 : decode cX9_faultOf 20 = .ok (.aload_n 0, 1) := by decide +kernel
theorem dX9_faultOf_21 : decode cX9_faultOf 21 = .ok (.iconst 3, 1) := by decide +kernel
theorem dX9_faultOf_22 : decode cX9_faultOf 22 = .ok (.putfield 112, 3) := by decide +kernel
theorem dX9_faultOf_25 : decode cX9_faultOf 25 = .ok (.iconst 0, 1) := by decide +kernel
theorem dX9_faultOf_26 : decode cX9_faultOf 26 = .ok (.istore_n 1, 1) := by decide +kernel
theorem dX9_faultOf_27 : decode cX9_faultOf 27 = .ok (.iload_n 1, 1) := by decide +kernel
theorem dX9_faultOf_28 : decode cX9_faultOf 28 = .ok (.aload_n 0, 1) := by decide +kernel
theorem dX9_faultOf_29 : decode cX9_faultOf 29 = .ok (.getfield 95, 3) := by decide +kernel
theorem dX9_faultOf_32 : decode cX9_faultOf 32 = .ok (.if_icmp .ge 22, 3) := by decide +kernel
theorem dX9_faultOf_35 : decode cX9_faultOf 35 = .ok (.aload_n 0, 1) := by decide +kernel
theorem dX9_faultOf_36 : decode cX9_faultOf 36 = .ok (.aload_n 0, 1) := by decide +kernel
theorem dX9_faultOf_37 : decode cX9_faultOf 37 = .ok (.getfield 7, 3) := by decide +kernel
theorem dX9_faultOf_40 : decode cX9_faultOf 40 = .ok (.iload_n 1, 1) := by decide +kernel
theorem dX9_faultOf_41 : decode cX9_faultOf 41 = .ok (.iaload, 1) := by decide +kernel
theorem dX9_faultOf_42 : decode cX9_faultOf 42 = .ok (.invokevirtual 123, 3) := by decide +kernel
theorem dX9_faultOf_45 : decode cX9_faultOf 45 = .ok (.ifCond .eq 9, 3) := by decide +kernel
theorem dX9_faultOf_48 : decode cX9_faultOf 48 = .ok (.iinc 1 1, 3) := by decide +kernel
theorem dX9_faultOf_51 : decode cX9_faultOf 51 = .ok (.goto (-24), 3) := by decide +kernel
theorem dX9_faultOf_54 : decode cX9_faultOf 54 = .ok (.iload_n 1, 1) := by decide +kernel
theorem dX9_faultOf_55 : decode cX9_faultOf 55 = .ok (.ireturn, 1) := by decide +kernel
theorem dX9_fault_0 : decode cX9_fault 0 = .ok (.aload_n 0, 1) := by decide +kernel
theorem dX9_fault_1 : decode cX9_fault 1 = .ok (.invokevirtual 127, 3) := by decide +kernel
theorem dX9_fault_4 : decode cX9_fault 4 = .ok (.ireturn, 1) := by decide +kernel
theorem dX9_law_0 : decode cX9_law 0 = .ok (.aload_n 0, 1) := by decide +kernel
theorem dX9_law_1 : decode cX9_law 1 = .ok (.invokevirtual 127, 3) := by decide +kernel
theorem dX9_law_4 : decode cX9_law 4 = .ok (.aload_n 0, 1) := by decide +kernel
theorem dX9_law_5 : decode cX9_law 5 = .ok (.getfield 95, 3) := by decide +kernel
theorem dX9_law_8 : decode cX9_law 8 = .ok (.if_icmp .lt 19, 3) := by decide +kernel
theorem dX9_law_11 : decode cX9_law 11 = .ok (.aload_n 0, 1) := by decide +kernel
theorem dX9_law_12 : decode cX9_law 12 = .ok (.getfield 98, 3) := by decide +kernel
theorem dX9_law_15 : decode cX9_law 15 = .ok (.iconst 1, 1) := by decide +kernel
theorem dX9_law_16 : decode cX9_law 16 = .ok (.if_icmp .eq 11, 3) := by decide +kernel
theorem dX9_law_19 : decode cX9_law 19 = .ok (.aload_n 0, 1) := by decide +kernel
theorem dX9_law_20 : decode cX9_law 20 = .ok (.getfield 98, 3) := by decide +kernel
theorem dX9_law_23 : decode cX9_law 23 = .ok (.iconst 5, 1) := by decide +kernel
theorem dX9_law_24 : decode cX9_law 24 = .ok (.if_icmp .ne 6, 3) := by decide +kernel
theorem dX9_law_27 : decode cX9_law 27 = .ok (.bipush (-103), 2) := by decide +kernel
theorem dX9_law_29 : decode cX9_law 29 = .ok (.ireturn, 1) := by decide +kernel
theorem dX9_law_30 : decode cX9_law 30 = .ok (.aload_n 0, 1) := by decide +kernel
theorem dX9_law_31 : decode cX9_law 31 = .ok (.aload_n 0, 1) := by decide +kernel
theorem dX9_law_32 : decode cX9_law 32 = .ok (.getfield 101, 3) := by decide +kernel
theorem dX9_law_35 : decode cX9_law 35 = .ok (.putfield 84, 3) := by decide +kernel
theorem dX9_law_38 : decode cX9_law 38 = .ok (.aload_n 0, 1) := by decide +kernel
theorem dX9_law_39 : decode cX9_law 39 = .ok (.aload_n 0, 1) := by decide +kernel
theorem dX9_law_40 : decode cX9_law 40 = .ok (.getfield 117, 3) := by decide +kernel
theorem dX9_law_43 : decode cX9_law 43 = .ok (.putfield 131, 3) := by decide +kernel
theorem dX9_law_46 : decode cX9_law 46 = .ok (.aload_n 0, 1) := by decide +kernel
theorem dX9_law_47 : decode cX9_law 47 = .ok (.aload_n 0, 1) := by decide +kernel
theorem dX9_law_48 : decode cX9_law 48 = .ok (.getfield 120, 3) := by decide +kernel
theorem dX9_law_51 : decode cX9_law 51 = .ok (.putfield 134, 3) := by decide +kernel
theorem dX9_law_54 : decode cX9_law 54 = .ok (.aload_n 0, 1) := by decide +kernel
theorem dX9_law_55 : decode cX9_law 55 = .ok (.aload_n 0, 1) := by decide +kernel
theorem dX9_law_56 : decode cX9_law 56 = .ok (.getfield 112, 3) := by decide +kernel
theorem dX9_law_59 : decode cX9_law 59 = .ok (.putfield 87, 3) := by decide +kernel
theorem dX9_law_62 : decode cX9_law 62 = .ok (.aload_n 0, 1) := by decide +kernel
theorem dX9_law_63 : decode cX9_law 63 = .ok (.dup, 1) := by decide +kernel
theorem dX9_law_64 : decode cX9_law 64 = .ok (.getfield 137, 3) := by decide +kernel
theorem dX9_law_67 : decode cX9_law 67 = .ok (.iconst 1, 1) := by decide +kernel
theorem dX9_law_68 : decode cX9_law 68 = .ok (.iadd, 1) := by decide +kernel
theorem dX9_law_69 : decode cX9_law 69 = .ok (.putfield 137, 3) := by decide +kernel
theorem dX9_law_72 : decode cX9_law 72 = .ok (.aload_n 0, 1) := by decide +kernel
theorem dX9_law_73 : decode cX9_law 73 = .ok (.iconst 0, 1) := by decide +kernel
theorem dX9_law_74 : decode cX9_law 74 = .ok (.putfield 95, 3) := by decide +kernel
theorem dX9_law_77 : decode cX9_law 77 = .ok (.aload_n 0, 1) := by decide +kernel
theorem dX9_law_78 : decode cX9_law 78 = .ok (.getfield 137, 3) := by decide +kernel
theorem dX9_law_81 : decode cX9_law 81 = .ok (.ireturn, 1) := by decide +kernel
theorem dX9_tellLaw_0 : decode cX9_tellLaw 0 = .ok (.iload_n 1, 1) := by decide +kernel
theorem dX9_tellLaw_1 : decode cX9_tellLaw 1 = .ok (.ifCond .ne 10, 3) := by decide +kernel
theorem dX9_tellLaw_4 : decode cX9_tellLaw 4 = .ok (.aload_n 0, 1) := by decide +kernel
theorem dX9_tellLaw_5 : decode cX9_tellLaw 5 = .ok (.getfield 84, 3) := by decide +kernel
theorem dX9_tellLaw_8 : decode cX9_tellLaw 8 = .ok (.goto 41, 3) := by decide +kernel
theorem dX9_tellLaw_11 : decode cX9_tellLaw 11 = .ok (.iload_n 1, 1) := by decide +kernel
theorem dX9_tellLaw_12 : decode cX9_tellLaw 12 = .ok (.iconst 1, 1) := by decide +kernel
theorem dX9_tellLaw_13 : decode cX9_tellLaw 13 = .ok (.if_icmp .ne 10, 3) := by decide +kernel
theorem dX9_tellLaw_16 : decode cX9_tellLaw 16 = .ok (.aload_n 0, 1) := by decide +kernel
theorem dX9_tellLaw_17 : decode cX9_tellLaw 17 = .ok (.getfield 131, 3) := by decide +kernel
theorem dX9_tellLaw_20 : decode cX9_tellLaw 20 = .ok (.goto 29, 3) := by decide +kernel
theorem dX9_tellLaw_23 : decode cX9_tellLaw 23 = .ok (.iload_n 1, 1) := by decide +kernel
theorem dX9_tellLaw_24 : decode cX9_tellLaw 24 = .ok (.iconst 2, 1) := by decide +kernel
theorem dX9_tellLaw_25 : decode cX9_tellLaw 25 = .ok (.if_icmp .ne 10, 3) := by decide +kernel
theorem dX9_tellLaw_28 : decode cX9_tellLaw 28 = .ok (.aload_n 0, 1) := by decide +kernel
theorem dX9_tellLaw_29 : decode cX9_tellLaw 29 = .ok (.getfield 134, 3) := by decide +kernel
theorem dX9_tellLaw_32 : decode cX9_tellLaw 32 = .ok (.goto 17, 3) := by decide +kernel
theorem dX9_tellLaw_35 : decode cX9_tellLaw 35 = .ok (.iload_n 1, 1) := by decide +kernel
theorem dX9_tellLaw_36 : decode cX9_tellLaw 36 = .ok (.iconst 3, 1) := by decide +kernel
theorem dX9_tellLaw_37 : decode cX9_tellLaw 37 = .ok (.if_icmp .ne 10, 3) := by decide +kernel
theorem dX9_tellLaw_40 : decode cX9_tellLaw 40 = .ok (.aload_n 0, 1) := by decide +kernel
theorem dX9_tellLaw_41 : decode cX9_tellLaw 41 = .ok (.getfield 87, 3) := by decide +kernel
theorem dX9_tellLaw_44 : decode cX9_tellLaw 44 = .ok (.goto 5, 3) := by decide +kernel
theorem dX9_tellLaw_47 : decode cX9_tellLaw 47 = .ok (.bipush (-102), 2) := by decide +kernel
theorem dX9_tellLaw_49 : decode cX9_tellLaw 49 = .ok (.ireturn, 1) := by decide +kernel
theorem dX9_lawTold_0 : decode cX9_lawTold 0 = .ok (.aload_n 0, 1) := by decide +kernel
theorem dX9_lawTold_1 : decode cX9_lawTold 1 = .ok (.iload_n 1, 1) := by decide +kernel
theorem dX9_lawTold_2 : decode cX9_lawTold 2 = .ok (.invokevirtual 140, 3) := by decide +kernel
theorem dX9_lawTold_5 : decode cX9_lawTold 5 = .ok (.ireturn, 1) := by decide +kernel
theorem dX9_isPerson_0 : decode cX9_isPerson 0 = .ok (.iload_n 1, 1) := by decide +kernel
theorem dX9_isPerson_1 : decode cX9_isPerson 1 = .ok (.i2l, 1) := by decide +kernel
theorem dX9_isPerson_2 : decode cX9_isPerson 2 = .ok (.lconst 0, 1) := by decide +kernel
theorem dX9_isPerson_3 : decode cX9_isPerson 3 = .ok (.aload_n 0, 1) := by decide +kernel
theorem dX9_isPerson_4 : decode cX9_isPerson 4 = .ok (.getfield 144, 3) := by decide +kernel
theorem dX9_isPerson_7 : decode cX9_isPerson 7 = .ok (.iconst 1, 1) := by decide +kernel
theorem dX9_isPerson_8 : decode cX9_isPerson 8 = .ok (.isub, 1) := by decide +kernel
theorem dX9_isPerson_9 : decode cX9_isPerson 9 = .ok (.i2l, 1) := by decide +kernel
theorem dX9_isPerson_10 : decode cX9_isPerson 10 = .ok (.invokestatic 108, 3) := by decide +kernel
theorem dX9_isPerson_13 : decode cX9_isPerson 13 = .ok (.ireturn, 1) := by decide +kernel
theorem dX9_arePair_0 : decode cX9_arePair 0 = .ok (.aload_n 0, 1) := by decide +kernel
theorem dX9_arePair_1 : decode cX9_arePair 1 = .ok (.iload_n 1, 1) := by decide +kernel
theorem dX9_arePair_2 : decode cX9_arePair 2 = .ok (.invokevirtual 147, 3) := by decide +kernel
theorem dX9_arePair_5 : decode cX9_arePair 5 = .ok (.ifCond .eq 20, 3) := by decide +kernel
theorem dX9_arePair_8 : decode cX9_arePair 8 = .ok (.aload_n 0, 1) := by decide +kernel
theorem dX9_arePair_9 : decode cX9_arePair 9 = .ok (.iload_n 2, 1) := by decide +kernel
theorem dX9_arePair_10 : decode cX9_arePair 10 = .ok (.invokevirtual 147, 3) := by decide +kernel
theorem dX9_arePair_13 : decode cX9_arePair 13 = .ok (.ifCond .eq 12, 3) := by decide +kernel
theorem dX9_arePair_16 : decode cX9_arePair 16 = .ok (.iload_n 1, 1) := by decide +kernel
theorem dX9_arePair_17 : decode cX9_arePair 17 = .ok (.iload_n 2, 1) := by decide +kernel
theorem dX9_arePair_18 : decode cX9_arePair 18 = .ok (.if_icmp .eq 7, 3) := by decide +kernel
theorem dX9_arePair_21 : decode cX9_arePair 21 = .ok (.iconst 1, 1) := by decide +kernel
theorem dX9_arePair_22 : decode cX9_arePair 22 = .ok (.goto 4, 3) := by decide +kernel
theorem dX9_arePair_25 : decode cX9_arePair 25 = .ok (.iconst 0, 1) := by decide +kernel
theorem dX9_arePair_26 : decode cX9_arePair 26 = .ok (.ireturn, 1) := by decide +kernel
theorem dX9_person_0 : decode cX9_person 0 = .ok (.iload_n 1, 1) := by decide +kernel
theorem dX9_person_1 : decode cX9_person 1 = .ok (.i2l, 1) := by decide +kernel
theorem dX9_person_2 : decode cX9_person 2 = .ok (.lconst 0, 1) := by decide +kernel
theorem dX9_person_3 : decode cX9_person 3 = .ok (.ldc2_w 150, 3) := by decide +kernel
theorem dX9_person_6 : decode cX9_person 6 = .ok (.invokestatic 108, 3) := by decide +kernel
theorem dX9_person_9 : decode cX9_person 9 = .ok (.ifCond .ne 6, 3) := by decide +kernel
theorem dX9_person_12 : decode cX9_person 12 = .ok (.bipush (-102), 2) := by decide +kernel
theorem dX9_person_14 : decode cX9_person 14 = .ok (.ireturn, 1) := by decide +kernel
theorem dX9_person_15 : decode cX9_person 15 = .ok (.aload_n 0, 1) := by decide +kernel
theorem dX9_person_16 : decode cX9_person 16 = .ok (.getfield 144, 3) := by decide +kernel
theorem dX9_person_19 : decode cX9_person 19 = .ok (.bipush 8, 2) := by decide +kernel
theorem dX9_person_21 : decode cX9_person 21 = .ok (.if_icmp .ne 6, 3) := by decide +kernel
theorem dX9_person_24 : decode cX9_person 24 = .ok (.bipush (-104), 2) := by decide +kernel
theorem dX9_person_26 : decode cX9_person 26 = .ok (.ireturn, 1) := by decide +kernel
theorem dX9_person_27 : decode cX9_person 27 = .ok (.aload_n 0, 1) := by decide +kernel
theorem dX9_person_28 : decode cX9_person 28 = .ok (.getfield 13, 3) := by decide +kernel
theorem dX9_person_31 : decode cX9_person 31 = .ok (.aload_n 0, 1) := by decide +kernel
theorem dX9_person_32 : decode cX9_person 32 = .ok (.getfield 144, 3) := by decide +kernel
theorem dX9_person_35 : decode cX9_person 35 = .ok (.iload_n 1, 1) := by decide +kernel
theorem dX9_person_36 : decode cX9_person 36 = .ok (.iastore, 1) := by decide +kernel
theorem dX9_person_37 : decode cX9_person 37 = .ok (.aload_n 0, 1) := by decide +kernel
theorem dX9_person_38 : decode cX9_person 38 = .ok (.dup, 1) := by decide +kernel
theorem dX9_person_39 : decode cX9_person 39 = .ok (.getfield 144, 3) := by decide +kernel
theorem dX9_person_42 : decode cX9_person 42 = .ok (.iconst 1, 1) := by decide +kernel
theorem dX9_person_43 : decode cX9_person 43 = .ok (.iadd, 1) := by decide +kernel
theorem dX9_person_44 : decode cX9_person 44 = .ok (.putfield 144, 3) := by decide +kernel
theorem dX9_person_47 : decode cX9_person 47 = .ok (.aload_n 0, 1) := by decide +kernel
theorem dX9_person_48 : decode cX9_person 48 = .ok (.getfield 144, 3) := by decide +kernel
theorem dX9_person_51 : decode cX9_person 51 = .ok (.iconst 1, 1) := by decide +kernel
theorem dX9_person_52 : decode cX9_person 52 = .ok (.isub, 1) := by decide +kernel
theorem dX9_person_53 : decode cX9_person 53 = .ok (.ireturn, 1) := by decide +kernel
theorem dX9_know_0 : decode cX9_know 0 = .ok (.aload_n 0, 1) := by decide +kernel
theorem dX9_know_1 : decode cX9_know 1 = .ok (.iload_n 1, 1) := by decide +kernel
theorem dX9_know_2 : decode cX9_know 2 = .ok (.iload_n 2, 1) := by decide +kernel
theorem dX9_know_3 : decode cX9_know 3 = .ok (.invokevirtual 152, 3) := by decide +kernel
theorem dX9_know_6 : decode cX9_know 6 = .ok (.ifCond .ne 6, 3) := by decide +kernel
theorem dX9_know_9 : decode cX9_know 9 = .ok (.bipush (-101), 2) := by decide +kernel
theorem dX9_know_11 : decode cX9_know 11 = .ok (.ireturn, 1) := by decide +kernel
theorem dX9_know_12 : decode cX9_know 12 = .ok (.aload_n 0, 1) := by decide +kernel
theorem dX9_know_13 : decode cX9_know 13 = .ok (.getfield 16, 3) := by decide +kernel
theorem dX9_know_16 : decode cX9_know 16 = .ok (.iload_n 1, 1) := by decide +kernel
theorem dX9_know_17 : decode cX9_know 17 = .ok (.iaload, 1) := by decide +kernel
theorem dX9_know_18 : decode cX9_know 18 = .ok (.iload_n 2, 1) := by decide +kernel
theorem dX9_know_19 : decode cX9_know 19 = .ok (.ishr, 1) := by decide +kernel
theorem dX9_know_20 : decode cX9_know 20 = .ok (.iconst 1, 1) := by decide +kernel
theorem dX9_know_21 : decode cX9_know 21 = .ok (.iand, 1) := by decide +kernel
theorem dX9_know_22 : decode cX9_know 22 = .ok (.istore 4, 2) := by decide +kernel
theorem dX9_know_24 : decode cX9_know 24 = .ok (.aload_n 0, 1) := by decide +kernel
theorem dX9_know_25 : decode cX9_know 25 = .ok (.getfield 16, 3) := by decide +kernel
theorem dX9_know_28 : decode cX9_know 28 = .ok (.iload_n 1, 1) := by decide +kernel
theorem dX9_know_29 : decode cX9_know 29 = .ok (.aload_n 0, 1) := by decide +kernel
theorem dX9_know_30 : decode cX9_know 30 = .ok (.getfield 16, 3) := by decide +kernel
theorem dX9_know_33 : decode cX9_know 33 = .ok (.iload_n 1, 1) := by decide +kernel
theorem dX9_know_34 : decode cX9_know 34 = .ok (.iaload, 1) := by decide +kernel
theorem dX9_know_35 : decode cX9_know 35 = .ok (.iconst 1, 1) := by decide +kernel
theorem dX9_know_36 : decode cX9_know 36 = .ok (.iload_n 2, 1) := by decide +kernel
theorem dX9_know_37 : decode cX9_know 37 = .ok (.ishl, 1) := by decide +kernel
theorem dX9_know_38 : decode cX9_know 38 = .ok (.iconst (-1), 1) := by decide +kernel
theorem dX9_know_39 : decode cX9_know 39 = .ok (.ixor, 1) := by decide +kernel
theorem dX9_know_40 : decode cX9_know 40 = .ok (.iand, 1) := by decide +kernel
theorem dX9_know_41 : decode cX9_know 41 = .ok (.iload_n 3, 1) := by decide +kernel
theorem dX9_know_42 : decode cX9_know 42 = .ok (.ifCond .eq 9, 3) := by decide +kernel
theorem dX9_know_45 : decode cX9_know 45 = .ok (.iconst 1, 1) := by decide +kernel
theorem dX9_know_46 : decode cX9_know 46 = .ok (.iload_n 2, 1) := by decide +kernel
theorem dX9_know_47 : decode cX9_know 47 = .ok (.ishl, 1) := by decide +kernel
theorem dX9_know_48 : decode cX9_know 48 = .ok (.goto 4, 3) := by decide +kernel
theorem dX9_know_51 : decode cX9_know 51 = .ok (.iconst 0, 1) := by decide +kernel
theorem dX9_know_52 : decode cX9_know 52 = .ok (.ior, 1) := by decide +kernel
theorem dX9_know_53 : decode cX9_know 53 = .ok (.iastore, 1) := by decide +kernel
theorem dX9_know_54 : decode cX9_know 54 = .ok (.aload_n 0, 1) := by decide +kernel
theorem dX9_know_55 : decode cX9_know 55 = .ok (.getfield 16, 3) := by decide +kernel
theorem dX9_know_58 : decode cX9_know 58 = .ok (.iload_n 2, 1) := by decide +kernel
theorem dX9_know_59 : decode cX9_know 59 = .ok (.aload_n 0, 1) := by decide +kernel
theorem dX9_know_60 : decode cX9_know 60 = .ok (.getfield 16, 3) := by decide +kernel
theorem dX9_know_63 : decode cX9_know 63 = .ok (.iload_n 2, 1) := by decide +kernel
theorem dX9_know_64 : decode cX9_know 64 = .ok (.iaload, 1) := by decide +kernel
theorem dX9_know_65 : decode cX9_know 65 = .ok (.iconst 1, 1) := by decide +kernel
theorem dX9_know_66 : decode cX9_know 66 = .ok (.iload_n 1, 1) := by decide +kernel
theorem dX9_know_67 : decode cX9_know 67 = .ok (.ishl, 1) := by decide +kernel
theorem dX9_know_68 : decode cX9_know 68 = .ok (.iconst (-1), 1) := by decide +kernel
theorem dX9_know_69 : decode cX9_know 69 = .ok (.ixor, 1) := by decide +kernel
theorem dX9_know_70 : decode cX9_know 70 = .ok (.iand, 1) := by decide +kernel
theorem dX9_know_71 : decode cX9_know 71 = .ok (.iload_n 3, 1) := by decide +kernel
theorem dX9_know_72 : decode cX9_know 72 = .ok (.ifCond .eq 9, 3) := by decide +kernel
theorem dX9_know_75 : decode cX9_know 75 = .ok (.iconst 1, 1) := by decide +kernel
theorem dX9_know_76 : decode cX9_know 76 = .ok (.iload_n 1, 1) := by decide +kernel
theorem dX9_know_77 : decode cX9_know 77 = .ok (.ishl, 1) := by decide +kernel
theorem dX9_know_78 : decode cX9_know 78 = .ok (.goto 4, 3) := by decide +kernel
theorem dX9_know_81 : decode cX9_know 81 = .ok (.iconst 0, 1) := by decide +kernel
theorem dX9_know_82 : decode cX9_know 82 = .ok (.ior, 1) := by decide +kernel
theorem dX9_know_83 : decode cX9_know 83 = .ok (.iastore, 1) := by decide +kernel
theorem dX9_know_84 : decode cX9_know 84 = .ok (.iload 4, 2) := by decide +kernel
theorem dX9_know_86 : decode cX9_know 86 = .ok (.ireturn, 1) := by decide +kernel
theorem dX9_like_0 : decode cX9_like 0 = .ok (.aload_n 0, 1) := by decide +kernel
theorem dX9_like_1 : decode cX9_like 1 = .ok (.iload_n 1, 1) := by decide +kernel
theorem dX9_like_2 : decode cX9_like 2 = .ok (.iload_n 2, 1) := by decide +kernel
theorem dX9_like_3 : decode cX9_like 3 = .ok (.invokevirtual 152, 3) := by decide +kernel
theorem dX9_like_6 : decode cX9_like 6 = .ok (.ifCond .ne 6, 3) := by decide +kernel
theorem dX9_like_9 : decode cX9_like 9 = .ok (.bipush (-101), 2) := by decide +kernel
theorem dX9_like_11 : decode cX9_like 11 = .ok (.ireturn, 1) := by decide +kernel
theorem dX9_like_12 : decode cX9_like 12 = .ok (.iload_n 3, 1) := by decide +kernel
theorem dX9_like_13 : decode cX9_like 13 = .ok (.i2l, 1) := by decide +kernel
theorem dX9_like_14 : decode cX9_like 14 = .ok (.lconst 0, 1) := by decide +kernel
theorem dX9_like_15 : decode cX9_like 15 = .ok (.ldc2_w 156, 3) := by decide +kernel
theorem dX9_like_18 : decode cX9_like 18 = .ok (.invokestatic 108, 3) := by decide +kernel
theorem dX9_like_21 : decode cX9_like 21 = .ok (.ifCond .ne 6, 3) := by decide +kernel
theorem dX9_like_24 : decode cX9_like 24 = .ok (.bipush (-102), 2) := by decide +kernel
theorem dX9_like_26 : decode cX9_like 26 = .ok (.ireturn, 1) := by decide +kernel
theorem dX9_like_27 : decode cX9_like 27 = .ok (.aload_n 0, 1) := by decide +kernel
theorem dX9_like_28 : decode cX9_like 28 = .ok (.getfield 19, 3) := by decide +kernel
theorem dX9_like_31 : decode cX9_like 31 = .ok (.bipush 8, 2) := by decide +kernel
theorem dX9_like_33 : decode cX9_like 33 = .ok (.iload_n 1, 1) := by decide +kernel
theorem dX9_like_34 : decode cX9_like 34 = .ok (.imul, 1) := by decide +kernel
theorem dX9_like_35 : decode cX9_like 35 = .ok (.iload_n 2, 1) := by decide +kernel
theorem dX9_like_36 : decode cX9_like 36 = .ok (.iadd, 1) := by decide +kernel
theorem dX9_like_37 : decode cX9_like 37 = .ok (.iaload, 1) := by decide +kernel
theorem dX9_like_38 : decode cX9_like 38 = .ok (.istore 4, 2) := by decide +kernel
theorem dX9_like_40 : decode cX9_like 40 = .ok (.aload_n 0, 1) := by decide +kernel
theorem dX9_like_41 : decode cX9_like 41 = .ok (.getfield 19, 3) := by decide +kernel
theorem dX9_like_44 : decode cX9_like 44 = .ok (.bipush 8, 2) := by decide +kernel
theorem dX9_like_46 : decode cX9_like 46 = .ok (.iload_n 1, 1) := by decide +kernel
theorem dX9_like_47 : decode cX9_like 47 = .ok (.imul, 1) := by decide +kernel
theorem dX9_like_48 : decode cX9_like 48 = .ok (.iload_n 2, 1) := by decide +kernel
theorem dX9_like_49 : decode cX9_like 49 = .ok (.iadd, 1) := by decide +kernel
theorem dX9_like_50 : decode cX9_like 50 = .ok (.iload_n 3, 1) := by decide +kernel
theorem dX9_like_51 : decode cX9_like 51 = .ok (.iastore, 1) := by decide +kernel
theorem dX9_like_52 : decode cX9_like 52 = .ok (.iload 4, 2) := by decide +kernel
theorem dX9_like_54 : decode cX9_like 54 = .ok (.ireturn, 1) := by decide +kernel
theorem dX9_isGift_0 : decode cX9_isGift 0 = .ok (.iload_n 1, 1) := by decide +kernel
theorem dX9_isGift_1 : decode cX9_isGift 1 = .ok (.i2l, 1) := by decide +kernel
theorem dX9_isGift_2 : decode cX9_isGift 2 = .ok (.lconst 0, 1) := by decide +kernel
theorem dX9_isGift_3 : decode cX9_isGift 3 = .ok (.aload_n 0, 1) := by decide +kernel
theorem dX9_isGift_4 : decode cX9_isGift 4 = .ok (.getfield 158, 3) := by decide +kernel
theorem dX9_isGift_7 : decode cX9_isGift 7 = .ok (.iconst 1, 1) := by decide +kernel
theorem dX9_isGift_8 : decode cX9_isGift 8 = .ok (.isub, 1) := by decide +kernel
theorem dX9_isGift_9 : decode cX9_isGift 9 = .ok (.i2l, 1) := by decide +kernel
theorem dX9_isGift_10 : decode cX9_isGift 10 = .ok (.invokestatic 108, 3) := by decide +kernel
theorem dX9_isGift_13 : decode cX9_isGift 13 = .ok (.ireturn, 1) := by decide +kernel
theorem dX9_lives_0 : decode cX9_lives 0 = .ok (.aload_n 0, 1) := by decide +kernel
theorem dX9_lives_1 : decode cX9_lives 1 = .ok (.getfield 28, 3) := by decide +kernel
theorem dX9_lives_4 : decode cX9_lives 4 = .ok (.bipush 8, 2) := by decide +kernel
theorem dX9_lives_6 : decode cX9_lives 6 = .ok (.iload_n 1, 1) := by decide +kernel
theorem dX9_lives_7 : decode cX9_lives 7 = .ok (.imul, 1) := by decide +kernel
theorem dX9_lives_8 : decode cX9_lives 8 = .ok (.bipush 6, 2) := by decide +kernel
theorem dX9_lives_10 : decode cX9_lives 10 = .ok (.iadd, 1) := by decide +kernel
theorem dX9_lives_11 : decode cX9_lives 11 = .ok (.iaload, 1) := by decide +kernel
theorem dX9_lives_12 : decode cX9_lives 12 = .ok (.ifCond .ne 7, 3) := by decide +kernel
theorem dX9_lives_15 : decode cX9_lives 15 = .ok (.iconst 1, 1) := by decide +kernel
theorem dX9_lives_16 : decode cX9_lives 16 = .ok (.goto 4, 3) := by decide +kernel
theorem dX9_lives_19 : decode cX9_lives 19 = .ok (.iconst 0, 1) := by decide +kernel
theorem dX9_lives_20 : decode cX9_lives 20 = .ok (.ireturn, 1) := by decide +kernel
theorem dX9_holds_0 : decode cX9_holds 0 = .ok (.iconst 0, 1) := by decide +kernel
theorem dX9_holds_1 : decode cX9_holds 1 = .ok (.istore_n 2, 1) := by decide +kernel
theorem dX9_holds_2 : decode cX9_holds 2 = .ok (.iconst 0, 1) := by decide +kernel
theorem dX9_holds_3 : decode cX9_holds 3 = .ok (.istore_n 3, 1) := by decide +kernel
theorem dX9_holds_4 : decode cX9_holds 4 = .ok (.iload_n 3, 1) := by decide +kernel
theorem dX9_holds_5 : decode cX9_holds 5 = .ok (.aload_n 0, 1) := by decide +kernel
theorem dX9_holds_6 : decode cX9_holds 6 = .ok (.getfield 158, 3) := by decide +kernel
theorem dX9_holds_9 : decode cX9_holds 9 = .ok (.if_icmp .ge 40, 3) := by decide +kernel
theorem dX9_holds_12 : decode cX9_holds 12 = .ok (.iload_n 2, 1) := by decide +kernel
theorem dX9_holds_13 : decode cX9_holds 13 = .ok (.aload_n 0, 1) := by decide +kernel
theorem dX9_holds_14 : decode cX9_holds 14 = .ok (.iload_n 3, 1) := by decide +kernel
theorem dX9_holds_15 : decode cX9_holds 15 = .ok (.invokevirtual 161, 3) := by decide +kernel
theorem dX9_holds_18 : decode cX9_holds 18 = .ok (.ifCond .eq 22, 3) := by decide +kernel
theorem dX9_holds_21 : decode cX9_holds 21 = .ok (.aload_n 0, 1) := by decide +kernel
theorem dX9_holds_22 : decode cX9_holds 22 = .ok (.getfield 28, 3) := by decide +kernel
theorem dX9_holds_25 : decode cX9_holds 25 = .ok (.bipush 8, 2) := by decide +kernel
theorem dX9_holds_27 : decode cX9_holds 27 = .ok (.iload_n 3, 1) := by decide +kernel
theorem dX9_holds_28 : decode cX9_holds 28 = .ok (.imul, 1) := by decide +kernel
theorem dX9_holds_29 : decode cX9_holds 29 = .ok (.iconst 2, 1) := by decide +kernel
theorem dX9_holds_30 : decode cX9_holds 30 = .ok (.iadd, 1) := by decide +kernel
theorem dX9_holds_31 : decode cX9_holds 31 = .ok (.iaload, 1) := by decide +kernel
theorem dX9_holds_32 : decode cX9_holds 32 = .ok (.iload_n 1, 1) := by decide +kernel
theorem dX9_holds_33 : decode cX9_holds 33 = .ok (.if_icmp .ne 7, 3) := by decide +kernel
theorem dX9_holds_36 : decode cX9_holds 36 = .ok (.iconst 1, 1) := by decide +kernel
theorem dX9_holds_37 : decode cX9_holds 37 = .ok (.goto 4, 3) := by decide +kernel
theorem dX9_holds_40 : decode cX9_holds 40 = .ok (.iconst 0, 1) := by decide +kernel
theorem dX9_holds_41 : decode cX9_holds 41 = .ok (.iadd, 1) := by decide +kernel
theorem dX9_holds_42 : decode cX9_holds 42 = .ok (.istore_n 2, 1) := by decide +kernel
theorem dX9_holds_43 : decode cX9_holds 43 = .ok (.iinc 3 1, 3) := by decide +kernel
theorem dX9_holds_46 : decode cX9_holds 46 = .ok (.goto (-42), 3) := by decide +kernel
theorem dX9_holds_49 : decode cX9_holds 49 = .ok (.iload_n 2, 1) := by decide +kernel
theorem dX9_holds_50 : decode cX9_holds 50 = .ok (.ireturn, 1) := by decide +kernel
theorem dX9_tellPerson_0 : decode cX9_tellPerson 0 = .ok (.iload_n 2, 1) := by decide +kernel
theorem dX9_tellPerson_1 : decode cX9_tellPerson 1 = .ok (.tableswitch 58 0 3 #[31, 38, 44, 51], 31) := by decide +kernel
theorem dX9_tellPerson_32 : decode cX9_tellPerson 32 = .ok (.aload_n 0, 1) := by decide +kernel
theorem dX9_tellPerson_33 : decode cX9_tellPerson 33 = .ok (.getfield 13, 3) := by decide +kernel
theorem dX9_tellPerson_36 : decode cX9_tellPerson 36 = .ok (.iload_n 1, 1) := by decide +kernel
theorem dX9_tellPerson_37 : decode cX9_tellPerson 37 = .ok (.iaload, 1) := by decide +kernel
theorem dX9_tellPerson_38 : decode cX9_tellPerson 38 = .ok (.ireturn, 1) := by decide +kernel
theorem dX9_tellPerson_39 : decode cX9_tellPerson 39 = .ok (.aload_n 0, 1) := by decide +kernel
theorem dX9_tellPerson_40 : decode cX9_tellPerson 40 = .ok (.iload_n 1, 1) := by decide +kernel
theorem dX9_tellPerson_41 : decode cX9_tellPerson 41 = .ok (.invokevirtual 164, 3) := by decide +kernel
theorem dX9_tellPerson_44 : decode cX9_tellPerson 44 = .ok (.ireturn, 1) := by decide +kernel
theorem dX9_tellPerson_45 : decode cX9_tellPerson 45 = .ok (.aload_n 0, 1) := by decide +kernel
theorem dX9_tellPerson_46 : decode cX9_tellPerson 46 = .ok (.getfield 16, 3) := by decide +kernel
theorem dX9_tellPerson_49 : decode cX9_tellPerson 49 = .ok (.iload_n 1, 1) := by decide +kernel
theorem dX9_tellPerson_50 : decode cX9_tellPerson 50 = .ok (.iaload, 1) := by decide +kernel
theorem dX9_tellPerson_51 : decode cX9_tellPerson 51 = .ok (.ireturn, 1) := by decide +kernel
theorem dX9_tellPerson_52 : decode cX9_tellPerson 52 = .ok (.aload_n 0, 1) := by decide +kernel
theorem dX9_tellPerson_53 : decode cX9_tellPerson 53 = .ok (.getfield 25, 3) := by decide +kernel
theorem dX9_tellPerson_56 : decode cX9_tellPerson 56 = .ok (.iload_n 1, 1) := by decide +kernel
theorem dX9_tellPerson_57 : decode cX9_tellPerson 57 = .ok (.iaload, 1) := by decide +kernel
theorem dX9_tellPerson_58 : decode cX9_tellPerson 58 = .ok (.ireturn, 1) := by decide +kernel
theorem dX9_tellPerson_59 : decode cX9_tellPerson 59 = .ok (.bipush (-102), 2) := by decide +kernel
theorem dX9_tellPerson_61 : decode cX9_tellPerson 61 = .ok (.ireturn, 1) := by decide +kernel
theorem dX9_about_0 : decode cX9_about 0 = .ok (.aload_n 0, 1) := by decide +kernel
theorem dX9_about_1 : decode cX9_about 1 = .ok (.iload_n 1, 1) := by decide +kernel
theorem dX9_about_2 : decode cX9_about 2 = .ok (.invokevirtual 147, 3) := by decide +kernel
theorem dX9_about_5 : decode cX9_about 5 = .ok (.ifCond .eq 12, 3) := by decide +kernel
theorem dX9_about_8 : decode cX9_about 8 = .ok (.aload_n 0, 1) := by decide +kernel
theorem dX9_about_9 : decode cX9_about 9 = .ok (.iload_n 1, 1) := by decide +kernel
theorem dX9_about_10 : decode cX9_about 10 = .ok (.iload_n 2, 1) := by decide +kernel
theorem dX9_about_11 : decode cX9_about 11 = .ok (.invokevirtual 167, 3) := by decide +kernel
theorem dX9_about_14 : decode cX9_about 14 = .ok (.goto 5, 3) := by decide +kernel
theorem dX9_about_17 : decode cX9_about 17 = .ok (.bipush (-101), 2) := by decide +kernel
theorem dX9_about_19 : decode cX9_about 19 = .ok (.ireturn, 1) := by decide +kernel
theorem dX9_owes_0 : decode cX9_owes 0 = .ok (.aload_n 0, 1) := by decide +kernel
theorem dX9_owes_1 : decode cX9_owes 1 = .ok (.iload_n 1, 1) := by decide +kernel
theorem dX9_owes_2 : decode cX9_owes 2 = .ok (.iload_n 2, 1) := by decide +kernel
theorem dX9_owes_3 : decode cX9_owes 3 = .ok (.invokevirtual 152, 3) := by decide +kernel
theorem dX9_owes_6 : decode cX9_owes 6 = .ok (.ifCond .eq 17, 3) := by decide +kernel
theorem dX9_owes_9 : decode cX9_owes 9 = .ok (.aload_n 0, 1) := by decide +kernel
theorem dX9_owes_10 : decode cX9_owes 10 = .ok (.getfield 22, 3) := by decide +kernel
theorem dX9_owes_13 : decode cX9_owes 13 = .ok (.bipush 8, 2) := by decide +kernel
theorem dX9_owes_15 : decode cX9_owes 15 = .ok (.iload_n 1, 1) := by decide +kernel
theorem dX9_owes_16 : decode cX9_owes 16 = .ok (.imul, 1) := by decide +kernel
theorem dX9_owes_17 : decode cX9_owes 17 = .ok (.iload_n 2, 1) := by decide +kernel
theorem dX9_owes_18 : decode cX9_owes 18 = .ok (.iadd, 1) := by decide +kernel
theorem dX9_owes_19 : decode cX9_owes 19 = .ok (.iaload, 1) := by decide +kernel
theorem dX9_owes_20 : decode cX9_owes 20 = .ok (.goto 5, 3) := by decide +kernel
theorem dX9_owes_23 : decode cX9_owes 23 = .ok (.bipush (-101), 2) := by decide +kernel
theorem dX9_owes_25 : decode cX9_owes 25 = .ok (.ireturn, 1) := by decide +kernel
theorem dX9_restOf_0 : decode cX9_restOf 0 = .ok (.iconst 0, 1) := by decide +kernel
theorem dX9_restOf_1 : decode cX9_restOf 1 = .ok (.istore_n 2, 1) := by decide +kernel
theorem dX9_restOf_2 : decode cX9_restOf 2 = .ok (.iconst 0, 1) := by decide +kernel
theorem dX9_restOf_3 : decode cX9_restOf 3 = .ok (.istore_n 3, 1) := by decide +kernel
theorem dX9_restOf_4 : decode cX9_restOf 4 = .ok (.iload_n 3, 1) := by decide +kernel
theorem dX9_restOf_5 : decode cX9_restOf 5 = .ok (.aload_n 0, 1) := by decide +kernel
theorem dX9_restOf_6 : decode cX9_restOf 6 = .ok (.getfield 144, 3) := by decide +kernel
theorem dX9_restOf_9 : decode cX9_restOf 9 = .ok (.if_icmp .ge 35, 3) := by decide +kernel
theorem dX9_restOf_12 : decode cX9_restOf 12 = .ok (.iload_n 2, 1) := by decide +kernel
theorem dX9_restOf_13 : decode cX9_restOf 13 = .ok (.aload_n 0, 1) := by decide +kernel
theorem dX9_restOf_14 : decode cX9_restOf 14 = .ok (.getfield 22, 3) := by decide +kernel
theorem dX9_restOf_17 : decode cX9_restOf 17 = .ok (.bipush 8, 2) := by decide +kernel
theorem dX9_restOf_19 : decode cX9_restOf 19 = .ok (.iload_n 3, 1) := by decide +kernel
theorem dX9_restOf_20 : decode cX9_restOf 20 = .ok (.imul, 1) := by decide +kernel
theorem dX9_restOf_21 : decode cX9_restOf 21 = .ok (.iload_n 1, 1) := by decide +kernel
theorem dX9_restOf_22 : decode cX9_restOf 22 = .ok (.iadd, 1) := by decide +kernel
theorem dX9_restOf_23 : decode cX9_restOf 23 = .ok (.iaload, 1) := by decide +kernel
theorem dX9_restOf_24 : decode cX9_restOf 24 = .ok (.aload_n 0, 1) := by decide +kernel
theorem dX9_restOf_25 : decode cX9_restOf 25 = .ok (.getfield 22, 3) := by decide +kernel
theorem dX9_restOf_28 : decode cX9_restOf 28 = .ok (.bipush 8, 2) := by decide +kernel
theorem dX9_restOf_30 : decode cX9_restOf 30 = .ok (.iload_n 1, 1) := by decide +kernel
theorem dX9_restOf_31 : decode cX9_restOf 31 = .ok (.imul, 1) := by decide +kernel
theorem dX9_restOf_32 : decode cX9_restOf 32 = .ok (.iload_n 3, 1) := by decide +kernel
theorem dX9_restOf_33 : decode cX9_restOf 33 = .ok (.iadd, 1) := by decide +kernel
theorem dX9_restOf_34 : decode cX9_restOf 34 = .ok (.iaload, 1) := by decide +kernel
theorem dX9_restOf_35 : decode cX9_restOf 35 = .ok (.isub, 1) := by decide +kernel
theorem dX9_restOf_36 : decode cX9_restOf 36 = .ok (.iadd, 1) := by decide +kernel
theorem dX9_restOf_37 : decode cX9_restOf 37 = .ok (.istore_n 2, 1) := by decide +kernel
theorem dX9_restOf_38 : decode cX9_restOf 38 = .ok (.iinc 3 1, 3) := by decide +kernel
theorem dX9_restOf_41 : decode cX9_restOf 41 = .ok (.goto (-37), 3) := by decide +kernel
theorem dX9_restOf_44 : decode cX9_restOf 44 = .ok (.iload_n 2, 1) := by decide +kernel
theorem dX9_restOf_45 : decode cX9_restOf 45 = .ok (.ireturn, 1) := by decide +kernel
theorem dX9_rest_0 : decode cX9_rest 0 = .ok (.aload_n 0, 1) := by decide +kernel
theorem dX9_rest_1 : decode cX9_rest 1 = .ok (.iload_n 1, 1) := by decide +kernel
theorem dX9_rest_2 : decode cX9_rest 2 = .ok (.invokevirtual 147, 3) := by decide +kernel
theorem dX9_rest_5 : decode cX9_rest 5 = .ok (.ifCond .eq 11, 3) := by decide +kernel
theorem dX9_rest_8 : decode cX9_rest 8 = .ok (.aload_n 0, 1) := by decide +kernel
theorem dX9_rest_9 : decode cX9_rest 9 = .ok (.iload_n 1, 1) := by decide +kernel
theorem dX9_rest_10 : decode cX9_rest 10 = .ok (.invokevirtual 171, 3) := by decide +kernel
theorem dX9_rest_13 : decode cX9_rest 13 = .ok (.goto 5, 3) := by decide +kernel
theorem dX9_rest_16 : decode cX9_rest 16 = .ok (.ldc 174, 2) := by decide +kernel
theorem dX9_rest_18 : decode cX9_rest 18 = .ok (.ireturn, 1) := by decide +kernel
theorem dX9_gift_0 : decode cX9_gift 0 = .ok (.iload_n 1, 1) := by decide +kernel
theorem dX9_gift_1 : decode cX9_gift 1 = .ok (.i2l, 1) := by decide +kernel
theorem dX9_gift_2 : decode cX9_gift 2 = .ok (.lconst 0, 1) := by decide +kernel
theorem dX9_gift_3 : decode cX9_gift 3 = .ok (.ldc2_w 175, 3) := by decide +kernel
theorem dX9_gift_6 : decode cX9_gift 6 = .ok (.invokestatic 108, 3) := by decide +kernel
theorem dX9_gift_9 : decode cX9_gift 9 = .ok (.ifCond .ne 6, 3) := by decide +kernel
theorem dX9_gift_12 : decode cX9_gift 12 = .ok (.bipush (-102), 2) := by decide +kernel
theorem dX9_gift_14 : decode cX9_gift 14 = .ok (.ireturn, 1) := by decide +kernel
theorem dX9_gift_15 : decode cX9_gift 15 = .ok (.aload_n 0, 1) := by decide +kernel
theorem dX9_gift_16 : decode cX9_gift 16 = .ok (.iload_n 2, 1) := by decide +kernel
theorem dX9_gift_17 : decode cX9_gift 17 = .ok (.invokevirtual 147, 3) := by decide +kernel
theorem dX9_gift_20 : decode cX9_gift 20 = .ok (.ifCond .ne 6, 3) := by decide +kernel
theorem dX9_gift_23 : decode cX9_gift 23 = .ok (.bipush (-101), 2) := by decide +kernel
theorem dX9_gift_25 : decode cX9_gift 25 = .ok (.ireturn, 1) := by decide +kernel
theorem dX9_gift_26 : decode cX9_gift 26 = .ok (.aload_n 0, 1) := by decide +kernel
theorem dX9_gift_27 : decode cX9_gift 27 = .ok (.getfield 158, 3) := by decide +kernel
theorem dX9_gift_30 : decode cX9_gift 30 = .ok (.bipush 8, 2) := by decide +kernel
theorem dX9_gift_32 : decode cX9_gift 32 = .ok (.if_icmp .ne 6, 3) := by decide +kernel
theorem dX9_gift_35 : decode cX9_gift 35 = .ok (.bipush (-104), 2) := by decide +kernel
theorem dX9_gift_37 : decode cX9_gift 37 = .ok (.ireturn, 1) := by decide +kernel
theorem dX9_gift_38 : decode cX9_gift 38 = .ok (.iconst 0, 1) := by decide +kernel
theorem dX9_gift_39 : decode cX9_gift 39 = .ok (.istore_n 3, 1) := by decide +kernel
theorem dX9_gift_40 : decode cX9_gift 40 = .ok (.iload_n 3, 1) := by decide +kernel
theorem dX9_gift_41 : decode cX9_gift 41 = .ok (.bipush 8, 2) := by decide +kernel
theorem dX9_gift_43 : decode cX9_gift 43 = .ok (.if_icmp .ge 24, 3) := by decide +kernel
theorem dX9_gift_46 : decode cX9_gift 46 = .ok (.aload_n 0, 1) := by decide +kernel
theorem dX9_gift_47 : decode cX9_gift 47 = .ok (.getfield 28, 3) := by decide +kernel
theorem dX9_gift_50 : decode cX9_gift 50 = .ok (.bipush 8, 2) := by decide +kernel
theorem dX9_gift_52 : decode cX9_gift 52 = .ok (.aload_n 0, 1) := by decide +kernel
theorem dX9_gift_53 : decode cX9_gift 53 = .ok (.getfield 158, 3) := by decide +kernel
theorem dX9_gift_56 : decode cX9_gift 56 = .ok (.imul, 1) := by decide +kernel
theorem dX9_gift_57 : decode cX9_gift 57 = .ok (.iload_n 3, 1) := by decide +kernel
theorem dX9_gift_58 : decode cX9_gift 58 = .ok (.iadd, 1) := by decide +kernel
theorem dX9_gift_59 : decode cX9_gift 59 = .ok (.iconst 0, 1) := by decide +kernel
theorem dX9_gift_60 : decode cX9_gift 60 = .ok (.iastore, 1) := by decide +kernel
theorem dX9_gift_61 : decode cX9_gift 61 = .ok (.iinc 3 1, 3) := by decide +kernel
theorem dX9_gift_64 : decode cX9_gift 64 = .ok (.goto (-24), 3) := by decide +kernel
theorem dX9_gift_67 : decode cX9_gift 67 = .ok (.aload_n 0, 1) := by decide +kernel
theorem dX9_gift_68 : decode cX9_gift 68 = .ok (.getfield 28, 3) := by decide +kernel
theorem dX9_gift_71 : decode cX9_gift 71 = .ok (.bipush 8, 2) := by decide +kernel
theorem dX9_gift_73 : decode cX9_gift 73 = .ok (.aload_n 0, 1) := by decide +kernel
theorem dX9_gift_74 : decode cX9_gift 74 = .ok (.getfield 158, 3) := by decide +kernel
theorem dX9_gift_77 : decode cX9_gift 77 = .ok (.imul, 1) := by decide +kernel
theorem dX9_gift_78 : decode cX9_gift 78 = .ok (.iload_n 1, 1) := by decide +kernel
theorem dX9_gift_79 : decode cX9_gift 79 = .ok (.iastore, 1) := by decide +kernel
theorem dX9_gift_80 : decode cX9_gift 80 = .ok (.aload_n 0, 1) := by decide +kernel
theorem dX9_gift_81 : decode cX9_gift 81 = .ok (.getfield 28, 3) := by decide +kernel
theorem dX9_gift_84 : decode cX9_gift 84 = .ok (.bipush 8, 2) := by decide +kernel
theorem dX9_gift_86 : decode cX9_gift 86 = .ok (.aload_n 0, 1) := by decide +kernel
theorem dX9_gift_87 : decode cX9_gift 87 = .ok (.getfield 158, 3) := by decide +kernel
theorem dX9_gift_90 : decode cX9_gift 90 = .ok (.imul, 1) := by decide +kernel
theorem dX9_gift_91 : decode cX9_gift 91 = .ok (.iconst 1, 1) := by decide +kernel
theorem dX9_gift_92 : decode cX9_gift 92 = .ok (.iadd, 1) := by decide +kernel
theorem dX9_gift_93 : decode cX9_gift 93 = .ok (.iload_n 2, 1) := by decide +kernel
theorem dX9_gift_94 : decode cX9_gift 94 = .ok (.iastore, 1) := by decide +kernel
theorem dX9_gift_95 : decode cX9_gift 95 = .ok (.aload_n 0, 1) := by decide +kernel
theorem dX9_gift_96 : decode cX9_gift 96 = .ok (.getfield 28, 3) := by decide +kernel
theorem dX9_gift_99 : decode cX9_gift 99 = .ok (.bipush 8, 2) := by decide +kernel
theorem dX9_gift_101 : decode cX9_gift 101 = .ok (.aload_n 0, 1) := by decide +kernel
theorem dX9_gift_102 : decode cX9_gift 102 = .ok (.getfield 158, 3) := by decide +kernel
theorem dX9_gift_105 : decode cX9_gift 105 = .ok (.imul, 1) := by decide +kernel
theorem dX9_gift_106 : decode cX9_gift 106 = .ok (.iconst 2, 1) := by decide +kernel
theorem dX9_gift_107 : decode cX9_gift 107 = .ok (.iadd, 1) := by decide +kernel
theorem dX9_gift_108 : decode cX9_gift 108 = .ok (.iload_n 2, 1) := by decide +kernel
theorem dX9_gift_109 : decode cX9_gift 109 = .ok (.iastore, 1) := by decide +kernel
theorem dX9_gift_110 : decode cX9_gift 110 = .ok (.aload_n 0, 1) := by decide +kernel
theorem dX9_gift_111 : decode cX9_gift 111 = .ok (.getfield 28, 3) := by decide +kernel
theorem dX9_gift_114 : decode cX9_gift 114 = .ok (.bipush 8, 2) := by decide +kernel
theorem dX9_gift_116 : decode cX9_gift 116 = .ok (.aload_n 0, 1) := by decide +kernel
theorem dX9_gift_117 : decode cX9_gift 117 = .ok (.getfield 158, 3) := by decide +kernel
theorem dX9_gift_120 : decode cX9_gift 120 = .ok (.imul, 1) := by decide +kernel
theorem dX9_gift_121 : decode cX9_gift 121 = .ok (.iconst 3, 1) := by decide +kernel
theorem dX9_gift_122 : decode cX9_gift 122 = .ok (.iadd, 1) := by decide +kernel
theorem dX9_gift_123 : decode cX9_gift 123 = .ok (.iconst (-1), 1) := by decide +kernel
theorem dX9_gift_124 : decode cX9_gift 124 = .ok (.iastore, 1) := by decide +kernel
theorem dX9_gift_125 : decode cX9_gift 125 = .ok (.aload_n 0, 1) := by decide +kernel
theorem dX9_gift_126 : decode cX9_gift 126 = .ok (.dup, 1) := by decide +kernel
theorem dX9_gift_127 : decode cX9_gift 127 = .ok (.getfield 158, 3) := by decide +kernel
theorem dX9_gift_130 : decode cX9_gift 130 = .ok (.iconst 1, 1) := by decide +kernel
theorem dX9_gift_131 : decode cX9_gift 131 = .ok (.iadd, 1) := by decide +kernel
theorem dX9_gift_132 : decode cX9_gift 132 = .ok (.putfield 158, 3) := by decide +kernel
theorem dX9_gift_135 : decode cX9_gift 135 = .ok (.aload_n 0, 1) := by decide +kernel
theorem dX9_gift_136 : decode cX9_gift 136 = .ok (.getfield 158, 3) := by decide +kernel
theorem dX9_gift_139 : decode cX9_gift 139 = .ok (.iconst 1, 1) := by decide +kernel
theorem dX9_gift_140 : decode cX9_gift 140 = .ok (.isub, 1) := by decide +kernel
theorem dX9_gift_141 : decode cX9_gift 141 = .ok (.ireturn, 1) := by decide +kernel
theorem dX9_worthOf_0 : decode cX9_worthOf 0 = .ok (.bipush 10, 2) := by decide +kernel
theorem dX9_worthOf_2 : decode cX9_worthOf 2 = .ok (.aload_n 0, 1) := by decide +kernel
theorem dX9_worthOf_3 : decode cX9_worthOf 3 = .ok (.getfield 28, 3) := by decide +kernel
theorem dX9_worthOf_6 : decode cX9_worthOf 6 = .ok (.bipush 8, 2) := by decide +kernel
theorem dX9_worthOf_8 : decode cX9_worthOf 8 = .ok (.iload_n 1, 1) := by decide +kernel
theorem dX9_worthOf_9 : decode cX9_worthOf 9 = .ok (.imul, 1) := by decide +kernel
theorem dX9_worthOf_10 : decode cX9_worthOf 10 = .ok (.iconst 4, 1) := by decide +kernel
theorem dX9_worthOf_11 : decode cX9_worthOf 11 = .ok (.iadd, 1) := by decide +kernel
theorem dX9_worthOf_12 : decode cX9_worthOf 12 = .ok (.iaload, 1) := by decide +kernel
theorem dX9_worthOf_13 : decode cX9_worthOf 13 = .ok (.isub, 1) := by decide +kernel
theorem dX9_worthOf_14 : decode cX9_worthOf 14 = .ok (.istore_n 2, 1) := by decide +kernel
theorem dX9_worthOf_15 : decode cX9_worthOf 15 = .ok (.aload_n 0, 1) := by decide +kernel
theorem dX9_worthOf_16 : decode cX9_worthOf 16 = .ok (.getfield 28, 3) := by decide +kernel
theorem dX9_worthOf_19 : decode cX9_worthOf 19 = .ok (.bipush 8, 2) := by decide +kernel
theorem dX9_worthOf_21 : decode cX9_worthOf 21 = .ok (.iload_n 1, 1) := by decide +kernel
theorem dX9_worthOf_22 : decode cX9_worthOf 22 = .ok (.imul, 1) := by decide +kernel
theorem dX9_worthOf_23 : decode cX9_worthOf 23 = .ok (.bipush 7, 2) := by decide +kernel
theorem dX9_worthOf_25 : decode cX9_worthOf 25 = .ok (.iadd, 1) := by decide +kernel
theorem dX9_worthOf_26 : decode cX9_worthOf 26 = .ok (.iaload, 1) := by decide +kernel
theorem dX9_worthOf_27 : decode cX9_worthOf 27 = .ok (.bipush 9, 2) := by decide +kernel
theorem dX9_worthOf_29 : decode cX9_worthOf 29 = .ok (.if_icmp .le 8, 3) := by decide +kernel
theorem dX9_worthOf_32 : decode cX9_worthOf 32 = .ok (.bipush 9, 2) := by decide +kernel
theorem dX9_worthOf_34 : decode cX9_worthOf 34 = .ok (.goto 15, 3) := by decide +kernel
theorem dX9_worthOf_37 : decode cX9_worthOf 37 = .ok (.aload_n 0, 1) := by decide +kernel
theorem dX9_worthOf_38 : decode cX9_worthOf 38 = .ok (.getfield 28, 3) := by decide +kernel
theorem dX9_worthOf_41 : decode cX9_worthOf 41 = .ok (.bipush 8, 2) := by decide +kernel
theorem dX9_worthOf_43 : decode cX9_worthOf 43 = .ok (.iload_n 1, 1) := by decide +kernel
theorem dX9_worthOf_44 : decode cX9_worthOf 44 = .ok (.imul, 1) := by decide +kernel
theorem dX9_worthOf_45 : decode cX9_worthOf 45 = .ok (.bipush 7, 2) := by decide +kernel
theorem dX9_worthOf_47 : decode cX9_worthOf 47 = .ok (.iadd, 1) := by decide +kernel
theorem dX9_worthOf_48 : decode cX9_worthOf 48 = .ok (.iaload, 1) := by decide +kernel
theorem dX9_worthOf_49 : decode cX9_worthOf 49 = .ok (.istore_n 3, 1) := by decide +kernel
theorem dX9_worthOf_50 : decode cX9_worthOf 50 = .ok (.iload_n 2, 1) := by decide +kernel
theorem dX9_worthOf_51 : decode cX9_worthOf 51 = .ok (.iconst 1, 1) := by decide +kernel
theorem dX9_worthOf_52 : decode cX9_worthOf 52 = .ok (.if_icmp .ge 7, 3) := by decide +kernel
theorem dX9_worthOf_55 : decode cX9_worthOf 55 = .ok (.iconst 1, 1) := by decide +kernel
theorem dX9_worthOf_56 : decode cX9_worthOf 56 = .ok (.goto 4, 3) := by decide +kernel
theorem dX9_worthOf_59 : decode cX9_worthOf 59 = .ok (.iload_n 2, 1) := by decide +kernel
theorem dX9_worthOf_60 : decode cX9_worthOf 60 = .ok (.aload_n 0, 1) := by decide +kernel
theorem dX9_worthOf_61 : decode cX9_worthOf 61 = .ok (.getfield 28, 3) := by decide +kernel
theorem dX9_worthOf_64 : decode cX9_worthOf 64 = .ok (.bipush 8, 2) := by decide +kernel
theorem dX9_worthOf_66 : decode cX9_worthOf 66 = .ok (.iload_n 1, 1) := by decide +kernel
theorem dX9_worthOf_67 : decode cX9_worthOf 67 = .ok (.imul, 1) := by decide +kernel
theorem dX9_worthOf_68 : decode cX9_worthOf 68 = .ok (.iaload, 1) := by decide +kernel
theorem dX9_worthOf_69 : decode cX9_worthOf 69 = .ok (.iconst 2, 1) := by decide +kernel
theorem dX9_worthOf_70 : decode cX9_worthOf 70 = .ok (.if_icmp .ne 7, 3) := by decide +kernel
theorem dX9_worthOf_73 : decode cX9_worthOf 73 = .ok (.iload_n 3, 1) := by decide +kernel
theorem dX9_worthOf_74 : decode cX9_worthOf 74 = .ok (.goto 4, 3) := by decide +kernel
theorem dX9_worthOf_77 : decode cX9_worthOf 77 = .ok (.iconst 0, 1) := by decide +kernel
theorem dX9_worthOf_78 : decode cX9_worthOf 78 = .ok (.iadd, 1) := by decide +kernel
theorem dX9_worthOf_79 : decode cX9_worthOf 79 = .ok (.ireturn, 1) := by decide +kernel
theorem dX9_tellGift_0 : decode cX9_tellGift 0 = .ok (.iload_n 2, 1) := by decide +kernel
theorem dX9_tellGift_1 : decode cX9_tellGift 1 = .ok (.bipush 6, 2) := by decide +kernel
theorem dX9_tellGift_3 : decode cX9_tellGift 3 = .ok (.if_icmp .ne 9, 3) := by decide +kernel
theorem dX9_tellGift_6 : decode cX9_tellGift 6 = .ok (.aload_n 0, 1) := by decide +kernel
theorem dX9_tellGift_7 : decode cX9_tellGift 7 = .ok (.iload_n 1, 1) := by decide +kernel
theorem dX9_tellGift_8 : decode cX9_tellGift 8 = .ok (.invokevirtual 177, 3) := by decide +kernel
theorem dX9_tellGift_11 : decode cX9_tellGift 11 = .ok (.ireturn, 1) := by decide +kernel
theorem dX9_tellGift_12 : decode cX9_tellGift 12 = .ok (.iload_n 2, 1) := by decide +kernel
theorem dX9_tellGift_13 : decode cX9_tellGift 13 = .ok (.i2l, 1) := by decide +kernel
theorem dX9_tellGift_14 : decode cX9_tellGift 14 = .ok (.lconst 0, 1) := by decide +kernel
theorem dX9_tellGift_15 : decode cX9_tellGift 15 = .ok (.ldc2_w 180, 3) := by decide +kernel
theorem dX9_tellGift_18 : decode cX9_tellGift 18 = .ok (.invokestatic 108, 3) := by decide +kernel
theorem dX9_tellGift_21 : decode cX9_tellGift 21 = .ok (.ifCond .eq 29, 3) := by decide +kernel
theorem dX9_tellGift_24 : decode cX9_tellGift 24 = .ok (.aload_n 0, 1) := by decide +kernel
theorem dX9_tellGift_25 : decode cX9_tellGift 25 = .ok (.getfield 28, 3) := by decide +kernel
theorem dX9_tellGift_28 : decode cX9_tellGift 28 = .ok (.bipush 8, 2) := by decide +kernel
theorem dX9_tellGift_30 : decode cX9_tellGift 30 = .ok (.iload_n 1, 1) := by decide +kernel
theorem dX9_tellGift_31 : decode cX9_tellGift 31 = .ok (.imul, 1) := by decide +kernel
theorem dX9_tellGift_32 : decode cX9_tellGift 32 = .ok (.iload_n 2, 1) := by decide +kernel
theorem dX9_tellGift_33 : decode cX9_tellGift 33 = .ok (.bipush 6, 2) := by decide +kernel
theorem dX9_tellGift_35 : decode cX9_tellGift 35 = .ok (.if_icmp .le 9, 3) := by decide +kernel
theorem dX9_tellGift_38 : decode cX9_tellGift 38 = .ok (.iload_n 2, 1) := by decide +kernel
theorem dX9_tellGift_39 : decode cX9_tellGift 39 = .ok (.iconst 1, 1) := by decide +kernel
theorem dX9_tellGift_40 : decode cX9_tellGift 40 = .ok (.isub, 1) := by decide +kernel
theorem dX9_tellGift_41 : decode cX9_tellGift 41 = .ok (.goto 4, 3) := by decide +kernel
theorem dX9_tellGift_44 : decode cX9_tellGift 44 = .ok (.iload_n 2, 1) := by decide +kernel
theorem dX9_tellGift_45 : decode cX9_tellGift 45 = .ok (.iadd, 1) := by decide +kernel
theorem dX9_tellGift_46 : decode cX9_tellGift 46 = .ok (.iaload, 1) := by decide +kernel
theorem dX9_tellGift_47 : decode cX9_tellGift 47 = .ok (.goto 5, 3) := by decide +kernel
theorem dX9_tellGift_50 : decode cX9_tellGift 50 = .ok (.bipush (-102), 2) := by decide +kernel
theorem dX9_tellGift_52 : decode cX9_tellGift 52 = .ok (.ireturn, 1) := by decide +kernel
theorem dX9_told_0 : decode cX9_told 0 = .ok (.aload_n 0, 1) := by decide +kernel
theorem dX9_told_1 : decode cX9_told 1 = .ok (.iload_n 1, 1) := by decide +kernel
theorem dX9_told_2 : decode cX9_told 2 = .ok (.invokevirtual 182, 3) := by decide +kernel
theorem dX9_told_5 : decode cX9_told 5 = .ok (.ifCond .eq 12, 3) := by decide +kernel
theorem dX9_told_8 : decode cX9_told 8 = .ok (.aload_n 0, 1) := by decide +kernel
theorem dX9_told_9 : decode cX9_told 9 = .ok (.iload_n 1, 1) := by decide +kernel
theorem dX9_told_10 : decode cX9_told 10 = .ok (.iload_n 2, 1) := by decide +kernel
theorem dX9_told_11 : decode cX9_told 11 = .ok (.invokevirtual 185, 3) := by decide +kernel
theorem dX9_told_14 : decode cX9_told 14 = .ok (.goto 5, 3) := by decide +kernel
theorem dX9_told_17 : decode cX9_told 17 = .ok (.bipush (-101), 2) := by decide +kernel
theorem dX9_told_19 : decode cX9_told 19 = .ok (.ireturn, 1) := by decide +kernel
theorem dX9_as_0 : decode cX9_as 0 = .ok (.aload_n 0, 1) := by decide +kernel
theorem dX9_as_1 : decode cX9_as 1 = .ok (.iload_n 1, 1) := by decide +kernel
theorem dX9_as_2 : decode cX9_as 2 = .ok (.invokevirtual 182, 3) := by decide +kernel
theorem dX9_as_5 : decode cX9_as 5 = .ok (.ifCond .ne 6, 3) := by decide +kernel
theorem dX9_as_8 : decode cX9_as 8 = .ok (.bipush (-101), 2) := by decide +kernel
theorem dX9_as_10 : decode cX9_as 10 = .ok (.ireturn, 1) := by decide +kernel
theorem dX9_as_11 : decode cX9_as 11 = .ok (.iload_n 2, 1) := by decide +kernel
theorem dX9_as_12 : decode cX9_as 12 = .ok (.i2l, 1) := by decide +kernel
theorem dX9_as_13 : decode cX9_as 13 = .ok (.lconst 0, 1) := by decide +kernel
theorem dX9_as_14 : decode cX9_as 14 = .ok (.ldc2_w 175, 3) := by decide +kernel
theorem dX9_as_17 : decode cX9_as 17 = .ok (.invokestatic 108, 3) := by decide +kernel
theorem dX9_as_20 : decode cX9_as 20 = .ok (.ifCond .ne 6, 3) := by decide +kernel
theorem dX9_as_23 : decode cX9_as 23 = .ok (.bipush (-102), 2) := by decide +kernel
theorem dX9_as_25 : decode cX9_as 25 = .ok (.ireturn, 1) := by decide +kernel
theorem dX9_as_26 : decode cX9_as 26 = .ok (.aload_n 0, 1) := by decide +kernel
theorem dX9_as_27 : decode cX9_as 27 = .ok (.getfield 28, 3) := by decide +kernel
theorem dX9_as_30 : decode cX9_as 30 = .ok (.bipush 8, 2) := by decide +kernel
theorem dX9_as_32 : decode cX9_as 32 = .ok (.iload_n 1, 1) := by decide +kernel
theorem dX9_as_33 : decode cX9_as 33 = .ok (.imul, 1) := by decide +kernel
theorem dX9_as_34 : decode cX9_as 34 = .ok (.iaload, 1) := by decide +kernel
theorem dX9_as_35 : decode cX9_as 35 = .ok (.istore_n 3, 1) := by decide +kernel
theorem dX9_as_36 : decode cX9_as 36 = .ok (.iload_n 2, 1) := by decide +kernel
theorem dX9_as_37 : decode cX9_as 37 = .ok (.ifCond .eq 18, 3) := by decide +kernel
theorem dX9_as_40 : decode cX9_as 40 = .ok (.iload_n 2, 1) := by decide +kernel
theorem dX9_as_41 : decode cX9_as 41 = .ok (.iload_n 3, 1) := by decide +kernel
theorem dX9_as_42 : decode cX9_as 42 = .ok (.if_icmp .eq 13, 3) := by decide +kernel
theorem dX9_as_45 : decode cX9_as 45 = .ok (.iload_n 2, 1) := by decide +kernel
theorem dX9_as_46 : decode cX9_as 46 = .ok (.iconst 1, 1) := by decide +kernel
theorem dX9_as_47 : decode cX9_as 47 = .ok (.if_icmp .ne 12, 3) := by decide +kernel
theorem dX9_as_50 : decode cX9_as 50 = .ok (.iload_n 3, 1) := by decide +kernel
theorem dX9_as_51 : decode cX9_as 51 = .ok (.iconst 4, 1) := by decide +kernel
theorem dX9_as_52 : decode cX9_as 52 = .ok (.if_icmp .ne 7, 3) := by decide +kernel
theorem dX9_as_55 : decode cX9_as 55 = .ok (.iconst 1, 1) := by decide +kernel
theorem dX9_as_56 : decode cX9_as 56 = .ok (.goto 4, 3) := by decide +kernel
theorem dX9_as_59 : decode cX9_as 59 = .ok (.iconst 0, 1) := by decide +kernel
theorem dX9_as_60 : decode cX9_as 60 = .ok (.istore 4, 2) := by decide +kernel
theorem dX9_as_62 : decode cX9_as 62 = .ok (.iload 4, 2) := by decide +kernel
theorem dX9_as_64 : decode cX9_as 64 = .ok (.ifCond .eq 7, 3) := by decide +kernel
theorem dX9_as_67 : decode cX9_as 67 = .ok (.iload_n 1, 1) := by decide +kernel
theorem dX9_as_68 : decode cX9_as 68 = .ok (.goto 4, 3) := by decide +kernel
theorem dX9_as_71 : decode cX9_as 71 = .ok (.iconst (-1), 1) := by decide +kernel
theorem dX9_as_72 : decode cX9_as 72 = .ok (.ireturn, 1) := by decide +kernel
theorem dX9_mayHave_0 : decode cX9_mayHave 0 = .ok (.iload_n 2, 1) := by decide +kernel
theorem dX9_mayHave_1 : decode cX9_mayHave 1 = .ok (.iconst (-1), 1) := by decide +kernel
theorem dX9_mayHave_2 : decode cX9_mayHave 2 = .ok (.if_icmp .ne 12, 3) := by decide +kernel
theorem dX9_mayHave_5 : decode cX9_mayHave 5 = .ok (.aload_n 0, 1) := by decide +kernel
theorem dX9_mayHave_6 : decode cX9_mayHave 6 = .ok (.getfield 16, 3) := by decide +kernel
theorem dX9_mayHave_9 : decode cX9_mayHave 9 = .ok (.iload_n 1, 1) := by decide +kernel
theorem dX9_mayHave_10 : decode cX9_mayHave 10 = .ok (.iaload, 1) := by decide +kernel
theorem dX9_mayHave_11 : decode cX9_mayHave 11 = .ok (.goto 15, 3) := by decide +kernel
theorem dX9_mayHave_14 : decode cX9_mayHave 14 = .ok (.aload_n 0, 1) := by decide +kernel
theorem dX9_mayHave_15 : decode cX9_mayHave 15 = .ok (.getfield 16, 3) := by decide +kernel
theorem dX9_mayHave_18 : decode cX9_mayHave 18 = .ok (.iload_n 1, 1) := by decide +kernel
theorem dX9_mayHave_19 : decode cX9_mayHave 19 = .ok (.iaload, 1) := by decide +kernel
theorem dX9_mayHave_20 : decode cX9_mayHave 20 = .ok (.iconst 1, 1) := by decide +kernel
theorem dX9_mayHave_21 : decode cX9_mayHave 21 = .ok (.iload_n 2, 1) := by decide +kernel
theorem dX9_mayHave_22 : decode cX9_mayHave 22 = .ok (.ishl, 1) := by decide +kernel
theorem dX9_mayHave_23 : decode cX9_mayHave 23 = .ok (.iconst (-1), 1) := by decide +kernel
theorem dX9_mayHave_24 : decode cX9_mayHave 24 = .ok (.ixor, 1) := by decide +kernel
theorem dX9_mayHave_25 : decode cX9_mayHave 25 = .ok (.iand, 1) := by decide +kernel
theorem dX9_mayHave_26 : decode cX9_mayHave 26 = .ok (.istore_n 3, 1) := by decide +kernel
theorem dX9_mayHave_27 : decode cX9_mayHave 27 = .ok (.iload_n 3, 1) := by decide +kernel
theorem dX9_mayHave_28 : decode cX9_mayHave 28 = .ok (.ifCond .ne 20, 3) := by decide +kernel
theorem dX9_mayHave_31 : decode cX9_mayHave 31 = .ok (.aload_n 0, 1) := by decide +kernel
theorem dX9_mayHave_32 : decode cX9_mayHave 32 = .ok (.getfield 131, 3) := by decide +kernel
theorem dX9_mayHave_35 : decode cX9_mayHave 35 = .ok (.iconst 1, 1) := by decide +kernel
theorem dX9_mayHave_36 : decode cX9_mayHave 36 = .ok (.if_icmp .ne 12, 3) := by decide +kernel
theorem dX9_mayHave_39 : decode cX9_mayHave 39 = .ok (.aload_n 0, 1) := by decide +kernel
theorem dX9_mayHave_40 : decode cX9_mayHave 40 = .ok (.getfield 16, 3) := by decide +kernel
theorem dX9_mayHave_43 : decode cX9_mayHave 43 = .ok (.iload_n 1, 1) := by decide +kernel
theorem dX9_mayHave_44 : decode cX9_mayHave 44 = .ok (.iaload, 1) := by decide +kernel
theorem dX9_mayHave_45 : decode cX9_mayHave 45 = .ok (.goto 4, 3) := by decide +kernel
theorem dX9_mayHave_48 : decode cX9_mayHave 48 = .ok (.iload_n 3, 1) := by decide +kernel
theorem dX9_mayHave_49 : decode cX9_mayHave 49 = .ok (.ireturn, 1) := by decide +kernel
theorem dX9_mayOf_0 : decode cX9_mayOf 0 = .ok (.aload_n 0, 1) := by decide +kernel
theorem dX9_mayOf_1 : decode cX9_mayOf 1 = .ok (.aload_n 0, 1) := by decide +kernel
theorem dX9_mayOf_2 : decode cX9_mayOf 2 = .ok (.getfield 28, 3) := by decide +kernel
theorem dX9_mayOf_5 : decode cX9_mayOf 5 = .ok (.bipush 8, 2) := by decide +kernel
theorem dX9_mayOf_7 : decode cX9_mayOf 7 = .ok (.iload_n 1, 1) := by decide +kernel
theorem dX9_mayOf_8 : decode cX9_mayOf 8 = .ok (.imul, 1) := by decide +kernel
theorem dX9_mayOf_9 : decode cX9_mayOf 9 = .ok (.iconst 2, 1) := by decide +kernel
theorem dX9_mayOf_10 : decode cX9_mayOf 10 = .ok (.iadd, 1) := by decide +kernel
theorem dX9_mayOf_11 : decode cX9_mayOf 11 = .ok (.iaload, 1) := by decide +kernel
theorem dX9_mayOf_12 : decode cX9_mayOf 12 = .ok (.aload_n 0, 1) := by decide +kernel
theorem dX9_mayOf_13 : decode cX9_mayOf 13 = .ok (.getfield 28, 3) := by decide +kernel
theorem dX9_mayOf_16 : decode cX9_mayOf 16 = .ok (.bipush 8, 2) := by decide +kernel
theorem dX9_mayOf_18 : decode cX9_mayOf 18 = .ok (.iload_n 1, 1) := by decide +kernel
theorem dX9_mayOf_19 : decode cX9_mayOf 19 = .ok (.imul, 1) := by decide +kernel
theorem dX9_mayOf_20 : decode cX9_mayOf 20 = .ok (.iconst 3, 1) := by decide +kernel
theorem dX9_mayOf_21 : decode cX9_mayOf 21 = .ok (.iadd, 1) := by decide +kernel
theorem dX9_mayOf_22 : decode cX9_mayOf 22 = .ok (.iaload, 1) := by decide +kernel
theorem dX9_mayOf_23 : decode cX9_mayOf 23 = .ok (.invokevirtual 188, 3) := by decide +kernel
theorem dX9_mayOf_26 : decode cX9_mayOf 26 = .ok (.ireturn, 1) := by decide +kernel
theorem dX9_may_0 : decode cX9_may 0 = .ok (.aload_n 0, 1) := by decide +kernel
theorem dX9_may_1 : decode cX9_may 1 = .ok (.iload_n 1, 1) := by decide +kernel
theorem dX9_may_2 : decode cX9_may 2 = .ok (.invokevirtual 182, 3) := by decide +kernel
theorem dX9_may_5 : decode cX9_may 5 = .ok (.ifCond .ne 6, 3) := by decide +kernel
theorem dX9_may_8 : decode cX9_may 8 = .ok (.bipush (-101), 2) := by decide +kernel
theorem dX9_may_10 : decode cX9_may 10 = .ok (.ireturn, 1) := by decide +kernel
theorem dX9_may_11 : decode cX9_may 11 = .ok (.aload_n 0, 1) := by decide +kernel
theorem dX9_may_12 : decode cX9_may 12 = .ok (.iload_n 1, 1) := by decide +kernel
theorem dX9_may_13 : decode cX9_may 13 = .ok (.invokevirtual 161, 3) := by decide +kernel
theorem dX9_may_16 : decode cX9_may 16 = .ok (.ifCond .eq 11, 3) := by decide +kernel
theorem dX9_may_19 : decode cX9_may 19 = .ok (.aload_n 0, 1) := by decide +kernel
theorem dX9_may_20 : decode cX9_may 20 = .ok (.iload_n 1, 1) := by decide +kernel
theorem dX9_may_21 : decode cX9_may 21 = .ok (.invokevirtual 191, 3) := by decide +kernel
theorem dX9_may_24 : decode cX9_may 24 = .ok (.goto 5, 3) := by decide +kernel
theorem dX9_may_27 : decode cX9_may 27 = .ok (.bipush (-103), 2) := by decide +kernel
theorem dX9_may_29 : decode cX9_may 29 = .ok (.ireturn, 1) := by decide +kernel
theorem dX9_goOn_0 : decode cX9_goOn 0 = .ok (.bipush 8, 2) := by decide +kernel
theorem dX9_goOn_2 : decode cX9_goOn 2 = .ok (.iload_n 1, 1) := by decide +kernel
theorem dX9_goOn_3 : decode cX9_goOn 3 = .ok (.imul, 1) := by decide +kernel
theorem dX9_goOn_4 : decode cX9_goOn 4 = .ok (.istore_n 3, 1) := by decide +kernel
theorem dX9_goOn_5 : decode cX9_goOn 5 = .ok (.aload_n 0, 1) := by decide +kernel
theorem dX9_goOn_6 : decode cX9_goOn 6 = .ok (.getfield 28, 3) := by decide +kernel
theorem dX9_goOn_9 : decode cX9_goOn 9 = .ok (.iload_n 3, 1) := by decide +kernel
theorem dX9_goOn_10 : decode cX9_goOn 10 = .ok (.iconst 2, 1) := by decide +kernel
theorem dX9_goOn_11 : decode cX9_goOn 11 = .ok (.iadd, 1) := by decide +kernel
theorem dX9_goOn_12 : decode cX9_goOn 12 = .ok (.iaload, 1) := by decide +kernel
theorem dX9_goOn_13 : decode cX9_goOn 13 = .ok (.istore 4, 2) := by decide +kernel
theorem dX9_goOn_15 : decode cX9_goOn 15 = .ok (.aload_n 0, 1) := by decide +kernel
theorem dX9_goOn_16 : decode cX9_goOn 16 = .ok (.getfield 28, 3) := by decide +kernel
theorem dX9_goOn_19 : decode cX9_goOn 19 = .ok (.iload_n 3, 1) := by decide +kernel
theorem dX9_goOn_20 : decode cX9_goOn 20 = .ok (.iaload, 1) := by decide +kernel
theorem dX9_goOn_21 : decode cX9_goOn 21 = .ok (.istore 5, 2) := by decide +kernel
theorem dX9_goOn_23 : decode cX9_goOn 23 = .ok (.aload_n 0, 1) := by decide +kernel
theorem dX9_goOn_24 : decode cX9_goOn 24 = .ok (.getfield 22, 3) := by decide +kernel
theorem dX9_goOn_27 : decode cX9_goOn 27 = .ok (.bipush 8, 2) := by decide +kernel
theorem dX9_goOn_29 : decode cX9_goOn 29 = .ok (.iload_n 2, 1) := by decide +kernel
theorem dX9_goOn_30 : decode cX9_goOn 30 = .ok (.imul, 1) := by decide +kernel
theorem dX9_goOn_31 : decode cX9_goOn 31 = .ok (.iload 4, 2) := by decide +kernel
theorem dX9_goOn_33 : decode cX9_goOn 33 = .ok (.iadd, 1) := by decide +kernel
theorem dX9_goOn_34 : decode cX9_goOn 34 = .ok (.dup2, 1) := by decide +kernel
theorem dX9_goOn_35 : decode cX9_goOn 35 = .ok (.iaload, 1) := by decide +kernel
theorem dX9_goOn_36 : decode cX9_goOn 36 = .ok (.aload_n 0, 1) := by decide +kernel
theorem dX9_goOn_37 : decode cX9_goOn 37 = .ok (.iload_n 1, 1) := by decide +kernel
theorem dX9_goOn_38 : decode cX9_goOn 38 = .ok (.invokevirtual 177, 3) := by decide +kernel
theorem dX9_goOn_41 : decode cX9_goOn 41 = .ok (.iadd, 1) := by decide +kernel
theorem dX9_goOn_42 : decode cX9_goOn 42 = .ok (.iastore, 1) := by decide +kernel
theorem dX9_goOn_43 : decode cX9_goOn 43 = .ok (.aload_n 0, 1) := by decide +kernel
theorem dX9_goOn_44 : decode cX9_goOn 44 = .ok (.getfield 28, 3) := by decide +kernel
theorem dX9_goOn_47 : decode cX9_goOn 47 = .ok (.iload_n 3, 1) := by decide +kernel
theorem dX9_goOn_48 : decode cX9_goOn 48 = .ok (.iconst 3, 1) := by decide +kernel
theorem dX9_goOn_49 : decode cX9_goOn 49 = .ok (.iadd, 1) := by decide +kernel
theorem dX9_goOn_50 : decode cX9_goOn 50 = .ok (.iload 4, 2) := by decide +kernel
theorem dX9_goOn_52 : decode cX9_goOn 52 = .ok (.iastore, 1) := by decide +kernel
theorem dX9_goOn_53 : decode cX9_goOn 53 = .ok (.aload_n 0, 1) := by decide +kernel
theorem dX9_goOn_54 : decode cX9_goOn 54 = .ok (.getfield 28, 3) := by decide +kernel
theorem dX9_goOn_57 : decode cX9_goOn 57 = .ok (.iload_n 3, 1) := by decide +kernel
theorem dX9_goOn_58 : decode cX9_goOn 58 = .ok (.iconst 2, 1) := by decide +kernel
theorem dX9_goOn_59 : decode cX9_goOn 59 = .ok (.iadd, 1) := by decide +kernel
theorem dX9_goOn_60 : decode cX9_goOn 60 = .ok (.iload_n 2, 1) := by decide +kernel
theorem dX9_goOn_61 : decode cX9_goOn 61 = .ok (.iastore, 1) := by decide +kernel
theorem dX9_goOn_62 : decode cX9_goOn 62 = .ok (.aload_n 0, 1) := by decide +kernel
theorem dX9_goOn_63 : decode cX9_goOn 63 = .ok (.getfield 28, 3) := by decide +kernel
theorem dX9_goOn_66 : decode cX9_goOn 66 = .ok (.iload_n 3, 1) := by decide +kernel
theorem dX9_goOn_67 : decode cX9_goOn 67 = .ok (.iconst 5, 1) := by decide +kernel
theorem dX9_goOn_68 : decode cX9_goOn 68 = .ok (.iadd, 1) := by decide +kernel
theorem dX9_goOn_69 : decode cX9_goOn 69 = .ok (.iconst 0, 1) := by decide +kernel
theorem dX9_goOn_70 : decode cX9_goOn 70 = .ok (.iastore, 1) := by decide +kernel
theorem dX9_goOn_71 : decode cX9_goOn 71 = .ok (.aload_n 0, 1) := by decide +kernel
theorem dX9_goOn_72 : decode cX9_goOn 72 = .ok (.getfield 28, 3) := by decide +kernel
theorem dX9_goOn_75 : decode cX9_goOn 75 = .ok (.iload_n 3, 1) := by decide +kernel
theorem dX9_goOn_76 : decode cX9_goOn 76 = .ok (.iconst 4, 1) := by decide +kernel
theorem dX9_goOn_77 : decode cX9_goOn 77 = .ok (.iadd, 1) := by decide +kernel
theorem dX9_goOn_78 : decode cX9_goOn 78 = .ok (.dup2, 1) := by decide +kernel
theorem dX9_goOn_79 : decode cX9_goOn 79 = .ok (.iaload, 1) := by decide +kernel
theorem dX9_goOn_80 : decode cX9_goOn 80 = .ok (.iload 5, 2) := by decide +kernel
theorem dX9_goOn_82 : decode cX9_goOn 82 = .ok (.iconst 2, 1) := by decide +kernel
theorem dX9_goOn_83 : decode cX9_goOn 83 = .ok (.if_icmp .ne 7, 3) := by decide +kernel
theorem dX9_goOn_86 : decode cX9_goOn 86 = .ok (.iconst 0, 1) := by decide +kernel
theorem dX9_goOn_87 : decode cX9_goOn 87 = .ok (.goto 14, 3) := by decide +kernel
theorem dX9_goOn_90 : decode cX9_goOn 90 = .ok (.iload 5, 2) := by decide +kernel
theorem dX9_goOn_92 : decode cX9_goOn 92 = .ok (.iconst 4, 1) := by decide +kernel
theorem dX9_goOn_93 : decode cX9_goOn 93 = .ok (.if_icmp .ne 7, 3) := by decide +kernel
theorem dX9_goOn_96 : decode cX9_goOn 96 = .ok (.iconst 2, 1) := by decide +kernel
theorem dX9_goOn_97 : decode cX9_goOn 97 = .ok (.goto 4, 3) := by decide +kernel
theorem dX9_goOn_100 : decode cX9_goOn 100 = .ok (.iconst 1, 1) := by decide +kernel
theorem dX9_goOn_101 : decode cX9_goOn 101 = .ok (.iadd, 1) := by decide +kernel
theorem dX9_goOn_102 : decode cX9_goOn 102 = .ok (.iastore, 1) := by decide +kernel
theorem dX9_goOn_103 : decode cX9_goOn 103 = .ok (.aload_n 0, 1) := by decide +kernel
theorem dX9_goOn_104 : decode cX9_goOn 104 = .ok (.getfield 28, 3) := by decide +kernel
theorem dX9_goOn_107 : decode cX9_goOn 107 = .ok (.iload_n 3, 1) := by decide +kernel
theorem dX9_goOn_108 : decode cX9_goOn 108 = .ok (.bipush 7, 2) := by decide +kernel
theorem dX9_goOn_110 : decode cX9_goOn 110 = .ok (.iadd, 1) := by decide +kernel
theorem dX9_goOn_111 : decode cX9_goOn 111 = .ok (.dup2, 1) := by decide +kernel
theorem dX9_goOn_112 : decode cX9_goOn 112 = .ok (.iaload, 1) := by decide +kernel
theorem dX9_goOn_113 : decode cX9_goOn 113 = .ok (.iconst 1, 1) := by decide +kernel
theorem dX9_goOn_114 : decode cX9_goOn 114 = .ok (.iadd, 1) := by decide +kernel
theorem dX9_goOn_115 : decode cX9_goOn 115 = .ok (.iastore, 1) := by decide +kernel
theorem dX9_goOn_116 : decode cX9_goOn 116 = .ok (.iload 5, 2) := by decide +kernel
theorem dX9_goOn_118 : decode cX9_goOn 118 = .ok (.iconst 1, 1) := by decide +kernel
theorem dX9_goOn_119 : decode cX9_goOn 119 = .ok (.if_icmp .eq 9, 3) := by decide +kernel
theorem dX9_goOn_122 : decode cX9_goOn 122 = .ok (.iload 5, 2) := by decide +kernel
theorem dX9_goOn_124 : decode cX9_goOn 124 = .ok (.iconst 4, 1) := by decide +kernel
theorem dX9_goOn_125 : decode cX9_goOn 125 = .ok (.if_icmp .ne 31, 3) := by decide +kernel
theorem dX9_goOn_128 : decode cX9_goOn 128 = .ok (.aload_n 0, 1) := by decide +kernel
theorem dX9_goOn_129 : decode cX9_goOn 129 = .ok (.getfield 28, 3) := by decide +kernel
theorem dX9_goOn_132 : decode cX9_goOn 132 = .ok (.iload_n 3, 1) := by decide +kernel
theorem dX9_goOn_133 : decode cX9_goOn 133 = .ok (.iconst 4, 1) := by decide +kernel
theorem dX9_goOn_134 : decode cX9_goOn 134 = .ok (.iadd, 1) := by decide +kernel
theorem dX9_goOn_135 : decode cX9_goOn 135 = .ok (.iaload, 1) := by decide +kernel
theorem dX9_goOn_136 : decode cX9_goOn 136 = .ok (.aload_n 0, 1) := by decide +kernel
theorem dX9_goOn_137 : decode cX9_goOn 137 = .ok (.getfield 87, 3) := by decide +kernel
theorem dX9_goOn_140 : decode cX9_goOn 140 = .ok (.if_icmp .lt 16, 3) := by decide +kernel
theorem dX9_goOn_143 : decode cX9_goOn 143 = .ok (.aload_n 0, 1) := by decide +kernel
theorem dX9_goOn_144 : decode cX9_goOn 144 = .ok (.getfield 28, 3) := by decide +kernel
theorem dX9_goOn_147 : decode cX9_goOn 147 = .ok (.iload_n 3, 1) := by decide +kernel
theorem dX9_goOn_148 : decode cX9_goOn 148 = .ok (.bipush 6, 2) := by decide +kernel
theorem dX9_goOn_150 : decode cX9_goOn 150 = .ok (.iadd, 1) := by decide +kernel
theorem dX9_goOn_151 : decode cX9_goOn 151 = .ok (.iconst 2, 1) := by decide +kernel
theorem dX9_goOn_152 : decode cX9_goOn 152 = .ok (.iastore, 1) := by decide +kernel
theorem dX9_goOn_153 : decode cX9_goOn 153 = .ok (.goto 45, 3) := by decide +kernel
theorem dX9_goOn_156 : decode cX9_goOn 156 = .ok (.iload_n 2, 1) := by decide +kernel
theorem dX9_goOn_157 : decode cX9_goOn 157 = .ok (.aload_n 0, 1) := by decide +kernel
theorem dX9_goOn_158 : decode cX9_goOn 158 = .ok (.getfield 28, 3) := by decide +kernel
theorem dX9_goOn_161 : decode cX9_goOn 161 = .ok (.iload_n 3, 1) := by decide +kernel
theorem dX9_goOn_162 : decode cX9_goOn 162 = .ok (.iconst 1, 1) := by decide +kernel
theorem dX9_goOn_163 : decode cX9_goOn 163 = .ok (.iadd, 1) := by decide +kernel
theorem dX9_goOn_164 : decode cX9_goOn 164 = .ok (.iaload, 1) := by decide +kernel
theorem dX9_goOn_165 : decode cX9_goOn 165 = .ok (.if_icmp .ne 33, 3) := by decide +kernel
theorem dX9_goOn_168 : decode cX9_goOn 168 = .ok (.aload_n 0, 1) := by decide +kernel
theorem dX9_goOn_169 : decode cX9_goOn 169 = .ok (.getfield 28, 3) := by decide +kernel
theorem dX9_goOn_172 : decode cX9_goOn 172 = .ok (.iload_n 3, 1) := by decide +kernel
theorem dX9_goOn_173 : decode cX9_goOn 173 = .ok (.bipush 6, 2) := by decide +kernel
theorem dX9_goOn_175 : decode cX9_goOn 175 = .ok (.iadd, 1) := by decide +kernel
theorem dX9_goOn_176 : decode cX9_goOn 176 = .ok (.iconst 1, 1) := by decide +kernel
theorem dX9_goOn_177 : decode cX9_goOn 177 = .ok (.iastore, 1) := by decide +kernel
theorem dX9_goOn_178 : decode cX9_goOn 178 = .ok (.aload_n 0, 1) := by decide +kernel
theorem dX9_goOn_179 : decode cX9_goOn 179 = .ok (.getfield 25, 3) := by decide +kernel
theorem dX9_goOn_182 : decode cX9_goOn 182 = .ok (.iload_n 2, 1) := by decide +kernel
theorem dX9_goOn_183 : decode cX9_goOn 183 = .ok (.dup2, 1) := by decide +kernel
theorem dX9_goOn_184 : decode cX9_goOn 184 = .ok (.iaload, 1) := by decide +kernel
theorem dX9_goOn_185 : decode cX9_goOn 185 = .ok (.iconst 1, 1) := by decide +kernel
theorem dX9_goOn_186 : decode cX9_goOn 186 = .ok (.iadd, 1) := by decide +kernel
theorem dX9_goOn_187 : decode cX9_goOn 187 = .ok (.iastore, 1) := by decide +kernel
theorem dX9_goOn_188 : decode cX9_goOn 188 = .ok (.aload_n 0, 1) := by decide +kernel
theorem dX9_goOn_189 : decode cX9_goOn 189 = .ok (.dup, 1) := by decide +kernel
theorem dX9_goOn_190 : decode cX9_goOn 190 = .ok (.getfield 194, 3) := by decide +kernel
theorem dX9_goOn_193 : decode cX9_goOn 193 = .ok (.iconst 1, 1) := by decide +kernel
theorem dX9_goOn_194 : decode cX9_goOn 194 = .ok (.iadd, 1) := by decide +kernel
theorem dX9_goOn_195 : decode cX9_goOn 195 = .ok (.putfield 194, 3) := by decide +kernel
theorem dX9_goOn_198 : decode cX9_goOn 198 = .ok (.aload_n 0, 1) := by decide +kernel
theorem dX9_goOn_199 : decode cX9_goOn 199 = .ok (.getfield 28, 3) := by decide +kernel
theorem dX9_goOn_202 : decode cX9_goOn 202 = .ok (.iload_n 3, 1) := by decide +kernel
theorem dX9_goOn_203 : decode cX9_goOn 203 = .ok (.bipush 6, 2) := by decide +kernel
theorem dX9_goOn_205 : decode cX9_goOn 205 = .ok (.iadd, 1) := by decide +kernel
theorem dX9_goOn_206 : decode cX9_goOn 206 = .ok (.iaload, 1) := by decide +kernel
theorem dX9_goOn_207 : decode cX9_goOn 207 = .ok (.ireturn, 1) := by decide +kernel
theorem dX9_give_0 : decode cX9_give 0 = .ok (.aload_n 0, 1) := by decide +kernel
theorem dX9_give_1 : decode cX9_give 1 = .ok (.iload_n 1, 1) := by decide +kernel
theorem dX9_give_2 : decode cX9_give 2 = .ok (.invokevirtual 182, 3) := by decide +kernel
theorem dX9_give_5 : decode cX9_give 5 = .ok (.ifCond .eq 11, 3) := by decide +kernel
theorem dX9_give_8 : decode cX9_give 8 = .ok (.aload_n 0, 1) := by decide +kernel
theorem dX9_give_9 : decode cX9_give 9 = .ok (.iload_n 2, 1) := by decide +kernel
theorem dX9_give_10 : decode cX9_give 10 = .ok (.invokevirtual 147, 3) := by decide +kernel
theorem dX9_give_13 : decode cX9_give 13 = .ok (.ifCond .ne 6, 3) := by decide +kernel
theorem dX9_give_16 : decode cX9_give 16 = .ok (.bipush (-101), 2) := by decide +kernel
theorem dX9_give_18 : decode cX9_give 18 = .ok (.ireturn, 1) := by decide +kernel
theorem dX9_give_19 : decode cX9_give 19 = .ok (.aload_n 0, 1) := by decide +kernel
theorem dX9_give_20 : decode cX9_give 20 = .ok (.iload_n 1, 1) := by decide +kernel
theorem dX9_give_21 : decode cX9_give 21 = .ok (.invokevirtual 161, 3) := by decide +kernel
theorem dX9_give_24 : decode cX9_give 24 = .ok (.ifCond .eq 25, 3) := by decide +kernel
theorem dX9_give_27 : decode cX9_give 27 = .ok (.aload_n 0, 1) := by decide +kernel
theorem dX9_give_28 : decode cX9_give 28 = .ok (.iload_n 1, 1) := by decide +kernel
theorem dX9_give_29 : decode cX9_give 29 = .ok (.invokevirtual 191, 3) := by decide +kernel
theorem dX9_give_32 : decode cX9_give 32 = .ok (.iload_n 2, 1) := by decide +kernel
theorem dX9_give_33 : decode cX9_give 33 = .ok (.ishr, 1) := by decide +kernel
theorem dX9_give_34 : decode cX9_give 34 = .ok (.iconst 1, 1) := by decide +kernel
theorem dX9_give_35 : decode cX9_give 35 = .ok (.iand, 1) := by decide +kernel
theorem dX9_give_36 : decode cX9_give 36 = .ok (.iconst 1, 1) := by decide +kernel
theorem dX9_give_37 : decode cX9_give 37 = .ok (.if_icmp .ne 12, 3) := by decide +kernel
theorem dX9_give_40 : decode cX9_give 40 = .ok (.aload_n 0, 1) := by decide +kernel
theorem dX9_give_41 : decode cX9_give 41 = .ok (.iload_n 1, 1) := by decide +kernel
theorem dX9_give_42 : decode cX9_give 42 = .ok (.iload_n 2, 1) := by decide +kernel
theorem dX9_give_43 : decode cX9_give 43 = .ok (.invokevirtual 197, 3) := by decide +kernel
theorem dX9_give_46 : decode cX9_give 46 = .ok (.goto 5, 3) := by decide +kernel
theorem dX9_give_49 : decode cX9_give 49 = .ok (.bipush (-103), 2) := by decide +kernel
theorem dX9_give_51 : decode cX9_give 51 = .ok (.ireturn, 1) := by decide +kernel
theorem dX9_ones_0 : decode cX9_ones 0 = .ok (.iconst 0, 1) := by decide +kernel
theorem dX9_ones_1 : decode cX9_ones 1 = .ok (.istore_n 1, 1) := by decide +kernel
theorem dX9_ones_2 : decode cX9_ones 2 = .ok (.iconst 0, 1) := by decide +kernel
theorem dX9_ones_3 : decode cX9_ones 3 = .ok (.istore_n 2, 1) := by decide +kernel
theorem dX9_ones_4 : decode cX9_ones 4 = .ok (.iload_n 2, 1) := by decide +kernel
theorem dX9_ones_5 : decode cX9_ones 5 = .ok (.bipush 8, 2) := by decide +kernel
theorem dX9_ones_7 : decode cX9_ones 7 = .ok (.if_icmp .ge 17, 3) := by decide +kernel
theorem dX9_ones_10 : decode cX9_ones 10 = .ok (.iload_n 1, 1) := by decide +kernel
theorem dX9_ones_11 : decode cX9_ones 11 = .ok (.iload_n 0, 1) := by decide +kernel
theorem dX9_ones_12 : decode cX9_ones 12 = .ok (.iload_n 2, 1) := by decide +kernel
theorem dX9_ones_13 : decode cX9_ones 13 = .ok (.ishr, 1) := by decide +kernel
theorem dX9_ones_14 : decode cX9_ones 14 = .ok (.iconst 1, 1) := by decide +kernel
theorem dX9_ones_15 : decode cX9_ones 15 = .ok (.iand, 1) := by decide +kernel
theorem dX9_ones_16 : decode cX9_ones 16 = .ok (.iadd, 1) := by decide +kernel
theorem dX9_ones_17 : decode cX9_ones 17 = .ok (.istore_n 1, 1) := by decide +kernel
theorem dX9_ones_18 : decode cX9_ones 18 = .ok (.iinc 2 1, 3) := by decide +kernel
theorem dX9_ones_21 : decode cX9_ones 21 = .ok (.goto (-17), 3) := by decide +kernel
theorem dX9_ones_24 : decode cX9_ones 24 = .ok (.iload_n 1, 1) := by decide +kernel
theorem dX9_ones_25 : decode cX9_ones 25 = .ok (.ireturn, 1) := by decide +kernel
theorem dX9_byHabit_0 : decode cX9_byHabit 0 = .ok (.aload_n 0, 1) := by decide +kernel
theorem dX9_byHabit_1 : decode cX9_byHabit 1 = .ok (.getfield 13, 3) := by decide +kernel
theorem dX9_byHabit_4 : decode cX9_byHabit 4 = .ok (.iload_n 1, 1) := by decide +kernel
theorem dX9_byHabit_5 : decode cX9_byHabit 5 = .ok (.iaload, 1) := by decide +kernel
theorem dX9_byHabit_6 : decode cX9_byHabit 6 = .ok (.istore_n 3, 1) := by decide +kernel
theorem dX9_byHabit_7 : decode cX9_byHabit 7 = .ok (.iconst (-1), 1) := by decide +kernel
theorem dX9_byHabit_8 : decode cX9_byHabit 8 = .ok (.istore 4, 2) := by decide +kernel
theorem dX9_byHabit_10 : decode cX9_byHabit 10 = .ok (.iconst 0, 1) := by decide +kernel
theorem dX9_byHabit_11 : decode cX9_byHabit 11 = .ok (.istore 5, 2) := by decide +kernel
theorem dX9_byHabit_13 : decode cX9_byHabit 13 = .ok (.iload 5, 2) := by decide +kernel
theorem dX9_byHabit_15 : decode cX9_byHabit 15 = .ok (.aload_n 0, 1) := by decide +kernel
theorem dX9_byHabit_16 : decode cX9_byHabit 16 = .ok (.getfield 144, 3) := by decide +kernel
theorem dX9_byHabit_19 : decode cX9_byHabit 19 = .ok (.if_icmp .ge 127, 3) := by decide +kernel
theorem dX9_byHabit_22 : decode cX9_byHabit 22 = .ok (.iload_n 2, 1) := by decide +kernel
theorem dX9_byHabit_23 : decode cX9_byHabit 23 = .ok (.iload 5, 2) := by decide +kernel
theorem dX9_byHabit_25 : decode cX9_byHabit 25 = .ok (.ishr, 1) := by decide +kernel
theorem dX9_byHabit_26 : decode cX9_byHabit 26 = .ok (.iconst 1, 1) := by decide +kernel
theorem dX9_byHabit_27 : decode cX9_byHabit 27 = .ok (.iand, 1) := by decide +kernel
theorem dX9_byHabit_28 : decode cX9_byHabit 28 = .ok (.iconst 1, 1) := by decide +kernel
theorem dX9_byHabit_29 : decode cX9_byHabit 29 = .ok (.if_icmp .ne 111, 3) := by decide +kernel
theorem dX9_byHabit_32 : decode cX9_byHabit 32 = .ok (.iload 4, 2) := by decide +kernel
theorem dX9_byHabit_34 : decode cX9_byHabit 34 = .ok (.iconst (-1), 1) := by decide +kernel
theorem dX9_byHabit_35 : decode cX9_byHabit 35 = .ok (.if_icmp .eq 8, 3) := by decide +kernel
theorem dX9_byHabit_38 : decode cX9_byHabit 38 = .ok (.iload_n 3, 1) := by decide +kernel
theorem dX9_byHabit_39 : decode cX9_byHabit 39 = .ok (.iconst 1, 1) := by decide +kernel
theorem dX9_byHabit_40 : decode cX9_byHabit 40 = .ok (.if_icmp .ne 7, 3) := by decide +kernel
theorem dX9_byHabit_43 : decode cX9_byHabit 43 = .ok (.iconst 1, 1) := by decide +kernel
theorem dX9_byHabit_44 : decode cX9_byHabit 44 = .ok (.goto 4, 3) := by decide +kernel
theorem dX9_byHabit_47 : decode cX9_byHabit 47 = .ok (.iconst 0, 1) := by decide +kernel
theorem dX9_byHabit_48 : decode cX9_byHabit 48 = .ok (.istore 6, 2) := by decide +kernel
theorem dX9_byHabit_50 : decode cX9_byHabit 50 = .ok (.iload 6, 2) := by decide +kernel
theorem dX9_byHabit_52 : decode cX9_byHabit 52 = .ok (.ifCond .ne 35, 3) := by decide +kernel
theorem dX9_byHabit_55 : decode cX9_byHabit 55 = .ok (.iload_n 3, 1) := by decide +kernel
theorem dX9_byHabit_56 : decode cX9_byHabit 56 = .ok (.iconst 2, 1) := by decide +kernel
theorem dX9_byHabit_57 : decode cX9_byHabit 57 = .ok (.if_icmp .ne 34, 3) := by decide +kernel
theorem dX9_byHabit_60 : decode cX9_byHabit 60 = .ok (.aload_n 0, 1) := by decide +kernel
theorem dX9_byHabit_61 : decode cX9_byHabit 61 = .ok (.getfield 19, 3) := by decide +kernel
theorem dX9_byHabit_64 : decode cX9_byHabit 64 = .ok (.bipush 8, 2) := by decide +kernel
theorem dX9_byHabit_66 : decode cX9_byHabit 66 = .ok (.iload_n 1, 1) := by decide +kernel
theorem dX9_byHabit_67 : decode cX9_byHabit 67 = .ok (.imul, 1) := by decide +kernel
theorem dX9_byHabit_68 : decode cX9_byHabit 68 = .ok (.iload 5, 2) := by decide +kernel
theorem dX9_byHabit_70 : decode cX9_byHabit 70 = .ok (.iadd, 1) := by decide +kernel
theorem dX9_byHabit_71 : decode cX9_byHabit 71 = .ok (.iaload, 1) := by decide +kernel
theorem dX9_byHabit_72 : decode cX9_byHabit 72 = .ok (.aload_n 0, 1) := by decide +kernel
theorem dX9_byHabit_73 : decode cX9_byHabit 73 = .ok (.getfield 19, 3) := by decide +kernel
theorem dX9_byHabit_76 : decode cX9_byHabit 76 = .ok (.bipush 8, 2) := by decide +kernel
theorem dX9_byHabit_78 : decode cX9_byHabit 78 = .ok (.iload_n 1, 1) := by decide +kernel
theorem dX9_byHabit_79 : decode cX9_byHabit 79 = .ok (.imul, 1) := by decide +kernel
theorem dX9_byHabit_80 : decode cX9_byHabit 80 = .ok (.iload 4, 2) := by decide +kernel
theorem dX9_byHabit_82 : decode cX9_byHabit 82 = .ok (.iadd, 1) := by decide +kernel
theorem dX9_byHabit_83 : decode cX9_byHabit 83 = .ok (.iaload, 1) := by decide +kernel
theorem dX9_byHabit_84 : decode cX9_byHabit 84 = .ok (.if_icmp .le 7, 3) := by decide +kernel
theorem dX9_byHabit_87 : decode cX9_byHabit 87 = .ok (.iconst 1, 1) := by decide +kernel
theorem dX9_byHabit_88 : decode cX9_byHabit 88 = .ok (.goto 4, 3) := by decide +kernel
theorem dX9_byHabit_91 : decode cX9_byHabit 91 = .ok (.iconst 0, 1) := by decide +kernel
theorem dX9_byHabit_92 : decode cX9_byHabit 92 = .ok (.istore 6, 2) := by decide +kernel
theorem dX9_byHabit_94 : decode cX9_byHabit 94 = .ok (.iload 6, 2) := by decide +kernel
theorem dX9_byHabit_96 : decode cX9_byHabit 96 = .ok (.ifCond .ne 23, 3) := by decide +kernel
theorem dX9_byHabit_99 : decode cX9_byHabit 99 = .ok (.iload_n 3, 1) := by decide +kernel
theorem dX9_byHabit_100 : decode cX9_byHabit 100 = .ok (.iconst 3, 1) := by decide +kernel
theorem dX9_byHabit_101 : decode cX9_byHabit 101 = .ok (.if_icmp .ne 22, 3) := by decide +kernel
theorem dX9_byHabit_104 : decode cX9_byHabit 104 = .ok (.aload_n 0, 1) := by decide +kernel
theorem dX9_byHabit_105 : decode cX9_byHabit 105 = .ok (.iload 5, 2) := by decide +kernel
theorem dX9_byHabit_107 : decode cX9_byHabit 107 = .ok (.invokevirtual 164, 3) := by decide +kernel
theorem dX9_byHabit_110 : decode cX9_byHabit 110 = .ok (.aload_n 0, 1) := by decide +kernel
theorem dX9_byHabit_111 : decode cX9_byHabit 111 = .ok (.iload 4, 2) := by decide +kernel
theorem dX9_byHabit_113 : decode cX9_byHabit 113 = .ok (.invokevirtual 164, 3) := by decide +kernel
theorem dX9_byHabit_116 : decode cX9_byHabit 116 = .ok (.if_icmp .ge 7, 3) := by decide +kernel
theorem dX9_byHabit_119 : decode cX9_byHabit 119 = .ok (.iconst 1, 1) := by decide +kernel
theorem dX9_byHabit_120 : decode cX9_byHabit 120 = .ok (.goto 4, 3) := by decide +kernel
theorem dX9_byHabit_123 : decode cX9_byHabit 123 = .ok (.iconst 0, 1) := by decide +kernel
theorem dX9_byHabit_124 : decode cX9_byHabit 124 = .ok (.istore 6, 2) := by decide +kernel
theorem dX9_byHabit_126 : decode cX9_byHabit 126 = .ok (.iload 6, 2) := by decide +kernel
theorem dX9_byHabit_128 : decode cX9_byHabit 128 = .ok (.ifCond .eq 8, 3) := by decide +kernel
theorem dX9_byHabit_131 : decode cX9_byHabit 131 = .ok (.iload 5, 2) := by decide +kernel
theorem dX9_byHabit_133 : decode cX9_byHabit 133 = .ok (.goto 5, 3) := by decide +kernel
theorem dX9_byHabit_136 : decode cX9_byHabit 136 = .ok (.iload 4, 2) := by decide +kernel
theorem dX9_byHabit_138 : decode cX9_byHabit 138 = .ok (.istore 4, 2) := by decide +kernel
theorem dX9_byHabit_140 : decode cX9_byHabit 140 = .ok (.iinc 5 1, 3) := by decide +kernel
theorem dX9_byHabit_143 : decode cX9_byHabit 143 = .ok (.goto (-130), 3) := by decide +kernel
theorem dX9_byHabit_146 : decode cX9_byHabit 146 = .ok (.iload 4, 2) := by decide +kernel
theorem dX9_byHabit_148 : decode cX9_byHabit 148 = .ok (.ireturn, 1) := by decide +kernel
theorem dX9_draw_0 : decode cX9_draw 0 = .ok (.aload_n 0, 1) := by decide +kernel
theorem dX9_draw_1 : decode cX9_draw 1 = .ok (.ldc2_w 200, 3) := by decide +kernel
theorem dX9_draw_4 : decode cX9_draw 4 = .ok (.aload_n 0, 1) := by decide +kernel
theorem dX9_draw_5 : decode cX9_draw 5 = .ok (.getfield 202, 3) := by decide +kernel
theorem dX9_draw_8 : decode cX9_draw 8 = .ok (.i2l, 1) := by decide +kernel
theorem dX9_draw_9 : decode cX9_draw 9 = .ok (.lmul, 1) := by decide +kernel
theorem dX9_draw_10 : decode cX9_draw 10 = .ok (.ldc2_w 205, 3) := by decide +kernel
theorem dX9_draw_13 : decode cX9_draw 13 = .ok (.ladd, 1) := by decide +kernel
theorem dX9_draw_14 : decode cX9_draw 14 = .ok (.ldc2_w 207, 3) := by decide +kernel
theorem dX9_draw_17 : decode cX9_draw 17 = .ok (.land, 1) := by decide +kernel
theorem dX9_draw_18 : decode cX9_draw 18 = .ok (.l2i, 1) := by decide +kernel
theorem dX9_draw_19 : decode cX9_draw 19 = .ok (.putfield 202, 3) := by decide +kernel
theorem dX9_draw_22 : decode cX9_draw 22 = .ok (.aload_n 0, 1) := by decide +kernel
theorem dX9_draw_23 : decode cX9_draw 23 = .ok (.getfield 202, 3) := by decide +kernel
theorem dX9_draw_26 : decode cX9_draw 26 = .ok (.ldc 209, 2) := by decide +kernel
theorem dX9_draw_28 : decode cX9_draw 28 = .ok (.idiv, 1) := by decide +kernel
theorem dX9_draw_29 : decode cX9_draw 29 = .ok (.iload_n 1, 1) := by decide +kernel
theorem dX9_draw_30 : decode cX9_draw 30 = .ok (.irem, 1) := by decide +kernel
theorem dX9_draw_31 : decode cX9_draw 31 = .ok (.ireturn, 1) := by decide +kernel
theorem dX9_byDraw_0 : decode cX9_byDraw 0 = .ok (.aload_n 0, 1) := by decide +kernel
theorem dX9_byDraw_1 : decode cX9_byDraw 1 = .ok (.iload_n 1, 1) := by decide +kernel
theorem dX9_byDraw_2 : decode cX9_byDraw 2 = .ok (.invokestatic 210, 3) := by decide +kernel
theorem dX9_byDraw_5 : decode cX9_byDraw 5 = .ok (.invokevirtual 213, 3) := by decide +kernel
theorem dX9_byDraw_8 : decode cX9_byDraw 8 = .ok (.istore_n 2, 1) := by decide +kernel
theorem dX9_byDraw_9 : decode cX9_byDraw 9 = .ok (.iconst 0, 1) := by decide +kernel
theorem dX9_byDraw_10 : decode cX9_byDraw 10 = .ok (.istore_n 3, 1) := by decide +kernel
theorem dX9_byDraw_11 : decode cX9_byDraw 11 = .ok (.iload_n 1, 1) := by decide +kernel
theorem dX9_byDraw_12 : decode cX9_byDraw 12 = .ok (.iload_n 3, 1) := by decide +kernel
theorem dX9_byDraw_13 : decode cX9_byDraw 13 = .ok (.ishr, 1) := by decide +kernel
theorem dX9_byDraw_14 : decode cX9_byDraw 14 = .ok (.iconst 1, 1) := by decide +kernel
theorem dX9_byDraw_15 : decode cX9_byDraw 15 = .ok (.iand, 1) := by decide +kernel
theorem dX9_byDraw_16 : decode cX9_byDraw 16 = .ok (.ifCond .eq 7, 3) := by decide +kernel
theorem dX9_byDraw_19 : decode cX9_byDraw 19 = .ok (.iload_n 2, 1) := by decide +kernel
theorem dX9_byDraw_20 : decode cX9_byDraw 20 = .ok (.ifCond .le 17, 3) := by decide +kernel
theorem dX9_byDraw_23 : decode cX9_byDraw 23 = .ok (.iload_n 2, 1) := by decide +kernel
theorem dX9_byDraw_24 : decode cX9_byDraw 24 = .ok (.iload_n 1, 1) := by decide +kernel
theorem dX9_byDraw_25 : decode cX9_byDraw 25 = .ok (.iload_n 3, 1) := by decide +kernel
theorem dX9_byDraw_26 : decode cX9_byDraw 26 = .ok (.ishr, 1) := by decide +kernel
theorem dX9_byDraw_27 : decode cX9_byDraw 27 = .ok (.iconst 1, 1) := by decide +kernel
theorem dX9_byDraw_28 : decode cX9_byDraw 28 = .ok (.iand, 1) := by decide +kernel
theorem dX9_byDraw_29 : decode cX9_byDraw 29 = .ok (.isub, 1) := by decide +kernel
theorem dX9_byDraw_30 : decode cX9_byDraw 30 = .ok (.istore_n 2, 1) := by decide +kernel
theorem dX9_byDraw_31 : decode cX9_byDraw 31 = .ok (.iinc 3 1, 3) := by decide +kernel
theorem dX9_byDraw_34 : decode cX9_byDraw 34 = .ok (.goto (-23), 3) := by decide +kernel
theorem dX9_byDraw_37 : decode cX9_byDraw 37 = .ok (.iload_n 3, 1) := by decide +kernel
theorem dX9_byDraw_38 : decode cX9_byDraw 38 = .ok (.ireturn, 1) := by decide +kernel
theorem dX9_year_0 : decode cX9_year 0 = .ok (.iconst 0, 1) := by decide +kernel
theorem dX9_year_1 : decode cX9_year 1 = .ok (.istore_n 2, 1) := by decide +kernel
theorem dX9_year_2 : decode cX9_year 2 = .ok (.iload_n 2, 1) := by decide +kernel
theorem dX9_year_3 : decode cX9_year 3 = .ok (.bipush 8, 2) := by decide +kernel
theorem dX9_year_5 : decode cX9_year 5 = .ok (.if_icmp .ge 51, 3) := by decide +kernel
theorem dX9_year_8 : decode cX9_year 8 = .ok (.aload_n 0, 1) := by decide +kernel
theorem dX9_year_9 : decode cX9_year 9 = .ok (.getfield 31, 3) := by decide +kernel
theorem dX9_year_12 : decode cX9_year 12 = .ok (.iload_n 2, 1) := by decide +kernel
theorem dX9_year_13 : decode cX9_year 13 = .ok (.iconst 0, 1) := by decide +kernel
theorem dX9_year_14 : decode cX9_year 14 = .ok (.iastore, 1) := by decide +kernel
theorem dX9_year_15 : decode cX9_year 15 = .ok (.aload_n 0, 1) := by decide +kernel
theorem dX9_year_16 : decode cX9_year 16 = .ok (.getfield 28, 3) := by decide +kernel
theorem dX9_year_19 : decode cX9_year 19 = .ok (.bipush 8, 2) := by decide +kernel
theorem dX9_year_21 : decode cX9_year 21 = .ok (.iload_n 2, 1) := by decide +kernel
theorem dX9_year_22 : decode cX9_year 22 = .ok (.imul, 1) := by decide +kernel
theorem dX9_year_23 : decode cX9_year 23 = .ok (.iconst 5, 1) := by decide +kernel
theorem dX9_year_24 : decode cX9_year 24 = .ok (.iadd, 1) := by decide +kernel
theorem dX9_year_25 : decode cX9_year 25 = .ok (.dup2, 1) := by decide +kernel
theorem dX9_year_26 : decode cX9_year 26 = .ok (.iaload, 1) := by decide +kernel
theorem dX9_year_27 : decode cX9_year 27 = .ok (.iload_n 2, 1) := by decide +kernel
theorem dX9_year_28 : decode cX9_year 28 = .ok (.aload_n 0, 1) := by decide +kernel
theorem dX9_year_29 : decode cX9_year 29 = .ok (.getfield 158, 3) := by decide +kernel
theorem dX9_year_32 : decode cX9_year 32 = .ok (.if_icmp .ge 15, 3) := by decide +kernel
theorem dX9_year_35 : decode cX9_year 35 = .ok (.aload_n 0, 1) := by decide +kernel
theorem dX9_year_36 : decode cX9_year 36 = .ok (.iload_n 2, 1) := by decide +kernel
theorem dX9_year_37 : decode cX9_year 37 = .ok (.invokevirtual 161, 3) := by decide +kernel
theorem dX9_year_40 : decode cX9_year 40 = .ok (.ifCond .eq 7, 3) := by decide +kernel
theorem dX9_year_43 : decode cX9_year 43 = .ok (.iconst 1, 1) := by decide +kernel
theorem dX9_year_44 : decode cX9_year 44 = .ok (.goto 4, 3) := by decide +kernel
theorem dX9_year_47 : decode cX9_year 47 = .ok (.iconst 0, 1) := by decide +kernel
theorem dX9_year_48 : decode cX9_year 48 = .ok (.iadd, 1) := by decide +kernel
theorem dX9_year_49 : decode cX9_year 49 = .ok (.iastore, 1) := by decide +kernel
theorem dX9_year_50 : decode cX9_year 50 = .ok (.iinc 2 1, 3) := by decide +kernel
theorem dX9_year_53 : decode cX9_year 53 = .ok (.goto (-51), 3) := by decide +kernel
theorem dX9_year_56 : decode cX9_year 56 = .ok (.iconst 0, 1) := by decide +kernel
theorem dX9_year_57 : decode cX9_year 57 = .ok (.istore_n 2, 1) := by decide +kernel
theorem dX9_year_58 : decode cX9_year 58 = .ok (.iconst 0, 1) := by decide +kernel
theorem dX9_year_59 : decode cX9_year 59 = .ok (.istore_n 3, 1) := by decide +kernel
theorem dX9_year_60 : decode cX9_year 60 = .ok (.iload_n 3, 1) := by decide +kernel
theorem dX9_year_61 : decode cX9_year 61 = .ok (.aload_n 0, 1) := by decide +kernel
theorem dX9_year_62 : decode cX9_year 62 = .ok (.getfield 158, 3) := by decide +kernel
theorem dX9_year_65 : decode cX9_year 65 = .ok (.if_icmp .ge 155, 3) := by decide +kernel
theorem dX9_year_68 : decode cX9_year 68 = .ok (.aload_n 0, 1) := by decide +kernel
theorem dX9_year_69 : decode cX9_year 69 = .ok (.getfield 28, 3) := by decide +kernel
theorem dX9_year_72 : decode cX9_year 72 = .ok (.bipush 8, 2) := by decide +kernel
theorem dX9_year_74 : decode cX9_year 74 = .ok (.iload_n 3, 1) := by decide +kernel
theorem dX9_year_75 : decode cX9_year 75 = .ok (.imul, 1) := by decide +kernel
theorem dX9_year_76 : decode cX9_year 76 = .ok (.iconst 2, 1) := by decide +kernel
theorem dX9_year_77 : decode cX9_year 77 = .ok (.iadd, 1) := by decide +kernel
theorem dX9_year_78 : decode cX9_year 78 = .ok (.iaload, 1) := by decide +kernel
theorem dX9_year_79 : decode cX9_year 79 = .ok (.istore 4, 2) := by decide +kernel
theorem dX9_year_81 : decode cX9_year 81 = .ok (.aload_n 0, 1) := by decide +kernel
theorem dX9_year_82 : decode cX9_year 82 = .ok (.iload_n 3, 1) := by decide +kernel
theorem dX9_year_83 : decode cX9_year 83 = .ok (.invokevirtual 161, 3) := by decide +kernel
theorem dX9_year_86 : decode cX9_year 86 = .ok (.ifCond .eq 44, 3) := by decide +kernel
theorem dX9_year_89 : decode cX9_year 89 = .ok (.aload_n 0, 1) := by decide +kernel
theorem dX9_year_90 : decode cX9_year 90 = .ok (.getfield 28, 3) := by decide +kernel
theorem dX9_year_93 : decode cX9_year 93 = .ok (.bipush 8, 2) := by decide +kernel
theorem dX9_year_95 : decode cX9_year 95 = .ok (.iload_n 3, 1) := by decide +kernel
theorem dX9_year_96 : decode cX9_year 96 = .ok (.imul, 1) := by decide +kernel
theorem dX9_year_97 : decode cX9_year 97 = .ok (.iconst 5, 1) := by decide +kernel
theorem dX9_year_98 : decode cX9_year 98 = .ok (.iadd, 1) := by decide +kernel
theorem dX9_year_99 : decode cX9_year 99 = .ok (.iaload, 1) := by decide +kernel
theorem dX9_year_100 : decode cX9_year 100 = .ok (.aload_n 0, 1) := by decide +kernel
theorem dX9_year_101 : decode cX9_year 101 = .ok (.getfield 84, 3) := by decide +kernel
theorem dX9_year_104 : decode cX9_year 104 = .ok (.aload_n 0, 1) := by decide +kernel
theorem dX9_year_105 : decode cX9_year 105 = .ok (.getfield 28, 3) := by decide +kernel
theorem dX9_year_108 : decode cX9_year 108 = .ok (.bipush 8, 2) := by decide +kernel
theorem dX9_year_110 : decode cX9_year 110 = .ok (.iload_n 3, 1) := by decide +kernel
theorem dX9_year_111 : decode cX9_year 111 = .ok (.imul, 1) := by decide +kernel
theorem dX9_year_112 : decode cX9_year 112 = .ok (.iaload, 1) := by decide +kernel
theorem dX9_year_113 : decode cX9_year 113 = .ok (.iconst 3, 1) := by decide +kernel
theorem dX9_year_114 : decode cX9_year 114 = .ok (.if_icmp .ne 7, 3) := by decide +kernel
theorem dX9_year_117 : decode cX9_year 117 = .ok (.iconst 1, 1) := by decide +kernel
theorem dX9_year_118 : decode cX9_year 118 = .ok (.goto 4, 3) := by decide +kernel
theorem dX9_year_121 : decode cX9_year 121 = .ok (.iconst 0, 1) := by decide +kernel
theorem dX9_year_122 : decode cX9_year 122 = .ok (.iadd, 1) := by decide +kernel
theorem dX9_year_123 : decode cX9_year 123 = .ok (.if_icmp .lt 7, 3) := by decide +kernel
theorem dX9_year_126 : decode cX9_year 126 = .ok (.iconst 1, 1) := by decide +kernel
theorem dX9_year_127 : decode cX9_year 127 = .ok (.goto 4, 3) := by decide +kernel
theorem dX9_year_130 : decode cX9_year 130 = .ok (.iconst 0, 1) := by decide +kernel
theorem dX9_year_131 : decode cX9_year 131 = .ok (.istore 5, 2) := by decide +kernel
theorem dX9_year_133 : decode cX9_year 133 = .ok (.iload 5, 2) := by decide +kernel
theorem dX9_year_135 : decode cX9_year 135 = .ok (.ifCond .eq 11, 3) := by decide +kernel
theorem dX9_year_138 : decode cX9_year 138 = .ok (.aload_n 0, 1) := by decide +kernel
theorem dX9_year_139 : decode cX9_year 139 = .ok (.iload_n 3, 1) := by decide +kernel
theorem dX9_year_140 : decode cX9_year 140 = .ok (.invokevirtual 191, 3) := by decide +kernel
theorem dX9_year_143 : decode cX9_year 143 = .ok (.goto 4, 3) := by decide +kernel
theorem dX9_year_146 : decode cX9_year 146 = .ok (.iconst 0, 1) := by decide +kernel
theorem dX9_year_147 : decode cX9_year 147 = .ok (.istore 6, 2) := by decide +kernel
theorem dX9_year_149 : decode cX9_year 149 = .ok (.iload 6, 2) := by decide +kernel
theorem dX9_year_151 : decode cX9_year 151 = .ok (.ifCond .eq 63, 3) := by decide +kernel
theorem dX9_year_154 : decode cX9_year 154 = .ok (.aload_n 0, 1) := by decide +kernel
theorem dX9_year_155 : decode cX9_year 155 = .ok (.getfield 134, 3) := by decide +kernel
theorem dX9_year_158 : decode cX9_year 158 = .ok (.ifCond .eq 13, 3) := by decide +kernel
theorem dX9_year_161 : decode cX9_year 161 = .ok (.aload_n 0, 1) := by decide +kernel
theorem dX9_year_162 : decode cX9_year 162 = .ok (.getfield 31, 3) := by decide +kernel
theorem dX9_year_165 : decode cX9_year 165 = .ok (.iload 4, 2) := by decide +kernel
theorem dX9_year_167 : decode cX9_year 167 = .ok (.iaload, 1) := by decide +kernel
theorem dX9_year_168 : decode cX9_year 168 = .ok (.ifCond .ne 46, 3) := by decide +kernel
theorem dX9_year_171 : decode cX9_year 171 = .ok (.iload_n 1, 1) := by decide +kernel
theorem dX9_year_172 : decode cX9_year 172 = .ok (.ifCond .eq 12, 3) := by decide +kernel
theorem dX9_year_175 : decode cX9_year 175 = .ok (.aload_n 0, 1) := by decide +kernel
theorem dX9_year_176 : decode cX9_year 176 = .ok (.iload 6, 2) := by decide +kernel
theorem dX9_year_178 : decode cX9_year 178 = .ok (.invokevirtual 216, 3) := by decide +kernel
theorem dX9_year_181 : decode cX9_year 181 = .ok (.goto 11, 3) := by decide +kernel
theorem dX9_year_184 : decode cX9_year 184 = .ok (.aload_n 0, 1) := by decide +kernel
theorem dX9_year_185 : decode cX9_year 185 = .ok (.iload 4, 2) := by decide +kernel
theorem dX9_year_187 : decode cX9_year 187 = .ok (.iload 6, 2) := by decide +kernel
theorem dX9_year_189 : decode cX9_year 189 = .ok (.invokevirtual 219, 3) := by decide +kernel
theorem dX9_year_192 : decode cX9_year 192 = .ok (.istore 7, 2) := by decide +kernel
theorem dX9_year_194 : decode cX9_year 194 = .ok (.aload_n 0, 1) := by decide +kernel
theorem dX9_year_195 : decode cX9_year 195 = .ok (.iload_n 3, 1) := by decide +kernel
theorem dX9_year_196 : decode cX9_year 196 = .ok (.iload 7, 2) := by decide +kernel
theorem dX9_year_198 : decode cX9_year 198 = .ok (.invokevirtual 197, 3) := by decide +kernel
theorem dX9_year_201 : decode cX9_year 201 = .ok (.istore 8, 2) := by decide +kernel
theorem dX9_year_203 : decode cX9_year 203 = .ok (.aload_n 0, 1) := by decide +kernel
theorem dX9_year_204 : decode cX9_year 204 = .ok (.getfield 31, 3) := by decide +kernel
theorem dX9_year_207 : decode cX9_year 207 = .ok (.iload 4, 2) := by decide +kernel
theorem dX9_year_209 : decode cX9_year 209 = .ok (.iconst 1, 1) := by decide +kernel
theorem dX9_year_210 : decode cX9_year 210 = .ok (.iastore, 1) := by decide +kernel
theorem dX9_year_211 : decode cX9_year 211 = .ok (.iinc 2 1, 3) := by decide +kernel
theorem dX9_year_214 : decode cX9_year 214 = .ok (.iinc 3 1, 3) := by decide +kernel
theorem dX9_year_217 : decode cX9_year 217 = .ok (.goto (-157), 3) := by decide +kernel
theorem dX9_year_220 : decode cX9_year 220 = .ok (.aload_n 0, 1) := by decide +kernel
theorem dX9_year_221 : decode cX9_year 221 = .ok (.dup, 1) := by decide +kernel
theorem dX9_year_222 : decode cX9_year 222 = .ok (.getfield 222, 3) := by decide +kernel
theorem dX9_year_225 : decode cX9_year 225 = .ok (.iconst 1, 1) := by decide +kernel
theorem dX9_year_226 : decode cX9_year 226 = .ok (.iadd, 1) := by decide +kernel
theorem dX9_year_227 : decode cX9_year 227 = .ok (.putfield 222, 3) := by decide +kernel
theorem dX9_year_230 : decode cX9_year 230 = .ok (.iload_n 2, 1) := by decide +kernel
theorem dX9_year_231 : decode cX9_year 231 = .ok (.ireturn, 1) := by decide +kernel
theorem dX9_years_0 : decode cX9_years 0 = .ok (.iload_n 1, 1) := by decide +kernel
theorem dX9_years_1 : decode cX9_years 1 = .ok (.i2l, 1) := by decide +kernel
theorem dX9_years_2 : decode cX9_years 2 = .ok (.lconst 1, 1) := by decide +kernel
theorem dX9_years_3 : decode cX9_years 3 = .ok (.ldc2_w 225, 3) := by decide +kernel
theorem dX9_years_6 : decode cX9_years 6 = .ok (.invokestatic 108, 3) := by decide +kernel
theorem dX9_years_9 : decode cX9_years 9 = .ok (.ifCond .ne 6, 3) := by decide +kernel
theorem dX9_years_12 : decode cX9_years 12 = .ok (.bipush (-102), 2) := by decide +kernel
theorem dX9_years_14 : decode cX9_years 14 = .ok (.ireturn, 1) := by decide +kernel
theorem dX9_years_15 : decode cX9_years 15 = .ok (.iconst 0, 1) := by decide +kernel
theorem dX9_years_16 : decode cX9_years 16 = .ok (.istore_n 2, 1) := by decide +kernel
theorem dX9_years_17 : decode cX9_years 17 = .ok (.iconst 0, 1) := by decide +kernel
theorem dX9_years_18 : decode cX9_years 18 = .ok (.istore_n 3, 1) := by decide +kernel
theorem dX9_years_19 : decode cX9_years 19 = .ok (.iload_n 3, 1) := by decide +kernel
theorem dX9_years_20 : decode cX9_years 20 = .ok (.iload_n 1, 1) := by decide +kernel
theorem dX9_years_21 : decode cX9_years 21 = .ok (.if_icmp .ge 21, 3) := by decide +kernel
theorem dX9_years_24 : decode cX9_years 24 = .ok (.aload_n 0, 1) := by decide +kernel
theorem dX9_years_25 : decode cX9_years 25 = .ok (.iconst 0, 1) := by decide +kernel
theorem dX9_years_26 : decode cX9_years 26 = .ok (.invokevirtual 227, 3) := by decide +kernel
theorem dX9_years_29 : decode cX9_years 29 = .ok (.istore 4, 2) := by decide +kernel
theorem dX9_years_31 : decode cX9_years 31 = .ok (.iload_n 2, 1) := by decide +kernel
theorem dX9_years_32 : decode cX9_years 32 = .ok (.iload 4, 2) := by decide +kernel
theorem dX9_years_34 : decode cX9_years 34 = .ok (.iadd, 1) := by decide +kernel
theorem dX9_years_35 : decode cX9_years 35 = .ok (.istore_n 2, 1) := by decide +kernel
theorem dX9_years_36 : decode cX9_years 36 = .ok (.iinc 3 1, 3) := by decide +kernel
theorem dX9_years_39 : decode cX9_years 39 = .ok (.goto (-20), 3) := by decide +kernel
theorem dX9_years_42 : decode cX9_years 42 = .ok (.iload_n 2, 1) := by decide +kernel
theorem dX9_years_43 : decode cX9_years 43 = .ok (.ireturn, 1) := by decide +kernel
theorem dX9_goAll_0 : decode cX9_goAll 0 = .ok (.iconst 0, 1) := by decide +kernel
theorem dX9_goAll_1 : decode cX9_goAll 1 = .ok (.istore_n 3, 1) := by decide +kernel
theorem dX9_goAll_2 : decode cX9_goAll 2 = .ok (.iload_n 3, 1) := by decide +kernel
theorem dX9_goAll_3 : decode cX9_goAll 3 = .ok (.bipush 72, 2) := by decide +kernel
theorem dX9_goAll_5 : decode cX9_goAll 5 = .ok (.if_icmp .ge 16, 3) := by decide +kernel
theorem dX9_goAll_8 : decode cX9_goAll 8 = .ok (.aload_n 0, 1) := by decide +kernel
theorem dX9_goAll_9 : decode cX9_goAll 9 = .ok (.getfield 38, 3) := by decide +kernel
theorem dX9_goAll_12 : decode cX9_goAll 12 = .ok (.iload_n 3, 1) := by decide +kernel
theorem dX9_goAll_13 : decode cX9_goAll 13 = .ok (.lconst 0, 1) := by decide +kernel
theorem dX9_goAll_14 : decode cX9_goAll 14 = .ok (.lastore, 1) := by decide +kernel
theorem dX9_goAll_15 : decode cX9_goAll 15 = .ok (.iinc 3 1, 3) := by decide +kernel
theorem dX9_goAll_18 : decode cX9_goAll 18 = .ok (.goto (-16), 3) := by decide +kernel
theorem dX9_goAll_21 : decode cX9_goAll 21 = .ok (.lconst 0, 1) := by decide +kernel
theorem dX9_goAll_22 : decode cX9_goAll 22 = .ok (.lstore_n 3, 1) := by decide +kernel
theorem dX9_goAll_23 : decode cX9_goAll 23 = .ok (.iconst 0, 1) := by decide +kernel
theorem dX9_goAll_24 : decode cX9_goAll 24 = .ok (.istore 5, 2) := by decide +kernel
theorem dX9_goAll_26 : decode cX9_goAll 26 = .ok (.iload 5, 2) := by decide +kernel
theorem dX9_goAll_28 : decode cX9_goAll 28 = .ok (.bipush 72, 2) := by decide +kernel
theorem dX9_goAll_30 : decode cX9_goAll 30 = .ok (.if_icmp .ge 193, 3) := by decide +kernel
theorem dX9_goAll_33 : decode cX9_goAll 33 = .ok (.iload 5, 2) := by decide +kernel
theorem dX9_goAll_35 : decode cX9_goAll 35 = .ok (.bipush 9, 2) := by decide +kernel
theorem dX9_goAll_37 : decode cX9_goAll 37 = .ok (.idiv, 1) := by decide +kernel
theorem dX9_goAll_38 : decode cX9_goAll 38 = .ok (.istore 6, 2) := by decide +kernel
theorem dX9_goAll_40 : decode cX9_goAll 40 = .ok (.aload_n 0, 1) := by decide +kernel
theorem dX9_goAll_41 : decode cX9_goAll 41 = .ok (.getfield 34, 3) := by decide +kernel
theorem dX9_goAll_44 : decode cX9_goAll 44 = .ok (.iload 5, 2) := by decide +kernel
theorem dX9_goAll_46 : decode cX9_goAll 46 = .ok (.laload, 1) := by decide +kernel
theorem dX9_goAll_47 : decode cX9_goAll 47 = .ok (.lconst 0, 1) := by decide +kernel
theorem dX9_goAll_48 : decode cX9_goAll 48 = .ok (.lcmp, 1) := by decide +kernel
theorem dX9_goAll_49 : decode cX9_goAll 49 = .ok (.ifCond .le 31, 3) := by decide +kernel
theorem dX9_goAll_52 : decode cX9_goAll 52 = .ok (.aload_n 0, 1) := by decide +kernel
theorem dX9_goAll_53 : decode cX9_goAll 53 = .ok (.iload 6, 2) := by decide +kernel
theorem dX9_goAll_55 : decode cX9_goAll 55 = .ok (.iload 5, 2) := by decide +kernel
theorem dX9_goAll_57 : decode cX9_goAll 57 = .ok (.bipush 9, 2) := by decide +kernel
theorem dX9_goAll_59 : decode cX9_goAll 59 = .ok (.irem, 1) := by decide +kernel
theorem dX9_goAll_60 : decode cX9_goAll 60 = .ok (.bipush 8, 2) := by decide +kernel
theorem dX9_goAll_62 : decode cX9_goAll 62 = .ok (.if_icmp .ne 7, 3) := by decide +kernel
theorem dX9_goAll_65 : decode cX9_goAll 65 = .ok (.iconst (-1), 1) := by decide +kernel
theorem dX9_goAll_66 : decode cX9_goAll 66 = .ok (.goto 8, 3) := by decide +kernel
theorem dX9_goAll_69 : decode cX9_goAll 69 = .ok (.iload 5, 2) := by decide +kernel
theorem dX9_goAll_71 : decode cX9_goAll 71 = .ok (.bipush 9, 2) := by decide +kernel
theorem dX9_goAll_73 : decode cX9_goAll 73 = .ok (.irem, 1) := by decide +kernel
theorem dX9_goAll_74 : decode cX9_goAll 74 = .ok (.invokevirtual 188, 3) := by decide +kernel
theorem dX9_goAll_77 : decode cX9_goAll 77 = .ok (.goto 4, 3) := by decide +kernel
theorem dX9_goAll_80 : decode cX9_goAll 80 = .ok (.iconst 0, 1) := by decide +kernel
theorem dX9_goAll_81 : decode cX9_goAll 81 = .ok (.istore 7, 2) := by decide +kernel
theorem dX9_goAll_83 : decode cX9_goAll 83 = .ok (.aload_n 0, 1) := by decide +kernel
theorem dX9_goAll_84 : decode cX9_goAll 84 = .ok (.getfield 34, 3) := by decide +kernel
theorem dX9_goAll_87 : decode cX9_goAll 87 = .ok (.iload 5, 2) := by decide +kernel
theorem dX9_goAll_89 : decode cX9_goAll 89 = .ok (.laload, 1) := by decide +kernel
theorem dX9_goAll_90 : decode cX9_goAll 90 = .ok (.iload_n 2, 1) := by decide +kernel
theorem dX9_goAll_91 : decode cX9_goAll 91 = .ok (.ifCond .eq 24, 3) := by decide +kernel
theorem dX9_goAll_94 : decode cX9_goAll 94 = .ok (.sipush 420, 3) := by decide +kernel
theorem dX9_goAll_97 : decode cX9_goAll 97 = .ok (.iload 7, 2) := by decide +kernel
theorem dX9_goAll_99 : decode cX9_goAll 99 = .ok (.ifCond .ne 7, 3) := by decide +kernel
theorem dX9_goAll_102 : decode cX9_goAll 102 = .ok (.iconst 1, 1) := by decide +kernel
theorem dX9_goAll_103 : decode cX9_goAll 103 = .ok (.goto 8, 3) := by decide +kernel
theorem dX9_goAll_106 : decode cX9_goAll 106 = .ok (.iload 7, 2) := by decide +kernel
theorem dX9_goAll_108 : decode cX9_goAll 108 = .ok (.invokestatic 210, 3) := by decide +kernel
theorem dX9_goAll_111 : decode cX9_goAll 111 = .ok (.idiv, 1) := by decide +kernel
theorem dX9_goAll_112 : decode cX9_goAll 112 = .ok (.goto 4, 3) := by decide +kernel
theorem dX9_goAll_115 : decode cX9_goAll 115 = .ok (.iconst 1, 1) := by decide +kernel
theorem dX9_goAll_116 : decode cX9_goAll 116 = .ok (.i2l, 1) := by decide +kernel
theorem dX9_goAll_117 : decode cX9_goAll 117 = .ok (.lmul, 1) := by decide +kernel
theorem dX9_goAll_118 : decode cX9_goAll 118 = .ok (.lstore 8, 2) := by decide +kernel
theorem dX9_goAll_120 : decode cX9_goAll 120 = .ok (.aload_n 0, 1) := by decide +kernel
theorem dX9_goAll_121 : decode cX9_goAll 121 = .ok (.getfield 38, 3) := by decide +kernel
theorem dX9_goAll_124 : decode cX9_goAll 124 = .ok (.iload 5, 2) := by decide +kernel
theorem dX9_goAll_126 : decode cX9_goAll 126 = .ok (.dup2, 1) := by decide +kernel
theorem dX9_goAll_127 : decode cX9_goAll 127 = .ok (.laload, 1) := by decide +kernel
theorem dX9_goAll_128 : decode cX9_goAll 128 = .ok (.iload_n 2, 1) := by decide +kernel
theorem dX9_goAll_129 : decode cX9_goAll 129 = .ok (.ifCond .eq 13, 3) := by decide +kernel
theorem dX9_goAll_132 : decode cX9_goAll 132 = .ok (.iload 7, 2) := by decide +kernel
theorem dX9_goAll_134 : decode cX9_goAll 134 = .ok (.ifCond .ne 8, 3) := by decide +kernel
theorem dX9_goAll_137 : decode cX9_goAll 137 = .ok (.lload 8, 2) := by decide +kernel
theorem dX9_goAll_139 : decode cX9_goAll 139 = .ok (.goto 4, 3) := by decide +kernel
theorem dX9_goAll_142 : decode cX9_goAll 142 = .ok (.lconst 0, 1) := by decide +kernel
theorem dX9_goAll_143 : decode cX9_goAll 143 = .ok (.ladd, 1) := by decide +kernel
theorem dX9_goAll_144 : decode cX9_goAll 144 = .ok (.lastore, 1) := by decide +kernel
theorem dX9_goAll_145 : decode cX9_goAll 145 = .ok (.iconst 0, 1) := by decide +kernel
theorem dX9_goAll_146 : decode cX9_goAll 146 = .ok (.istore 10, 2) := by decide +kernel
theorem dX9_goAll_148 : decode cX9_goAll 148 = .ok (.iload 10, 2) := by decide +kernel
theorem dX9_goAll_150 : decode cX9_goAll 150 = .ok (.aload_n 0, 1) := by decide +kernel
theorem dX9_goAll_151 : decode cX9_goAll 151 = .ok (.getfield 144, 3) := by decide +kernel
theorem dX9_goAll_154 : decode cX9_goAll 154 = .ok (.if_icmp .ge 63, 3) := by decide +kernel
theorem dX9_goAll_157 : decode cX9_goAll 157 = .ok (.iload 7, 2) := by decide +kernel
theorem dX9_goAll_159 : decode cX9_goAll 159 = .ok (.iload 10, 2) := by decide +kernel
theorem dX9_goAll_161 : decode cX9_goAll 161 = .ok (.ishr, 1) := by decide +kernel
theorem dX9_goAll_162 : decode cX9_goAll 162 = .ok (.iconst 1, 1) := by decide +kernel
theorem dX9_goAll_163 : decode cX9_goAll 163 = .ok (.iand, 1) := by decide +kernel
theorem dX9_goAll_164 : decode cX9_goAll 164 = .ok (.iconst 1, 1) := by decide +kernel
theorem dX9_goAll_165 : decode cX9_goAll 165 = .ok (.if_icmp .ne 46, 3) := by decide +kernel
theorem dX9_goAll_168 : decode cX9_goAll 168 = .ok (.lload_n 3, 1) := by decide +kernel
theorem dX9_goAll_169 : decode cX9_goAll 169 = .ok (.iload 10, 2) := by decide +kernel
theorem dX9_goAll_171 : decode cX9_goAll 171 = .ok (.iload_n 1, 1) := by decide +kernel
theorem dX9_goAll_172 : decode cX9_goAll 172 = .ok (.if_icmp .ne 8, 3) := by decide +kernel
theorem dX9_goAll_175 : decode cX9_goAll 175 = .ok (.lload 8, 2) := by decide +kernel
theorem dX9_goAll_177 : decode cX9_goAll 177 = .ok (.goto 4, 3) := by decide +kernel
theorem dX9_goAll_180 : decode cX9_goAll 180 = .ok (.lconst 0, 1) := by decide +kernel
theorem dX9_goAll_181 : decode cX9_goAll 181 = .ok (.ladd, 1) := by decide +kernel
theorem dX9_goAll_182 : decode cX9_goAll 182 = .ok (.lstore_n 3, 1) := by decide +kernel
theorem dX9_goAll_183 : decode cX9_goAll 183 = .ok (.aload_n 0, 1) := by decide +kernel
theorem dX9_goAll_184 : decode cX9_goAll 184 = .ok (.getfield 38, 3) := by decide +kernel
theorem dX9_goAll_187 : decode cX9_goAll 187 = .ok (.bipush 9, 2) := by decide +kernel
theorem dX9_goAll_189 : decode cX9_goAll 189 = .ok (.iload 10, 2) := by decide +kernel
theorem dX9_goAll_191 : decode cX9_goAll 191 = .ok (.imul, 1) := by decide +kernel
theorem dX9_goAll_192 : decode cX9_goAll 192 = .ok (.iload 6, 2) := by decide +kernel
theorem dX9_goAll_194 : decode cX9_goAll 194 = .ok (.iadd, 1) := by decide +kernel
theorem dX9_goAll_195 : decode cX9_goAll 195 = .ok (.dup2, 1) := by decide +kernel
theorem dX9_goAll_196 : decode cX9_goAll 196 = .ok (.laload, 1) := by decide +kernel
theorem dX9_goAll_197 : decode cX9_goAll 197 = .ok (.iload 10, 2) := by decide +kernel
theorem dX9_goAll_199 : decode cX9_goAll 199 = .ok (.iload_n 1, 1) := by decide +kernel
theorem dX9_goAll_200 : decode cX9_goAll 200 = .ok (.if_icmp .ne 7, 3) := by decide +kernel
theorem dX9_goAll_203 : decode cX9_goAll 203 = .ok (.lconst 0, 1) := by decide +kernel
theorem dX9_goAll_204 : decode cX9_goAll 204 = .ok (.goto 5, 3) := by decide +kernel
theorem dX9_goAll_207 : decode cX9_goAll 207 = .ok (.lload 8, 2) := by decide +kernel
theorem dX9_goAll_209 : decode cX9_goAll 209 = .ok (.ladd, 1) := by decide +kernel
theorem dX9_goAll_210 : decode cX9_goAll 210 = .ok (.lastore, 1) := by decide +kernel
theorem dX9_goAll_211 : decode cX9_goAll 211 = .ok (.iinc 10 1, 3) := by decide +kernel
theorem dX9_goAll_214 : decode cX9_goAll 214 = .ok (.goto (-66), 3) := by decide +kernel
theorem dX9_goAll_217 : decode cX9_goAll 217 = .ok (.iinc 5 1, 3) := by decide +kernel
theorem dX9_goAll_220 : decode cX9_goAll 220 = .ok (.goto (-194), 3) := by decide +kernel
theorem dX9_goAll_223 : decode cX9_goAll 223 = .ok (.iconst 0, 1) := by decide +kernel
theorem dX9_goAll_224 : decode cX9_goAll 224 = .ok (.istore 5, 2) := by decide +kernel
theorem dX9_goAll_226 : decode cX9_goAll 226 = .ok (.iload 5, 2) := by decide +kernel
theorem dX9_goAll_228 : decode cX9_goAll 228 = .ok (.bipush 72, 2) := by decide +kernel
theorem dX9_goAll_230 : decode cX9_goAll 230 = .ok (.if_icmp .ge 23, 3) := by decide +kernel
theorem dX9_goAll_233 : decode cX9_goAll 233 = .ok (.aload_n 0, 1) := by decide +kernel
theorem dX9_goAll_234 : decode cX9_goAll 234 = .ok (.getfield 34, 3) := by decide +kernel
theorem dX9_goAll_237 : decode cX9_goAll 237 = .ok (.iload 5, 2) := by decide +kernel
theorem dX9_goAll_239 : decode cX9_goAll 239 = .ok (.aload_n 0, 1) := by decide +kernel
theorem dX9_goAll_240 : decode cX9_goAll 240 = .ok (.getfield 38, 3) := by decide +kernel
theorem dX9_goAll_243 : decode cX9_goAll 243 = .ok (.iload 5, 2) := by decide +kernel
theorem dX9_goAll_245 : decode cX9_goAll 245 = .ok (.laload, 1) := by decide +kernel
theorem dX9_goAll_246 : decode cX9_goAll 246 = .ok (.lastore, 1) := by decide +kernel
theorem dX9_goAll_247 : decode cX9_goAll 247 = .ok (.iinc 5 1, 3) := by decide +kernel
theorem dX9_goAll_250 : decode cX9_goAll 250 = .ok (.goto (-24), 3) := by decide +kernel
theorem dX9_goAll_253 : decode cX9_goAll 253 = .ok (.lload_n 3, 1) := by decide +kernel
theorem dX9_goAll_254 : decode cX9_goAll 254 = .ok (.lreturn, 1) := by decide +kernel
theorem dX9_beginWays_0 : decode cX9_beginWays 0 = .ok (.iconst 0, 1) := by decide +kernel
theorem dX9_beginWays_1 : decode cX9_beginWays 1 = .ok (.istore_n 2, 1) := by decide +kernel
theorem dX9_beginWays_2 : decode cX9_beginWays 2 = .ok (.iload_n 2, 1) := by decide +kernel
theorem dX9_beginWays_3 : decode cX9_beginWays 3 = .ok (.bipush 72, 2) := by decide +kernel
theorem dX9_beginWays_5 : decode cX9_beginWays 5 = .ok (.if_icmp .ge 16, 3) := by decide +kernel
theorem dX9_beginWays_8 : decode cX9_beginWays 8 = .ok (.aload_n 0, 1) := by decide +kernel
theorem dX9_beginWays_9 : decode cX9_beginWays 9 = .ok (.getfield 34, 3) := by decide +kernel
theorem dX9_beginWays_12 : decode cX9_beginWays 12 = .ok (.iload_n 2, 1) := by decide +kernel
theorem dX9_beginWays_13 : decode cX9_beginWays 13 = .ok (.lconst 0, 1) := by decide +kernel
theorem dX9_beginWays_14 : decode cX9_beginWays 14 = .ok (.lastore, 1) := by decide +kernel
theorem dX9_beginWays_15 : decode cX9_beginWays 15 = .ok (.iinc 2 1, 3) := by decide +kernel
theorem dX9_beginWays_18 : decode cX9_beginWays 18 = .ok (.goto (-16), 3) := by decide +kernel
theorem dX9_beginWays_21 : decode cX9_beginWays 21 = .ok (.aload_n 0, 1) := by decide +kernel
theorem dX9_beginWays_22 : decode cX9_beginWays 22 = .ok (.getfield 28, 3) := by decide +kernel
theorem dX9_beginWays_25 : decode cX9_beginWays 25 = .ok (.bipush 8, 2) := by decide +kernel
theorem dX9_beginWays_27 : decode cX9_beginWays 27 = .ok (.iload_n 1, 1) := by decide +kernel
theorem dX9_beginWays_28 : decode cX9_beginWays 28 = .ok (.imul, 1) := by decide +kernel
theorem dX9_beginWays_29 : decode cX9_beginWays 29 = .ok (.iconst 3, 1) := by decide +kernel
theorem dX9_beginWays_30 : decode cX9_beginWays 30 = .ok (.iadd, 1) := by decide +kernel
theorem dX9_beginWays_31 : decode cX9_beginWays 31 = .ok (.iaload, 1) := by decide +kernel
theorem dX9_beginWays_32 : decode cX9_beginWays 32 = .ok (.istore_n 2, 1) := by decide +kernel
theorem dX9_beginWays_33 : decode cX9_beginWays 33 = .ok (.aload_n 0, 1) := by decide +kernel
theorem dX9_beginWays_34 : decode cX9_beginWays 34 = .ok (.getfield 34, 3) := by decide +kernel
theorem dX9_beginWays_37 : decode cX9_beginWays 37 = .ok (.bipush 9, 2) := by decide +kernel
theorem dX9_beginWays_39 : decode cX9_beginWays 39 = .ok (.aload_n 0, 1) := by decide +kernel
theorem dX9_beginWays_40 : decode cX9_beginWays 40 = .ok (.getfield 28, 3) := by decide +kernel
theorem dX9_beginWays_43 : decode cX9_beginWays 43 = .ok (.bipush 8, 2) := by decide +kernel
theorem dX9_beginWays_45 : decode cX9_beginWays 45 = .ok (.iload_n 1, 1) := by decide +kernel
theorem dX9_beginWays_46 : decode cX9_beginWays 46 = .ok (.imul, 1) := by decide +kernel
theorem dX9_beginWays_47 : decode cX9_beginWays 47 = .ok (.iconst 2, 1) := by decide +kernel
theorem dX9_beginWays_48 : decode cX9_beginWays 48 = .ok (.iadd, 1) := by decide +kernel
theorem dX9_beginWays_49 : decode cX9_beginWays 49 = .ok (.iaload, 1) := by decide +kernel
theorem dX9_beginWays_50 : decode cX9_beginWays 50 = .ok (.imul, 1) := by decide +kernel
theorem dX9_beginWays_51 : decode cX9_beginWays 51 = .ok (.iload_n 2, 1) := by decide +kernel
theorem dX9_beginWays_52 : decode cX9_beginWays 52 = .ok (.iconst (-1), 1) := by decide +kernel
theorem dX9_beginWays_53 : decode cX9_beginWays 53 = .ok (.if_icmp .ne 8, 3) := by decide +kernel
theorem dX9_beginWays_56 : decode cX9_beginWays 56 = .ok (.bipush 8, 2) := by decide +kernel
theorem dX9_beginWays_58 : decode cX9_beginWays 58 = .ok (.goto 4, 3) := by decide +kernel
theorem dX9_beginWays_61 : decode cX9_beginWays 61 = .ok (.iload_n 2, 1) := by decide +kernel
theorem dX9_beginWays_62 : decode cX9_beginWays 62 = .ok (.iadd, 1) := by decide +kernel
theorem dX9_beginWays_63 : decode cX9_beginWays 63 = .ok (.lconst 1, 1) := by decide +kernel
theorem dX9_beginWays_64 : decode cX9_beginWays 64 = .ok (.lastore, 1) := by decide +kernel
theorem dX9_beginWays_65 : decode cX9_beginWays 65 = .ok (.return_, 1) := by decide +kernel
theorem dX9_layWays_0 : decode cX9_layWays 0 = .ok (.aload_n 0, 1) := by decide +kernel
theorem dX9_layWays_1 : decode cX9_layWays 1 = .ok (.iload_n 1, 1) := by decide +kernel
theorem dX9_layWays_2 : decode cX9_layWays 2 = .ok (.invokevirtual 231, 3) := by decide +kernel
theorem dX9_layWays_5 : decode cX9_layWays 5 = .ok (.iconst 1, 1) := by decide +kernel
theorem dX9_layWays_6 : decode cX9_layWays 6 = .ok (.istore_n 2, 1) := by decide +kernel
theorem dX9_layWays_7 : decode cX9_layWays 7 = .ok (.iload_n 2, 1) := by decide +kernel
theorem dX9_layWays_8 : decode cX9_layWays 8 = .ok (.bipush 9, 2) := by decide +kernel
theorem dX9_layWays_10 : decode cX9_layWays 10 = .ok (.if_icmp .ge 31, 3) := by decide +kernel
theorem dX9_layWays_13 : decode cX9_layWays 13 = .ok (.aload_n 0, 1) := by decide +kernel
theorem dX9_layWays_14 : decode cX9_layWays 14 = .ok (.getfield 41, 3) := by decide +kernel
theorem dX9_layWays_17 : decode cX9_layWays 17 = .ok (.iload_n 2, 1) := by decide +kernel
theorem dX9_layWays_18 : decode cX9_layWays 18 = .ok (.aload_n 0, 1) := by decide +kernel
theorem dX9_layWays_19 : decode cX9_layWays 19 = .ok (.aload_n 0, 1) := by decide +kernel
theorem dX9_layWays_20 : decode cX9_layWays 20 = .ok (.getfield 28, 3) := by decide +kernel
theorem dX9_layWays_23 : decode cX9_layWays 23 = .ok (.bipush 8, 2) := by decide +kernel
theorem dX9_layWays_25 : decode cX9_layWays 25 = .ok (.iload_n 1, 1) := by decide +kernel
theorem dX9_layWays_26 : decode cX9_layWays 26 = .ok (.imul, 1) := by decide +kernel
theorem dX9_layWays_27 : decode cX9_layWays 27 = .ok (.iconst 1, 1) := by decide +kernel
theorem dX9_layWays_28 : decode cX9_layWays 28 = .ok (.iadd, 1) := by decide +kernel
theorem dX9_layWays_29 : decode cX9_layWays 29 = .ok (.iaload, 1) := by decide +kernel
theorem dX9_layWays_30 : decode cX9_layWays 30 = .ok (.iconst 0, 1) := by decide +kernel
theorem dX9_layWays_31 : decode cX9_layWays 31 = .ok (.invokevirtual 235, 3) := by decide +kernel
theorem dX9_layWays_34 : decode cX9_layWays 34 = .ok (.lastore, 1) := by decide +kernel
theorem dX9_layWays_35 : decode cX9_layWays 35 = .ok (.iinc 2 1, 3) := by decide +kernel
theorem dX9_layWays_38 : decode cX9_layWays 38 = .ok (.goto (-31), 3) := by decide +kernel
theorem dX9_layWays_41 : decode cX9_layWays 41 = .ok (.return_, 1) := by decide +kernel
theorem dX9_ways_0 : decode cX9_ways 0 = .ok (.aload_n 0, 1) := by decide +kernel
theorem dX9_ways_1 : decode cX9_ways 1 = .ok (.iload_n 1, 1) := by decide +kernel
theorem dX9_ways_2 : decode cX9_ways 2 = .ok (.invokevirtual 182, 3) := by decide +kernel
theorem dX9_ways_5 : decode cX9_ways 5 = .ok (.ifCond .ne 6, 3) := by decide +kernel
theorem dX9_ways_8 : decode cX9_ways 8 = .ok (.bipush (-101), 2) := by decide +kernel
theorem dX9_ways_10 : decode cX9_ways 10 = .ok (.ireturn, 1) := by decide +kernel
theorem dX9_ways_11 : decode cX9_ways 11 = .ok (.aload_n 0, 1) := by decide +kernel
theorem dX9_ways_12 : decode cX9_ways 12 = .ok (.iload_n 1, 1) := by decide +kernel
theorem dX9_ways_13 : decode cX9_ways 13 = .ok (.invokevirtual 161, 3) := by decide +kernel
theorem dX9_ways_16 : decode cX9_ways 16 = .ok (.ifCond .ne 6, 3) := by decide +kernel
theorem dX9_ways_19 : decode cX9_ways 19 = .ok (.bipush (-103), 2) := by decide +kernel
theorem dX9_ways_21 : decode cX9_ways 21 = .ok (.ireturn, 1) := by decide +kernel
theorem dX9_ways_22 : decode cX9_ways 22 = .ok (.iload_n 2, 1) := by decide +kernel
theorem dX9_ways_23 : decode cX9_ways 23 = .ok (.i2l, 1) := by decide +kernel
theorem dX9_ways_24 : decode cX9_ways 24 = .ok (.lconst 1, 1) := by decide +kernel
theorem dX9_ways_25 : decode cX9_ways 25 = .ok (.ldc2_w 180, 3) := by decide +kernel
theorem dX9_ways_28 : decode cX9_ways 28 = .ok (.invokestatic 108, 3) := by decide +kernel
theorem dX9_ways_31 : decode cX9_ways 31 = .ok (.ifCond .ne 6, 3) := by decide +kernel
theorem dX9_ways_34 : decode cX9_ways 34 = .ok (.bipush (-102), 2) := by decide +kernel
theorem dX9_ways_36 : decode cX9_ways 36 = .ok (.ireturn, 1) := by decide +kernel
theorem dX9_ways_37 : decode cX9_ways 37 = .ok (.aload_n 0, 1) := by decide +kernel
theorem dX9_ways_38 : decode cX9_ways 38 = .ok (.iload_n 1, 1) := by decide +kernel
theorem dX9_ways_39 : decode cX9_ways 39 = .ok (.invokevirtual 239, 3) := by decide +kernel
theorem dX9_ways_42 : decode cX9_ways 42 = .ok (.aload_n 0, 1) := by decide +kernel
theorem dX9_ways_43 : decode cX9_ways 43 = .ok (.getfield 41, 3) := by decide +kernel
theorem dX9_ways_46 : decode cX9_ways 46 = .ok (.iload_n 2, 1) := by decide +kernel
theorem dX9_ways_47 : decode cX9_ways 47 = .ok (.laload, 1) := by decide +kernel
theorem dX9_ways_48 : decode cX9_ways 48 = .ok (.l2i, 1) := by decide +kernel
theorem dX9_ways_49 : decode cX9_ways 49 = .ok (.ireturn, 1) := by decide +kernel
theorem dX9_soonestOf_0 : decode cX9_soonestOf 0 = .ok (.aload_n 0, 1) := by decide +kernel
theorem dX9_soonestOf_1 : decode cX9_soonestOf 1 = .ok (.iload_n 1, 1) := by decide +kernel
theorem dX9_soonestOf_2 : decode cX9_soonestOf 2 = .ok (.invokevirtual 239, 3) := by decide +kernel
theorem dX9_soonestOf_5 : decode cX9_soonestOf 5 = .ok (.iconst 1, 1) := by decide +kernel
theorem dX9_soonestOf_6 : decode cX9_soonestOf 6 = .ok (.istore_n 2, 1) := by decide +kernel
theorem dX9_soonestOf_7 : decode cX9_soonestOf 7 = .ok (.iload_n 2, 1) := by decide +kernel
theorem dX9_soonestOf_8 : decode cX9_soonestOf 8 = .ok (.bipush 9, 2) := by decide +kernel
theorem dX9_soonestOf_10 : decode cX9_soonestOf 10 = .ok (.if_icmp .ge 22, 3) := by decide +kernel
theorem dX9_soonestOf_13 : decode cX9_soonestOf 13 = .ok (.aload_n 0, 1) := by decide +kernel
theorem dX9_soonestOf_14 : decode cX9_soonestOf 14 = .ok (.getfield 41, 3) := by decide +kernel
theorem dX9_soonestOf_17 : decode cX9_soonestOf 17 = .ok (.iload_n 2, 1) := by decide +kernel
theorem dX9_soonestOf_18 : decode cX9_soonestOf 18 = .ok (.laload, 1) := by decide +kernel
theorem dX9_soonestOf_19 : decode cX9_soonestOf 19 = .ok (.lconst 0, 1) := by decide +kernel
theorem dX9_soonestOf_20 : decode cX9_soonestOf 20 = .ok (.lcmp, 1) := by decide +kernel
theorem dX9_soonestOf_21 : decode cX9_soonestOf 21 = .ok (.ifCond .le 5, 3) := by decide +kernel
theorem dX9_soonestOf_24 : decode cX9_soonestOf 24 = .ok (.iload_n 2, 1) := by decide +kernel
theorem dX9_soonestOf_25 : decode cX9_soonestOf 25 = .ok (.ireturn, 1) := by decide +kernel
theorem dX9_soonestOf_26 : decode cX9_soonestOf 26 = .ok (.iinc 2 1, 3) := by decide +kernel
theorem dX9_soonestOf_29 : decode cX9_soonestOf 29 = .ok (.goto (-22), 3) := by decide +kernel
theorem dX9_soonestOf_32 : decode cX9_soonestOf 32 = .ok (.iconst (-1), 1) := by decide +kernel
theorem dX9_soonestOf_33 : decode cX9_soonestOf 33 = .ok (.ireturn, 1) := by decide +kernel
theorem dX9_soonest_0 : decode cX9_soonest 0 = .ok (.aload_n 0, 1) := by decide +kernel
theorem dX9_soonest_1 : decode cX9_soonest 1 = .ok (.iload_n 1, 1) := by decide +kernel
theorem dX9_soonest_2 : decode cX9_soonest 2 = .ok (.invokevirtual 182, 3) := by decide +kernel
theorem dX9_soonest_5 : decode cX9_soonest 5 = .ok (.ifCond .ne 6, 3) := by decide +kernel
theorem dX9_soonest_8 : decode cX9_soonest 8 = .ok (.bipush (-101), 2) := by decide +kernel
theorem dX9_soonest_10 : decode cX9_soonest 10 = .ok (.ireturn, 1) := by decide +kernel
theorem dX9_soonest_11 : decode cX9_soonest 11 = .ok (.aload_n 0, 1) := by decide +kernel
theorem dX9_soonest_12 : decode cX9_soonest 12 = .ok (.iload_n 1, 1) := by decide +kernel
theorem dX9_soonest_13 : decode cX9_soonest 13 = .ok (.invokevirtual 161, 3) := by decide +kernel
theorem dX9_soonest_16 : decode cX9_soonest 16 = .ok (.ifCond .eq 11, 3) := by decide +kernel
theorem dX9_soonest_19 : decode cX9_soonest 19 = .ok (.aload_n 0, 1) := by decide +kernel
theorem dX9_soonest_20 : decode cX9_soonest 20 = .ok (.iload_n 1, 1) := by decide +kernel
theorem dX9_soonest_21 : decode cX9_soonest 21 = .ok (.invokevirtual 242, 3) := by decide +kernel
theorem dX9_soonest_24 : decode cX9_soonest 24 = .ok (.goto 5, 3) := by decide +kernel
theorem dX9_soonest_27 : decode cX9_soonest 27 = .ok (.bipush (-103), 2) := by decide +kernel
theorem dX9_soonest_29 : decode cX9_soonest 29 = .ok (.ireturn, 1) := by decide +kernel
theorem dX9_term_0 : decode cX9_term 0 = .ok (.lload_n 0, 1) := by decide +kernel
theorem dX9_term_1 : decode cX9_term 1 = .ok (.lstore 5, 2) := by decide +kernel
theorem dX9_term_3 : decode cX9_term 3 = .ok (.lload_n 2, 1) := by decide +kernel
theorem dX9_term_4 : decode cX9_term 4 = .ok (.lstore 7, 2) := by decide +kernel
theorem dX9_term_6 : decode cX9_term 6 = .ok (.lload 5, 2) := by decide +kernel
theorem dX9_term_8 : decode cX9_term 8 = .ok (.lconst 0, 1) := by decide +kernel
theorem dX9_term_9 : decode cX9_term 9 = .ok (.lcmp, 1) := by decide +kernel
theorem dX9_term_10 : decode cX9_term 10 = .ok (.ifCond .eq 21, 3) := by decide +kernel
theorem dX9_term_13 : decode cX9_term 13 = .ok (.lload 7, 2) := by decide +kernel
theorem dX9_term_15 : decode cX9_term 15 = .ok (.lload 5, 2) := by decide +kernel
theorem dX9_term_17 : decode cX9_term 17 = .ok (.lrem, 1) := by decide +kernel
theorem dX9_term_18 : decode cX9_term 18 = .ok (.lstore 9, 2) := by decide +kernel
theorem dX9_term_20 : decode cX9_term 20 = .ok (.lload 5, 2) := by decide +kernel
theorem dX9_term_22 : decode cX9_term 22 = .ok (.lstore 7, 2) := by decide +kernel
theorem dX9_term_24 : decode cX9_term 24 = .ok (.lload 9, 2) := by decide +kernel
theorem dX9_term_26 : decode cX9_term 26 = .ok (.lstore 5, 2) := by decide +kernel
theorem dX9_term_28 : decode cX9_term 28 = .ok (.goto (-22), 3) := by decide +kernel
theorem dX9_term_31 : decode cX9_term 31 = .ok (.iload 4, 2) := by decide +kernel
theorem dX9_term_33 : decode cX9_term 33 = .ok (.ifCond .ne 10, 3) := by decide +kernel
theorem dX9_term_36 : decode cX9_term 36 = .ok (.lload_n 0, 1) := by decide +kernel
theorem dX9_term_37 : decode cX9_term 37 = .ok (.lload 7, 2) := by decide +kernel
theorem dX9_term_39 : decode cX9_term 39 = .ok (.ldiv, 1) := by decide +kernel
theorem dX9_term_40 : decode cX9_term 40 = .ok (.goto 7, 3) := by decide +kernel
theorem dX9_term_43 : decode cX9_term 43 = .ok (.lload_n 2, 1) := by decide +kernel
theorem dX9_term_44 : decode cX9_term 44 = .ok (.lload 7, 2) := by decide +kernel
theorem dX9_term_46 : decode cX9_term 46 = .ok (.ldiv, 1) := by decide +kernel
theorem dX9_term_47 : decode cX9_term 47 = .ok (.lreturn, 1) := by decide +kernel
theorem dX9_likely_0 : decode cX9_likely 0 = .ok (.aload_n 0, 1) := by decide +kernel
theorem dX9_likely_1 : decode cX9_likely 1 = .ok (.iload_n 1, 1) := by decide +kernel
theorem dX9_likely_2 : decode cX9_likely 2 = .ok (.invokevirtual 182, 3) := by decide +kernel
theorem dX9_likely_5 : decode cX9_likely 5 = .ok (.ifCond .ne 7, 3) := by decide +kernel
theorem dX9_likely_8 : decode cX9_likely 8 = .ok (.ldc2_w 245, 3) := by decide +kernel
theorem dX9_likely_11 : decode cX9_likely 11 = .ok (.lreturn, 1) := by decide +kernel
theorem dX9_likely_12 : decode cX9_likely 12 = .ok (.aload_n 0, 1) := by decide +kernel
theorem dX9_likely_13 : decode cX9_likely 13 = .ok (.iload_n 1, 1) := by decide +kernel
theorem dX9_likely_14 : decode cX9_likely 14 = .ok (.invokevirtual 161, 3) := by decide +kernel
theorem dX9_likely_17 : decode cX9_likely 17 = .ok (.ifCond .ne 7, 3) := by decide +kernel
theorem dX9_likely_20 : decode cX9_likely 20 = .ok (.ldc2_w 247, 3) := by decide +kernel
theorem dX9_likely_23 : decode cX9_likely 23 = .ok (.lreturn, 1) := by decide +kernel
theorem dX9_likely_24 : decode cX9_likely 24 = .ok (.iload_n 2, 1) := by decide +kernel
theorem dX9_likely_25 : decode cX9_likely 25 = .ok (.i2l, 1) := by decide +kernel
theorem dX9_likely_26 : decode cX9_likely 26 = .ok (.lconst 1, 1) := by decide +kernel
theorem dX9_likely_27 : decode cX9_likely 27 = .ok (.ldc2_w 249, 3) := by decide +kernel
theorem dX9_likely_30 : decode cX9_likely 30 = .ok (.invokestatic 108, 3) := by decide +kernel
theorem dX9_likely_33 : decode cX9_likely 33 = .ok (.ifCond .eq 13, 3) := by decide +kernel
theorem dX9_likely_36 : decode cX9_likely 36 = .ok (.iload_n 3, 1) := by decide +kernel
theorem dX9_likely_37 : decode cX9_likely 37 = .ok (.i2l, 1) := by decide +kernel
theorem dX9_likely_38 : decode cX9_likely 38 = .ok (.lconst 0, 1) := by decide +kernel
theorem dX9_likely_39 : decode cX9_likely 39 = .ok (.lconst 1, 1) := by decide +kernel
theorem dX9_likely_40 : decode cX9_likely 40 = .ok (.invokestatic 108, 3) := by decide +kernel
theorem dX9_likely_43 : decode cX9_likely 43 = .ok (.ifCond .ne 7, 3) := by decide +kernel
theorem dX9_likely_46 : decode cX9_likely 46 = .ok (.ldc2_w 251, 3) := by decide +kernel
theorem dX9_likely_49 : decode cX9_likely 49 = .ok (.lreturn, 1) := by decide +kernel
theorem dX9_likely_50 : decode cX9_likely 50 = .ok (.aload_n 0, 1) := by decide +kernel
theorem dX9_likely_51 : decode cX9_likely 51 = .ok (.iload_n 1, 1) := by decide +kernel
theorem dX9_likely_52 : decode cX9_likely 52 = .ok (.invokevirtual 231, 3) := by decide +kernel
theorem dX9_likely_55 : decode cX9_likely 55 = .ok (.lconst 0, 1) := by decide +kernel
theorem dX9_likely_56 : decode cX9_likely 56 = .ok (.lstore 4, 2) := by decide +kernel
theorem dX9_likely_58 : decode cX9_likely 58 = .ok (.lconst 1, 1) := by decide +kernel
theorem dX9_likely_59 : decode cX9_likely 59 = .ok (.lstore 6, 2) := by decide +kernel
theorem dX9_likely_61 : decode cX9_likely 61 = .ok (.iconst 0, 1) := by decide +kernel
theorem dX9_likely_62 : decode cX9_likely 62 = .ok (.istore 8, 2) := by decide +kernel
theorem dX9_likely_64 : decode cX9_likely 64 = .ok (.iload 8, 2) := by decide +kernel
theorem dX9_likely_66 : decode cX9_likely 66 = .ok (.iload_n 2, 1) := by decide +kernel
theorem dX9_likely_67 : decode cX9_likely 67 = .ok (.if_icmp .ge 46, 3) := by decide +kernel
theorem dX9_likely_70 : decode cX9_likely 70 = .ok (.aload_n 0, 1) := by decide +kernel
theorem dX9_likely_71 : decode cX9_likely 71 = .ok (.aload_n 0, 1) := by decide +kernel
theorem dX9_likely_72 : decode cX9_likely 72 = .ok (.getfield 28, 3) := by decide +kernel
theorem dX9_likely_75 : decode cX9_likely 75 = .ok (.bipush 8, 2) := by decide +kernel
theorem dX9_likely_77 : decode cX9_likely 77 = .ok (.iload_n 1, 1) := by decide +kernel
theorem dX9_likely_78 : decode cX9_likely 78 = .ok (.imul, 1) := by decide +kernel
theorem dX9_likely_79 : decode cX9_likely 79 = .ok (.iconst 1, 1) := by decide +kernel
theorem dX9_likely_80 : decode cX9_likely 80 = .ok (.iadd, 1) := by decide +kernel
theorem dX9_likely_81 : decode cX9_likely 81 = .ok (.iaload, 1) := by decide +kernel
theorem dX9_likely_82 : decode cX9_likely 82 = .ok (.iconst 1, 1) := by decide +kernel
theorem dX9_likely_83 : decode cX9_likely 83 = .ok (.invokevirtual 235, 3) := by decide +kernel
theorem dX9_likely_86 : decode cX9_likely 86 = .ok (.lstore 9, 2) := by decide +kernel
theorem dX9_likely_88 : decode cX9_likely 88 = .ok (.ldc2_w 253, 3) := by decide +kernel
theorem dX9_likely_91 : decode cX9_likely 91 = .ok (.lload 4, 2) := by decide +kernel
theorem dX9_likely_93 : decode cX9_likely 93 = .ok (.lmul, 1) := by decide +kernel
theorem dX9_likely_94 : decode cX9_likely 94 = .ok (.lload 9, 2) := by decide +kernel
theorem dX9_likely_96 : decode cX9_likely 96 = .ok (.ladd, 1) := by decide +kernel
theorem dX9_likely_97 : decode cX9_likely 97 = .ok (.lstore 4, 2) := by decide +kernel
theorem dX9_likely_99 : decode cX9_likely 99 = .ok (.lload 6, 2) := by decide +kernel
theorem dX9_likely_101 : decode cX9_likely 101 = .ok (.ldc2_w 253, 3) := by decide +kernel
theorem dX9_likely_104 : decode cX9_likely 104 = .ok (.lmul, 1) := by decide +kernel
theorem dX9_likely_105 : decode cX9_likely 105 = .ok (.lstore 6, 2) := by decide +kernel
theorem dX9_likely_107 : decode cX9_likely 107 = .ok (.iinc 8 1, 3) := by decide +kernel
theorem dX9_likely_110 : decode cX9_likely 110 = .ok (.goto (-46), 3) := by decide +kernel
theorem dX9_likely_113 : decode cX9_likely 113 = .ok (.lload 4, 2) := by decide +kernel
theorem dX9_likely_115 : decode cX9_likely 115 = .ok (.lload 6, 2) := by decide +kernel
theorem dX9_likely_117 : decode cX9_likely 117 = .ok (.iload_n 3, 1) := by decide +kernel
theorem dX9_likely_118 : decode cX9_likely 118 = .ok (.invokestatic 255, 3) := by decide +kernel
theorem dX9_likely_121 : decode cX9_likely 121 = .ok (.lreturn, 1) := by decide +kernel
theorem dX9_trapsOf_0 : decode cX9_trapsOf 0 = .ok (.iconst 0, 1) := by decide +kernel
theorem dX9_trapsOf_1 : decode cX9_trapsOf 1 = .ok (.istore_n 1, 1) := by decide +kernel
theorem dX9_trapsOf_2 : decode cX9_trapsOf 2 = .ok (.iconst 0, 1) := by decide +kernel
theorem dX9_trapsOf_3 : decode cX9_trapsOf 3 = .ok (.istore_n 2, 1) := by decide +kernel
theorem dX9_trapsOf_4 : decode cX9_trapsOf 4 = .ok (.iload_n 2, 1) := by decide +kernel
theorem dX9_trapsOf_5 : decode cX9_trapsOf 5 = .ok (.aload_n 0, 1) := by decide +kernel
theorem dX9_trapsOf_6 : decode cX9_trapsOf 6 = .ok (.getfield 144, 3) := by decide +kernel
theorem dX9_trapsOf_9 : decode cX9_trapsOf 9 = .ok (.if_icmp .ge 32, 3) := by decide +kernel
theorem dX9_trapsOf_12 : decode cX9_trapsOf 12 = .ok (.iload_n 1, 1) := by decide +kernel
theorem dX9_trapsOf_13 : decode cX9_trapsOf 13 = .ok (.aload_n 0, 1) := by decide +kernel
theorem dX9_trapsOf_14 : decode cX9_trapsOf 14 = .ok (.getfield 16, 3) := by decide +kernel
theorem dX9_trapsOf_17 : decode cX9_trapsOf 17 = .ok (.iload_n 2, 1) := by decide +kernel
theorem dX9_trapsOf_18 : decode cX9_trapsOf 18 = .ok (.iaload, 1) := by decide +kernel
theorem dX9_trapsOf_19 : decode cX9_trapsOf 19 = .ok (.invokestatic 210, 3) := by decide +kernel
theorem dX9_trapsOf_22 : decode cX9_trapsOf 22 = .ok (.iconst 1, 1) := by decide +kernel
theorem dX9_trapsOf_23 : decode cX9_trapsOf 23 = .ok (.if_icmp .ne 9, 3) := by decide +kernel
theorem dX9_trapsOf_26 : decode cX9_trapsOf 26 = .ok (.iconst 1, 1) := by decide +kernel
theorem dX9_trapsOf_27 : decode cX9_trapsOf 27 = .ok (.iload_n 2, 1) := by decide +kernel
theorem dX9_trapsOf_28 : decode cX9_trapsOf 28 = .ok (.ishl, 1) := by decide +kernel
theorem dX9_trapsOf_29 : decode cX9_trapsOf 29 = .ok (.goto 4, 3) := by decide +kernel
theorem dX9_trapsOf_32 : decode cX9_trapsOf 32 = .ok (.iconst 0, 1) := by decide +kernel
theorem dX9_trapsOf_33 : decode cX9_trapsOf 33 = .ok (.ior, 1) := by decide +kernel
theorem dX9_trapsOf_34 : decode cX9_trapsOf 34 = .ok (.istore_n 1, 1) := by decide +kernel
theorem dX9_trapsOf_35 : decode cX9_trapsOf 35 = .ok (.iinc 2 1, 3) := by decide +kernel
theorem dX9_trapsOf_38 : decode cX9_trapsOf 38 = .ok (.goto (-34), 3) := by decide +kernel
theorem dX9_trapsOf_41 : decode cX9_trapsOf 41 = .ok (.iload_n 1, 1) := by decide +kernel
theorem dX9_trapsOf_42 : decode cX9_trapsOf 42 = .ok (.ireturn, 1) := by decide +kernel
theorem dX9_traps_0 : decode cX9_traps 0 = .ok (.aload_n 0, 1) := by decide +kernel
theorem dX9_traps_1 : decode cX9_traps 1 = .ok (.invokevirtual 259, 3) := by decide +kernel
theorem dX9_traps_4 : decode cX9_traps 4 = .ok (.ireturn, 1) := by decide +kernel
theorem dX9_layRound_0 : decode cX9_layRound 0 = .ok (.iconst 1, 1) := by decide +kernel
theorem dX9_layRound_1 : decode cX9_layRound 1 = .ok (.aload_n 0, 1) := by decide +kernel
theorem dX9_layRound_2 : decode cX9_layRound 2 = .ok (.getfield 144, 3) := by decide +kernel
theorem dX9_layRound_5 : decode cX9_layRound 5 = .ok (.ishl, 1) := by decide +kernel
theorem dX9_layRound_6 : decode cX9_layRound 6 = .ok (.istore_n 1, 1) := by decide +kernel
theorem dX9_layRound_7 : decode cX9_layRound 7 = .ok (.iconst 0, 1) := by decide +kernel
theorem dX9_layRound_8 : decode cX9_layRound 8 = .ok (.istore_n 2, 1) := by decide +kernel
theorem dX9_layRound_9 : decode cX9_layRound 9 = .ok (.iload_n 2, 1) := by decide +kernel
theorem dX9_layRound_10 : decode cX9_layRound 10 = .ok (.iload_n 1, 1) := by decide +kernel
theorem dX9_layRound_11 : decode cX9_layRound 11 = .ok (.if_icmp .ge 36, 3) := by decide +kernel
theorem dX9_layRound_14 : decode cX9_layRound 14 = .ok (.aload_n 0, 1) := by decide +kernel
theorem dX9_layRound_15 : decode cX9_layRound 15 = .ok (.getfield 44, 3) := by decide +kernel
theorem dX9_layRound_18 : decode cX9_layRound 18 = .ok (.sipush 256, 3) := by decide +kernel
theorem dX9_layRound_21 : decode cX9_layRound 21 = .ok (.aload_n 0, 1) := by decide +kernel
theorem dX9_layRound_22 : decode cX9_layRound 22 = .ok (.getfield 144, 3) := by decide +kernel
theorem dX9_layRound_25 : decode cX9_layRound 25 = .ok (.imul, 1) := by decide +kernel
theorem dX9_layRound_26 : decode cX9_layRound 26 = .ok (.iload_n 2, 1) := by decide +kernel
theorem dX9_layRound_27 : decode cX9_layRound 27 = .ok (.iadd, 1) := by decide +kernel
theorem dX9_layRound_28 : decode cX9_layRound 28 = .ok (.iload_n 2, 1) := by decide +kernel
theorem dX9_layRound_29 : decode cX9_layRound 29 = .ok (.iload_n 1, 1) := by decide +kernel
theorem dX9_layRound_30 : decode cX9_layRound 30 = .ok (.iconst 1, 1) := by decide +kernel
theorem dX9_layRound_31 : decode cX9_layRound 31 = .ok (.isub, 1) := by decide +kernel
theorem dX9_layRound_32 : decode cX9_layRound 32 = .ok (.if_icmp .ne 7, 3) := by decide +kernel
theorem dX9_layRound_35 : decode cX9_layRound 35 = .ok (.iconst 0, 1) := by decide +kernel
theorem dX9_layRound_36 : decode cX9_layRound 36 = .ok (.goto 4, 3) := by decide +kernel
theorem dX9_layRound_39 : decode cX9_layRound 39 = .ok (.iconst (-1), 1) := by decide +kernel
theorem dX9_layRound_40 : decode cX9_layRound 40 = .ok (.iastore, 1) := by decide +kernel
theorem dX9_layRound_41 : decode cX9_layRound 41 = .ok (.iinc 2 1, 3) := by decide +kernel
theorem dX9_layRound_44 : decode cX9_layRound 44 = .ok (.goto (-35), 3) := by decide +kernel
theorem dX9_layRound_47 : decode cX9_layRound 47 = .ok (.aload_n 0, 1) := by decide +kernel
theorem dX9_layRound_48 : decode cX9_layRound 48 = .ok (.getfield 144, 3) := by decide +kernel
theorem dX9_layRound_51 : decode cX9_layRound 51 = .ok (.iconst 1, 1) := by decide +kernel
theorem dX9_layRound_52 : decode cX9_layRound 52 = .ok (.isub, 1) := by decide +kernel
theorem dX9_layRound_53 : decode cX9_layRound 53 = .ok (.istore_n 2, 1) := by decide +kernel
theorem dX9_layRound_54 : decode cX9_layRound 54 = .ok (.iload_n 2, 1) := by decide +kernel
theorem dX9_layRound_55 : decode cX9_layRound 55 = .ok (.ifCond .lt 166, 3) := by decide +kernel
theorem dX9_layRound_58 : decode cX9_layRound 58 = .ok (.iconst 0, 1) := by decide +kernel
theorem dX9_layRound_59 : decode cX9_layRound 59 = .ok (.istore_n 3, 1) := by decide +kernel
theorem dX9_layRound_60 : decode cX9_layRound 60 = .ok (.iload_n 3, 1) := by decide +kernel
theorem dX9_layRound_61 : decode cX9_layRound 61 = .ok (.iload_n 1, 1) := by decide +kernel
theorem dX9_layRound_62 : decode cX9_layRound 62 = .ok (.if_icmp .ge 153, 3) := by decide +kernel
theorem dX9_layRound_65 : decode cX9_layRound 65 = .ok (.iconst (-1), 1) := by decide +kernel
theorem dX9_layRound_66 : decode cX9_layRound 66 = .ok (.istore 4, 2) := by decide +kernel
theorem dX9_layRound_68 : decode cX9_layRound 68 = .ok (.iconst 0, 1) := by decide +kernel
theorem dX9_layRound_69 : decode cX9_layRound 69 = .ok (.istore 5, 2) := by decide +kernel
theorem dX9_layRound_71 : decode cX9_layRound 71 = .ok (.iload 5, 2) := by decide +kernel
theorem dX9_layRound_73 : decode cX9_layRound 73 = .ok (.aload_n 0, 1) := by decide +kernel
theorem dX9_layRound_74 : decode cX9_layRound 74 = .ok (.getfield 144, 3) := by decide +kernel
theorem dX9_layRound_77 : decode cX9_layRound 77 = .ok (.if_icmp .ge 118, 3) := by decide +kernel
theorem dX9_layRound_80 : decode cX9_layRound 80 = .ok (.aload_n 0, 1) := by decide +kernel
theorem dX9_layRound_81 : decode cX9_layRound 81 = .ok (.getfield 16, 3) := by decide +kernel
theorem dX9_layRound_84 : decode cX9_layRound 84 = .ok (.iload_n 2, 1) := by decide +kernel
theorem dX9_layRound_85 : decode cX9_layRound 85 = .ok (.iaload, 1) := by decide +kernel
theorem dX9_layRound_86 : decode cX9_layRound 86 = .ok (.iload 5, 2) := by decide +kernel
theorem dX9_layRound_88 : decode cX9_layRound 88 = .ok (.ishr, 1) := by decide +kernel
theorem dX9_layRound_89 : decode cX9_layRound 89 = .ok (.iconst 1, 1) := by decide +kernel
theorem dX9_layRound_90 : decode cX9_layRound 90 = .ok (.iand, 1) := by decide +kernel
theorem dX9_layRound_91 : decode cX9_layRound 91 = .ok (.iconst 1, 1) := by decide +kernel
theorem dX9_layRound_92 : decode cX9_layRound 92 = .ok (.if_icmp .ne 16, 3) := by decide +kernel
theorem dX9_layRound_95 : decode cX9_layRound 95 = .ok (.iload_n 3, 1) := by decide +kernel
theorem dX9_layRound_96 : decode cX9_layRound 96 = .ok (.iload 5, 2) := by decide +kernel
theorem dX9_layRound_98 : decode cX9_layRound 98 = .ok (.ishr, 1) := by decide +kernel
theorem dX9_layRound_99 : decode cX9_layRound 99 = .ok (.iconst 1, 1) := by decide +kernel
theorem dX9_layRound_100 : decode cX9_layRound 100 = .ok (.iand, 1) := by decide +kernel
theorem dX9_layRound_101 : decode cX9_layRound 101 = .ok (.ifCond .ne 7, 3) := by decide +kernel
theorem dX9_layRound_104 : decode cX9_layRound 104 = .ok (.iconst 1, 1) := by decide +kernel
theorem dX9_layRound_105 : decode cX9_layRound 105 = .ok (.goto 4, 3) := by decide +kernel
theorem dX9_layRound_108 : decode cX9_layRound 108 = .ok (.iconst 0, 1) := by decide +kernel
theorem dX9_layRound_109 : decode cX9_layRound 109 = .ok (.istore 6, 2) := by decide +kernel
theorem dX9_layRound_111 : decode cX9_layRound 111 = .ok (.iload 6, 2) := by decide +kernel
theorem dX9_layRound_113 : decode cX9_layRound 113 = .ok (.ifCond .eq 25, 3) := by decide +kernel
theorem dX9_layRound_116 : decode cX9_layRound 116 = .ok (.aload_n 0, 1) := by decide +kernel
theorem dX9_layRound_117 : decode cX9_layRound 117 = .ok (.getfield 44, 3) := by decide +kernel
theorem dX9_layRound_120 : decode cX9_layRound 120 = .ok (.sipush 256, 3) := by decide +kernel
theorem dX9_layRound_123 : decode cX9_layRound 123 = .ok (.iload_n 2, 1) := by decide +kernel
theorem dX9_layRound_124 : decode cX9_layRound 124 = .ok (.iconst 1, 1) := by decide +kernel
theorem dX9_layRound_125 : decode cX9_layRound 125 = .ok (.iadd, 1) := by decide +kernel
theorem dX9_layRound_126 : decode cX9_layRound 126 = .ok (.imul, 1) := by decide +kernel
theorem dX9_layRound_127 : decode cX9_layRound 127 = .ok (.iload_n 3, 1) := by decide +kernel
theorem dX9_layRound_128 : decode cX9_layRound 128 = .ok (.iconst 1, 1) := by decide +kernel
theorem dX9_layRound_129 : decode cX9_layRound 129 = .ok (.iload 5, 2) := by decide +kernel
theorem dX9_layRound_131 : decode cX9_layRound 131 = .ok (.ishl, 1) := by decide +kernel
theorem dX9_layRound_132 : decode cX9_layRound 132 = .ok (.ior, 1) := by decide +kernel
theorem dX9_layRound_133 : decode cX9_layRound 133 = .ok (.iadd, 1) := by decide +kernel
theorem dX9_layRound_134 : decode cX9_layRound 134 = .ok (.iaload, 1) := by decide +kernel
theorem dX9_layRound_135 : decode cX9_layRound 135 = .ok (.goto 4, 3) := by decide +kernel
theorem dX9_layRound_138 : decode cX9_layRound 138 = .ok (.iconst (-1), 1) := by decide +kernel
theorem dX9_layRound_139 : decode cX9_layRound 139 = .ok (.istore 7, 2) := by decide +kernel
theorem dX9_layRound_141 : decode cX9_layRound 141 = .ok (.iload 7, 2) := by decide +kernel
theorem dX9_layRound_143 : decode cX9_layRound 143 = .ok (.iconst (-1), 1) := by decide +kernel
theorem dX9_layRound_144 : decode cX9_layRound 144 = .ok (.if_icmp .eq 41, 3) := by decide +kernel
theorem dX9_layRound_147 : decode cX9_layRound 147 = .ok (.iload 7, 2) := by decide +kernel
theorem dX9_layRound_149 : decode cX9_layRound 149 = .ok (.aload_n 0, 1) := by decide +kernel
theorem dX9_layRound_150 : decode cX9_layRound 150 = .ok (.getfield 19, 3) := by decide +kernel
theorem dX9_layRound_153 : decode cX9_layRound 153 = .ok (.bipush 8, 2) := by decide +kernel
theorem dX9_layRound_155 : decode cX9_layRound 155 = .ok (.iload_n 2, 1) := by decide +kernel
theorem dX9_layRound_156 : decode cX9_layRound 156 = .ok (.imul, 1) := by decide +kernel
theorem dX9_layRound_157 : decode cX9_layRound 157 = .ok (.iload 5, 2) := by decide +kernel
theorem dX9_layRound_159 : decode cX9_layRound 159 = .ok (.iadd, 1) := by decide +kernel
theorem dX9_layRound_160 : decode cX9_layRound 160 = .ok (.iaload, 1) := by decide +kernel
theorem dX9_layRound_161 : decode cX9_layRound 161 = .ok (.iadd, 1) := by decide +kernel
theorem dX9_layRound_162 : decode cX9_layRound 162 = .ok (.iload 4, 2) := by decide +kernel
theorem dX9_layRound_164 : decode cX9_layRound 164 = .ok (.if_icmp .le 21, 3) := by decide +kernel
theorem dX9_layRound_167 : decode cX9_layRound 167 = .ok (.iload 7, 2) := by decide +kernel
theorem dX9_layRound_169 : decode cX9_layRound 169 = .ok (.aload_n 0, 1) := by decide +kernel
theorem dX9_layRound_170 : decode cX9_layRound 170 = .ok (.getfield 19, 3) := by decide +kernel
theorem dX9_layRound_173 : decode cX9_layRound 173 = .ok (.bipush 8, 2) := by decide +kernel
theorem dX9_layRound_175 : decode cX9_layRound 175 = .ok (.iload_n 2, 1) := by decide +kernel
theorem dX9_layRound_176 : decode cX9_layRound 176 = .ok (.imul, 1) := by decide +kernel
theorem dX9_layRound_177 : decode cX9_layRound 177 = .ok (.iload 5, 2) := by decide +kernel
theorem dX9_layRound_179 : decode cX9_layRound 179 = .ok (.iadd, 1) := by decide +kernel
theorem dX9_layRound_180 : decode cX9_layRound 180 = .ok (.iaload, 1) := by decide +kernel
theorem dX9_layRound_181 : decode cX9_layRound 181 = .ok (.iadd, 1) := by decide +kernel
theorem dX9_layRound_182 : decode cX9_layRound 182 = .ok (.goto 5, 3) := by decide +kernel
theorem dX9_layRound_185 : decode cX9_layRound 185 = .ok (.iload 4, 2) := by decide +kernel
theorem dX9_layRound_187 : decode cX9_layRound 187 = .ok (.istore 4, 2) := by decide +kernel
theorem dX9_layRound_189 : decode cX9_layRound 189 = .ok (.iinc 5 1, 3) := by decide +kernel
theorem dX9_layRound_192 : decode cX9_layRound 192 = .ok (.goto (-121), 3) := by decide +kernel
theorem dX9_layRound_195 : decode cX9_layRound 195 = .ok (.aload_n 0, 1) := by decide +kernel
theorem dX9_layRound_196 : decode cX9_layRound 196 = .ok (.getfield 44, 3) := by decide +kernel
theorem dX9_layRound_199 : decode cX9_layRound 199 = .ok (.sipush 256, 3) := by decide +kernel
theorem dX9_layRound_202 : decode cX9_layRound 202 = .ok (.iload_n 2, 1) := by decide +kernel
theorem dX9_layRound_203 : decode cX9_layRound 203 = .ok (.imul, 1) := by decide +kernel
theorem dX9_layRound_204 : decode cX9_layRound 204 = .ok (.iload_n 3, 1) := by decide +kernel
theorem dX9_layRound_205 : decode cX9_layRound 205 = .ok (.iadd, 1) := by decide +kernel
theorem dX9_layRound_206 : decode cX9_layRound 206 = .ok (.iload 4, 2) := by decide +kernel
theorem dX9_layRound_208 : decode cX9_layRound 208 = .ok (.iastore, 1) := by decide +kernel
theorem dX9_layRound_209 : decode cX9_layRound 209 = .ok (.iinc 3 1, 3) := by decide +kernel
theorem dX9_layRound_212 : decode cX9_layRound 212 = .ok (.goto (-152), 3) := by decide +kernel
theorem dX9_layRound_215 : decode cX9_layRound 215 = .ok (.iinc 2 (-1), 3) := by decide +kernel
theorem dX9_layRound_218 : decode cX9_layRound 218 = .ok (.goto (-164), 3) := by decide +kernel
theorem dX9_layRound_221 : decode cX9_layRound 221 = .ok (.iconst 0, 1) := by decide +kernel
theorem dX9_layRound_222 : decode cX9_layRound 222 = .ok (.istore_n 2, 1) := by decide +kernel
theorem dX9_layRound_223 : decode cX9_layRound 223 = .ok (.iconst 0, 1) := by decide +kernel
theorem dX9_layRound_224 : decode cX9_layRound 224 = .ok (.istore_n 3, 1) := by decide +kernel
theorem dX9_layRound_225 : decode cX9_layRound 225 = .ok (.iload_n 3, 1) := by decide +kernel
theorem dX9_layRound_226 : decode cX9_layRound 226 = .ok (.aload_n 0, 1) := by decide +kernel
theorem dX9_layRound_227 : decode cX9_layRound 227 = .ok (.getfield 144, 3) := by decide +kernel
theorem dX9_layRound_230 : decode cX9_layRound 230 = .ok (.if_icmp .ge 184, 3) := by decide +kernel
theorem dX9_layRound_233 : decode cX9_layRound 233 = .ok (.aload_n 0, 1) := by decide +kernel
theorem dX9_layRound_234 : decode cX9_layRound 234 = .ok (.getfield 47, 3) := by decide +kernel
theorem dX9_layRound_237 : decode cX9_layRound 237 = .ok (.iload_n 3, 1) := by decide +kernel
theorem dX9_layRound_238 : decode cX9_layRound 238 = .ok (.iconst (-1), 1) := by decide +kernel
theorem dX9_layRound_239 : decode cX9_layRound 239 = .ok (.iastore, 1) := by decide +kernel
theorem dX9_layRound_240 : decode cX9_layRound 240 = .ok (.aload_n 0, 1) := by decide +kernel
theorem dX9_layRound_241 : decode cX9_layRound 241 = .ok (.getfield 144, 3) := by decide +kernel
theorem dX9_layRound_244 : decode cX9_layRound 244 = .ok (.iconst 1, 1) := by decide +kernel
theorem dX9_layRound_245 : decode cX9_layRound 245 = .ok (.isub, 1) := by decide +kernel
theorem dX9_layRound_246 : decode cX9_layRound 246 = .ok (.istore 4, 2) := by decide +kernel
theorem dX9_layRound_248 : decode cX9_layRound 248 = .ok (.iload 4, 2) := by decide +kernel
theorem dX9_layRound_250 : decode cX9_layRound 250 = .ok (.ifCond .lt 133, 3) := by decide +kernel
theorem dX9_layRound_253 : decode cX9_layRound 253 = .ok (.aload_n 0, 1) := by decide +kernel
theorem dX9_layRound_254 : decode cX9_layRound 254 = .ok (.getfield 44, 3) := by decide +kernel
theorem dX9_layRound_257 : decode cX9_layRound 257 = .ok (.iconst 0, 1) := by decide +kernel
theorem dX9_layRound_258 : decode cX9_layRound 258 = .ok (.iaload, 1) := by decide +kernel
theorem dX9_layRound_259 : decode cX9_layRound 259 = .ok (.iconst (-1), 1) := by decide +kernel
theorem dX9_layRound_260 : decode cX9_layRound 260 = .ok (.if_icmp .eq 123, 3) := by decide +kernel
theorem dX9_layRound_263 : decode cX9_layRound 263 = .ok (.aload_n 0, 1) := by decide +kernel
theorem dX9_layRound_264 : decode cX9_layRound 264 = .ok (.getfield 16, 3) := by decide +kernel
theorem dX9_layRound_267 : decode cX9_layRound 267 = .ok (.iload_n 3, 1) := by decide +kernel
theorem dX9_layRound_268 : decode cX9_layRound 268 = .ok (.iaload, 1) := by decide +kernel
theorem dX9_layRound_269 : decode cX9_layRound 269 = .ok (.iload 4, 2) := by decide +kernel
theorem dX9_layRound_271 : decode cX9_layRound 271 = .ok (.ishr, 1) := by decide +kernel
theorem dX9_layRound_272 : decode cX9_layRound 272 = .ok (.iconst 1, 1) := by decide +kernel
theorem dX9_layRound_273 : decode cX9_layRound 273 = .ok (.iand, 1) := by decide +kernel
theorem dX9_layRound_274 : decode cX9_layRound 274 = .ok (.iconst 1, 1) := by decide +kernel
theorem dX9_layRound_275 : decode cX9_layRound 275 = .ok (.if_icmp .ne 16, 3) := by decide +kernel
theorem dX9_layRound_278 : decode cX9_layRound 278 = .ok (.iload_n 2, 1) := by decide +kernel
theorem dX9_layRound_279 : decode cX9_layRound 279 = .ok (.iload 4, 2) := by decide +kernel
theorem dX9_layRound_281 : decode cX9_layRound 281 = .ok (.ishr, 1) := by decide +kernel
theorem dX9_layRound_282 : decode cX9_layRound 282 = .ok (.iconst 1, 1) := by decide +kernel
theorem dX9_layRound_283 : decode cX9_layRound 283 = .ok (.iand, 1) := by decide +kernel
theorem dX9_layRound_284 : decode cX9_layRound 284 = .ok (.ifCond .ne 7, 3) := by decide +kernel
theorem dX9_layRound_287 : decode cX9_layRound 287 = .ok (.iconst 1, 1) := by decide +kernel
theorem dX9_layRound_288 : decode cX9_layRound 288 = .ok (.goto 4, 3) := by decide +kernel
theorem dX9_layRound_291 : decode cX9_layRound 291 = .ok (.iconst 0, 1) := by decide +kernel
theorem dX9_layRound_292 : decode cX9_layRound 292 = .ok (.istore 5, 2) := by decide +kernel
theorem dX9_layRound_294 : decode cX9_layRound 294 = .ok (.iload 5, 2) := by decide +kernel
theorem dX9_layRound_296 : decode cX9_layRound 296 = .ok (.ifCond .eq 25, 3) := by decide +kernel
theorem dX9_layRound_299 : decode cX9_layRound 299 = .ok (.aload_n 0, 1) := by decide +kernel
theorem dX9_layRound_300 : decode cX9_layRound 300 = .ok (.getfield 44, 3) := by decide +kernel
theorem dX9_layRound_303 : decode cX9_layRound 303 = .ok (.sipush 256, 3) := by decide +kernel
theorem dX9_layRound_306 : decode cX9_layRound 306 = .ok (.iload_n 3, 1) := by decide +kernel
theorem dX9_layRound_307 : decode cX9_layRound 307 = .ok (.iconst 1, 1) := by decide +kernel
theorem dX9_layRound_308 : decode cX9_layRound 308 = .ok (.iadd, 1) := by decide +kernel
theorem dX9_layRound_309 : decode cX9_layRound 309 = .ok (.imul, 1) := by decide +kernel
theorem dX9_layRound_310 : decode cX9_layRound 310 = .ok (.iload_n 2, 1) := by decide +kernel
theorem dX9_layRound_311 : decode cX9_layRound 311 = .ok (.iconst 1, 1) := by decide +kernel
theorem dX9_layRound_312 : decode cX9_layRound 312 = .ok (.iload 4, 2) := by decide +kernel
theorem dX9_layRound_314 : decode cX9_layRound 314 = .ok (.ishl, 1) := by decide +kernel
theorem dX9_layRound_315 : decode cX9_layRound 315 = .ok (.ior, 1) := by decide +kernel
theorem dX9_layRound_316 : decode cX9_layRound 316 = .ok (.iadd, 1) := by decide +kernel
theorem dX9_layRound_317 : decode cX9_layRound 317 = .ok (.iaload, 1) := by decide +kernel
theorem dX9_layRound_318 : decode cX9_layRound 318 = .ok (.goto 4, 3) := by decide +kernel
theorem dX9_layRound_321 : decode cX9_layRound 321 = .ok (.iconst (-1), 1) := by decide +kernel
theorem dX9_layRound_322 : decode cX9_layRound 322 = .ok (.istore 6, 2) := by decide +kernel
theorem dX9_layRound_324 : decode cX9_layRound 324 = .ok (.aload_n 0, 1) := by decide +kernel
theorem dX9_layRound_325 : decode cX9_layRound 325 = .ok (.getfield 47, 3) := by decide +kernel
theorem dX9_layRound_328 : decode cX9_layRound 328 = .ok (.iload_n 3, 1) := by decide +kernel
theorem dX9_layRound_329 : decode cX9_layRound 329 = .ok (.iload 6, 2) := by decide +kernel
theorem dX9_layRound_331 : decode cX9_layRound 331 = .ok (.iconst (-1), 1) := by decide +kernel
theorem dX9_layRound_332 : decode cX9_layRound 332 = .ok (.if_icmp .eq 38, 3) := by decide +kernel
theorem dX9_layRound_335 : decode cX9_layRound 335 = .ok (.iload 6, 2) := by decide +kernel
theorem dX9_layRound_337 : decode cX9_layRound 337 = .ok (.aload_n 0, 1) := by decide +kernel
theorem dX9_layRound_338 : decode cX9_layRound 338 = .ok (.getfield 19, 3) := by decide +kernel
theorem dX9_layRound_341 : decode cX9_layRound 341 = .ok (.bipush 8, 2) := by decide +kernel
theorem dX9_layRound_343 : decode cX9_layRound 343 = .ok (.iload_n 3, 1) := by decide +kernel
theorem dX9_layRound_344 : decode cX9_layRound 344 = .ok (.imul, 1) := by decide +kernel
theorem dX9_layRound_345 : decode cX9_layRound 345 = .ok (.iload 4, 2) := by decide +kernel
theorem dX9_layRound_347 : decode cX9_layRound 347 = .ok (.iadd, 1) := by decide +kernel
theorem dX9_layRound_348 : decode cX9_layRound 348 = .ok (.iaload, 1) := by decide +kernel
theorem dX9_layRound_349 : decode cX9_layRound 349 = .ok (.iadd, 1) := by decide +kernel
theorem dX9_layRound_350 : decode cX9_layRound 350 = .ok (.aload_n 0, 1) := by decide +kernel
theorem dX9_layRound_351 : decode cX9_layRound 351 = .ok (.getfield 44, 3) := by decide +kernel
theorem dX9_layRound_354 : decode cX9_layRound 354 = .ok (.sipush 256, 3) := by decide +kernel
theorem dX9_layRound_357 : decode cX9_layRound 357 = .ok (.iload_n 3, 1) := by decide +kernel
theorem dX9_layRound_358 : decode cX9_layRound 358 = .ok (.imul, 1) := by decide +kernel
theorem dX9_layRound_359 : decode cX9_layRound 359 = .ok (.iload_n 2, 1) := by decide +kernel
theorem dX9_layRound_360 : decode cX9_layRound 360 = .ok (.iadd, 1) := by decide +kernel
theorem dX9_layRound_361 : decode cX9_layRound 361 = .ok (.iaload, 1) := by decide +kernel
theorem dX9_layRound_362 : decode cX9_layRound 362 = .ok (.if_icmp .ne 8, 3) := by decide +kernel
theorem dX9_layRound_365 : decode cX9_layRound 365 = .ok (.iload 4, 2) := by decide +kernel
theorem dX9_layRound_367 : decode cX9_layRound 367 = .ok (.goto 9, 3) := by decide +kernel
theorem dX9_layRound_370 : decode cX9_layRound 370 = .ok (.aload_n 0, 1) := by decide +kernel
theorem dX9_layRound_371 : decode cX9_layRound 371 = .ok (.getfield 47, 3) := by decide +kernel
theorem dX9_layRound_374 : decode cX9_layRound 374 = .ok (.iload_n 3, 1) := by decide +kernel
theorem dX9_layRound_375 : decode cX9_layRound 375 = .ok (.iaload, 1) := by decide +kernel
theorem dX9_layRound_376 : decode cX9_layRound 376 = .ok (.iastore, 1) := by decide +kernel
theorem dX9_layRound_377 : decode cX9_layRound 377 = .ok (.iinc 4 (-1), 3) := by decide +kernel
theorem dX9_layRound_380 : decode cX9_layRound 380 = .ok (.goto (-132), 3) := by decide +kernel
theorem dX9_layRound_383 : decode cX9_layRound 383 = .ok (.iload_n 2, 1) := by decide +kernel
theorem dX9_layRound_384 : decode cX9_layRound 384 = .ok (.aload_n 0, 1) := by decide +kernel
theorem dX9_layRound_385 : decode cX9_layRound 385 = .ok (.getfield 47, 3) := by decide +kernel
theorem dX9_layRound_388 : decode cX9_layRound 388 = .ok (.iload_n 3, 1) := by decide +kernel
theorem dX9_layRound_389 : decode cX9_layRound 389 = .ok (.iaload, 1) := by decide +kernel
theorem dX9_layRound_390 : decode cX9_layRound 390 = .ok (.iconst (-1), 1) := by decide +kernel
theorem dX9_layRound_391 : decode cX9_layRound 391 = .ok (.if_icmp .ne 7, 3) := by decide +kernel
theorem dX9_layRound_394 : decode cX9_layRound 394 = .ok (.iconst 0, 1) := by decide +kernel
theorem dX9_layRound_395 : decode cX9_layRound 395 = .ok (.goto 11, 3) := by decide +kernel
theorem dX9_layRound_398 : decode cX9_layRound 398 = .ok (.iconst 1, 1) := by decide +kernel
theorem dX9_layRound_399 : decode cX9_layRound 399 = .ok (.aload_n 0, 1) := by decide +kernel
theorem dX9_layRound_400 : decode cX9_layRound 400 = .ok (.getfield 47, 3) := by decide +kernel
theorem dX9_layRound_403 : decode cX9_layRound 403 = .ok (.iload_n 3, 1) := by decide +kernel
theorem dX9_layRound_404 : decode cX9_layRound 404 = .ok (.iaload, 1) := by decide +kernel
theorem dX9_layRound_405 : decode cX9_layRound 405 = .ok (.ishl, 1) := by decide +kernel
theorem dX9_layRound_406 : decode cX9_layRound 406 = .ok (.ior, 1) := by decide +kernel
theorem dX9_layRound_407 : decode cX9_layRound 407 = .ok (.istore_n 2, 1) := by decide +kernel
theorem dX9_layRound_408 : decode cX9_layRound 408 = .ok (.iinc 3 1, 3) := by decide +kernel
theorem dX9_layRound_411 : decode cX9_layRound 411 = .ok (.goto (-186), 3) := by decide +kernel
theorem dX9_layRound_414 : decode cX9_layRound 414 = .ok (.return_, 1) := by decide +kernel
theorem dX9_tellRound_0 : decode cX9_tellRound 0 = .ok (.aload_n 0, 1) := by decide +kernel
theorem dX9_tellRound_1 : decode cX9_tellRound 1 = .ok (.invokevirtual 262, 3) := by decide +kernel
theorem dX9_tellRound_4 : decode cX9_tellRound 4 = .ok (.aload_n 0, 1) := by decide +kernel
theorem dX9_tellRound_5 : decode cX9_tellRound 5 = .ok (.getfield 44, 3) := by decide +kernel
theorem dX9_tellRound_8 : decode cX9_tellRound 8 = .ok (.iconst 0, 1) := by decide +kernel
theorem dX9_tellRound_9 : decode cX9_tellRound 9 = .ok (.iaload, 1) := by decide +kernel
theorem dX9_tellRound_10 : decode cX9_tellRound 10 = .ok (.istore_n 2, 1) := by decide +kernel
theorem dX9_tellRound_11 : decode cX9_tellRound 11 = .ok (.iload_n 1, 1) := by decide +kernel
theorem dX9_tellRound_12 : decode cX9_tellRound 12 = .ok (.iconst 2, 1) := by decide +kernel
theorem dX9_tellRound_13 : decode cX9_tellRound 13 = .ok (.if_icmp .ge 23, 3) := by decide +kernel
theorem dX9_tellRound_16 : decode cX9_tellRound 16 = .ok (.iload_n 1, 1) := by decide +kernel
theorem dX9_tellRound_17 : decode cX9_tellRound 17 = .ok (.iconst 1, 1) := by decide +kernel
theorem dX9_tellRound_18 : decode cX9_tellRound 18 = .ok (.if_icmp .ne 7, 3) := by decide +kernel
theorem dX9_tellRound_21 : decode cX9_tellRound 21 = .ok (.iload_n 2, 1) := by decide +kernel
theorem dX9_tellRound_22 : decode cX9_tellRound 22 = .ok (.goto 13, 3) := by decide +kernel
theorem dX9_tellRound_25 : decode cX9_tellRound 25 = .ok (.iload_n 2, 1) := by decide +kernel
theorem dX9_tellRound_26 : decode cX9_tellRound 26 = .ok (.iconst (-1), 1) := by decide +kernel
theorem dX9_tellRound_27 : decode cX9_tellRound 27 = .ok (.if_icmp .ne 7, 3) := by decide +kernel
theorem dX9_tellRound_30 : decode cX9_tellRound 30 = .ok (.iconst 0, 1) := by decide +kernel
theorem dX9_tellRound_31 : decode cX9_tellRound 31 = .ok (.goto 4, 3) := by decide +kernel
theorem dX9_tellRound_34 : decode cX9_tellRound 34 = .ok (.iconst 1, 1) := by decide +kernel
theorem dX9_tellRound_35 : decode cX9_tellRound 35 = .ok (.ireturn, 1) := by decide +kernel
theorem dX9_tellRound_36 : decode cX9_tellRound 36 = .ok (.iload_n 1, 1) := by decide +kernel
theorem dX9_tellRound_37 : decode cX9_tellRound 37 = .ok (.bipush 10, 2) := by decide +kernel
theorem dX9_tellRound_39 : decode cX9_tellRound 39 = .ok (.isub, 1) := by decide +kernel
theorem dX9_tellRound_40 : decode cX9_tellRound 40 = .ok (.aload_n 0, 1) := by decide +kernel
theorem dX9_tellRound_41 : decode cX9_tellRound 41 = .ok (.getfield 144, 3) := by decide +kernel
theorem dX9_tellRound_44 : decode cX9_tellRound 44 = .ok (.if_icmp .ge 15, 3) := by decide +kernel
theorem dX9_tellRound_47 : decode cX9_tellRound 47 = .ok (.aload_n 0, 1) := by decide +kernel
theorem dX9_tellRound_48 : decode cX9_tellRound 48 = .ok (.getfield 47, 3) := by decide +kernel
theorem dX9_tellRound_51 : decode cX9_tellRound 51 = .ok (.iload_n 1, 1) := by decide +kernel
theorem dX9_tellRound_52 : decode cX9_tellRound 52 = .ok (.bipush 10, 2) := by decide +kernel
theorem dX9_tellRound_54 : decode cX9_tellRound 54 = .ok (.isub, 1) := by decide +kernel
theorem dX9_tellRound_55 : decode cX9_tellRound 55 = .ok (.iaload, 1) := by decide +kernel
theorem dX9_tellRound_56 : decode cX9_tellRound 56 = .ok (.goto 4, 3) := by decide +kernel
theorem dX9_tellRound_59 : decode cX9_tellRound 59 = .ok (.iconst (-1), 1) := by decide +kernel
theorem dX9_tellRound_60 : decode cX9_tellRound 60 = .ok (.ireturn, 1) := by decide +kernel
theorem dX9_round_0 : decode cX9_round 0 = .ok (.iload_n 1, 1) := by decide +kernel
theorem dX9_round_1 : decode cX9_round 1 = .ok (.i2l, 1) := by decide +kernel
theorem dX9_round_2 : decode cX9_round 2 = .ok (.lconst 0, 1) := by decide +kernel
theorem dX9_round_3 : decode cX9_round 3 = .ok (.lconst 1, 1) := by decide +kernel
theorem dX9_round_4 : decode cX9_round 4 = .ok (.invokestatic 108, 3) := by decide +kernel
theorem dX9_round_7 : decode cX9_round 7 = .ok (.ifCond .ne 17, 3) := by decide +kernel
theorem dX9_round_10 : decode cX9_round 10 = .ok (.iload_n 1, 1) := by decide +kernel
theorem dX9_round_11 : decode cX9_round 11 = .ok (.i2l, 1) := by decide +kernel
theorem dX9_round_12 : decode cX9_round 12 = .ok (.ldc2_w 265, 3) := by decide +kernel
theorem dX9_round_15 : decode cX9_round 15 = .ok (.ldc2_w 267, 3) := by decide +kernel
theorem dX9_round_18 : decode cX9_round 18 = .ok (.invokestatic 108, 3) := by decide +kernel
theorem dX9_round_21 : decode cX9_round 21 = .ok (.ifCond .eq 11, 3) := by decide +kernel
theorem dX9_round_24 : decode cX9_round 24 = .ok (.aload_n 0, 1) := by decide +kernel
theorem dX9_round_25 : decode cX9_round 25 = .ok (.iload_n 1, 1) := by decide +kernel
theorem dX9_round_26 : decode cX9_round 26 = .ok (.invokevirtual 269, 3) := by decide +kernel
theorem dX9_round_29 : decode cX9_round 29 = .ok (.goto 5, 3) := by decide +kernel
theorem dX9_round_32 : decode cX9_round 32 = .ok (.bipush (-102), 2) := by decide +kernel
theorem dX9_round_34 : decode cX9_round 34 = .ok (.ireturn, 1) := by decide +kernel
theorem dX9_layFar_0 : decode cX9_layFar 0 = .ok (.iconst 0, 1) := by decide +kernel
theorem dX9_layFar_1 : decode cX9_layFar 1 = .ok (.istore_n 2, 1) := by decide +kernel
theorem dX9_layFar_2 : decode cX9_layFar 2 = .ok (.iload_n 2, 1) := by decide +kernel
theorem dX9_layFar_3 : decode cX9_layFar 3 = .ok (.bipush 8, 2) := by decide +kernel
theorem dX9_layFar_5 : decode cX9_layFar 5 = .ok (.if_icmp .ge 26, 3) := by decide +kernel
theorem dX9_layFar_8 : decode cX9_layFar 8 = .ok (.aload_n 0, 1) := by decide +kernel
theorem dX9_layFar_9 : decode cX9_layFar 9 = .ok (.getfield 50, 3) := by decide +kernel
theorem dX9_layFar_12 : decode cX9_layFar 12 = .ok (.iload_n 2, 1) := by decide +kernel
theorem dX9_layFar_13 : decode cX9_layFar 13 = .ok (.iload_n 2, 1) := by decide +kernel
theorem dX9_layFar_14 : decode cX9_layFar 14 = .ok (.iload_n 1, 1) := by decide +kernel
theorem dX9_layFar_15 : decode cX9_layFar 15 = .ok (.if_icmp .ne 7, 3) := by decide +kernel
theorem dX9_layFar_18 : decode cX9_layFar 18 = .ok (.iconst 0, 1) := by decide +kernel
theorem dX9_layFar_19 : decode cX9_layFar 19 = .ok (.goto 5, 3) := by decide +kernel
theorem dX9_layFar_22 : decode cX9_layFar 22 = .ok (.bipush 100, 2) := by decide +kernel
theorem dX9_layFar_24 : decode cX9_layFar 24 = .ok (.iastore, 1) := by decide +kernel
theorem dX9_layFar_25 : decode cX9_layFar 25 = .ok (.iinc 2 1, 3) := by decide +kernel
theorem dX9_layFar_28 : decode cX9_layFar 28 = .ok (.goto (-26), 3) := by decide +kernel
theorem dX9_layFar_31 : decode cX9_layFar 31 = .ok (.iconst 0, 1) := by decide +kernel
theorem dX9_layFar_32 : decode cX9_layFar 32 = .ok (.istore_n 2, 1) := by decide +kernel
theorem dX9_layFar_33 : decode cX9_layFar 33 = .ok (.iload_n 2, 1) := by decide +kernel
theorem dX9_layFar_34 : decode cX9_layFar 34 = .ok (.bipush 8, 2) := by decide +kernel
theorem dX9_layFar_36 : decode cX9_layFar 36 = .ok (.if_icmp .ge 112, 3) := by decide +kernel
theorem dX9_layFar_39 : decode cX9_layFar 39 = .ok (.iconst 0, 1) := by decide +kernel
theorem dX9_layFar_40 : decode cX9_layFar 40 = .ok (.istore_n 3, 1) := by decide +kernel
theorem dX9_layFar_41 : decode cX9_layFar 41 = .ok (.iload_n 3, 1) := by decide +kernel
theorem dX9_layFar_42 : decode cX9_layFar 42 = .ok (.aload_n 0, 1) := by decide +kernel
theorem dX9_layFar_43 : decode cX9_layFar 43 = .ok (.getfield 144, 3) := by decide +kernel
theorem dX9_layFar_46 : decode cX9_layFar 46 = .ok (.if_icmp .ge 96, 3) := by decide +kernel
theorem dX9_layFar_49 : decode cX9_layFar 49 = .ok (.iconst 0, 1) := by decide +kernel
theorem dX9_layFar_50 : decode cX9_layFar 50 = .ok (.istore 4, 2) := by decide +kernel
theorem dX9_layFar_52 : decode cX9_layFar 52 = .ok (.iload 4, 2) := by decide +kernel
theorem dX9_layFar_54 : decode cX9_layFar 54 = .ok (.aload_n 0, 1) := by decide +kernel
theorem dX9_layFar_55 : decode cX9_layFar 55 = .ok (.getfield 144, 3) := by decide +kernel
theorem dX9_layFar_58 : decode cX9_layFar 58 = .ok (.if_icmp .ge 78, 3) := by decide +kernel
theorem dX9_layFar_61 : decode cX9_layFar 61 = .ok (.aload_n 0, 1) := by decide +kernel
theorem dX9_layFar_62 : decode cX9_layFar 62 = .ok (.getfield 16, 3) := by decide +kernel
theorem dX9_layFar_65 : decode cX9_layFar 65 = .ok (.iload_n 3, 1) := by decide +kernel
theorem dX9_layFar_66 : decode cX9_layFar 66 = .ok (.iaload, 1) := by decide +kernel
theorem dX9_layFar_67 : decode cX9_layFar 67 = .ok (.iload 4, 2) := by decide +kernel
theorem dX9_layFar_69 : decode cX9_layFar 69 = .ok (.ishr, 1) := by decide +kernel
theorem dX9_layFar_70 : decode cX9_layFar 70 = .ok (.iconst 1, 1) := by decide +kernel
theorem dX9_layFar_71 : decode cX9_layFar 71 = .ok (.iand, 1) := by decide +kernel
theorem dX9_layFar_72 : decode cX9_layFar 72 = .ok (.iconst 1, 1) := by decide +kernel
theorem dX9_layFar_73 : decode cX9_layFar 73 = .ok (.if_icmp .ne 25, 3) := by decide +kernel
theorem dX9_layFar_76 : decode cX9_layFar 76 = .ok (.aload_n 0, 1) := by decide +kernel
theorem dX9_layFar_77 : decode cX9_layFar 77 = .ok (.getfield 50, 3) := by decide +kernel
theorem dX9_layFar_80 : decode cX9_layFar 80 = .ok (.iload 4, 2) := by decide +kernel
theorem dX9_layFar_82 : decode cX9_layFar 82 = .ok (.iaload, 1) := by decide +kernel
theorem dX9_layFar_83 : decode cX9_layFar 83 = .ok (.iconst 1, 1) := by decide +kernel
theorem dX9_layFar_84 : decode cX9_layFar 84 = .ok (.iadd, 1) := by decide +kernel
theorem dX9_layFar_85 : decode cX9_layFar 85 = .ok (.aload_n 0, 1) := by decide +kernel
theorem dX9_layFar_86 : decode cX9_layFar 86 = .ok (.getfield 50, 3) := by decide +kernel
theorem dX9_layFar_89 : decode cX9_layFar 89 = .ok (.iload_n 3, 1) := by decide +kernel
theorem dX9_layFar_90 : decode cX9_layFar 90 = .ok (.iaload, 1) := by decide +kernel
theorem dX9_layFar_91 : decode cX9_layFar 91 = .ok (.if_icmp .ge 7, 3) := by decide +kernel
theorem dX9_layFar_94 : decode cX9_layFar 94 = .ok (.iconst 1, 1) := by decide +kernel
theorem dX9_layFar_95 : decode cX9_layFar 95 = .ok (.goto 4, 3) := by decide +kernel
theorem dX9_layFar_98 : decode cX9_layFar 98 = .ok (.iconst 0, 1) := by decide +kernel
theorem dX9_layFar_99 : decode cX9_layFar 99 = .ok (.istore 5, 2) := by decide +kernel
theorem dX9_layFar_101 : decode cX9_layFar 101 = .ok (.aload_n 0, 1) := by decide +kernel
theorem dX9_layFar_102 : decode cX9_layFar 102 = .ok (.getfield 50, 3) := by decide +kernel
theorem dX9_layFar_105 : decode cX9_layFar 105 = .ok (.iload_n 3, 1) := by decide +kernel
theorem dX9_layFar_106 : decode cX9_layFar 106 = .ok (.iload 5, 2) := by decide +kernel
theorem dX9_layFar_108 : decode cX9_layFar 108 = .ok (.ifCond .eq 15, 3) := by decide +kernel
theorem dX9_layFar_111 : decode cX9_layFar 111 = .ok (.aload_n 0, 1) := by decide +kernel
theorem dX9_layFar_112 : decode cX9_layFar 112 = .ok (.getfield 50, 3) := by decide +kernel
theorem dX9_layFar_115 : decode cX9_layFar 115 = .ok (.iload 4, 2) := by decide +kernel
theorem dX9_layFar_117 : decode cX9_layFar 117 = .ok (.iaload, 1) := by decide +kernel
theorem dX9_layFar_118 : decode cX9_layFar 118 = .ok (.iconst 1, 1) := by decide +kernel
theorem dX9_layFar_119 : decode cX9_layFar 119 = .ok (.iadd, 1) := by decide +kernel
theorem dX9_layFar_120 : decode cX9_layFar 120 = .ok (.goto 9, 3) := by decide +kernel
theorem dX9_layFar_123 : decode cX9_layFar 123 = .ok (.aload_n 0, 1) := by decide +kernel
theorem dX9_layFar_124 : decode cX9_layFar 124 = .ok (.getfield 50, 3) := by decide +kernel
theorem dX9_layFar_127 : decode cX9_layFar 127 = .ok (.iload_n 3, 1) := by decide +kernel
theorem dX9_layFar_128 : decode cX9_layFar 128 = .ok (.iaload, 1) := by decide +kernel
theorem dX9_layFar_129 : decode cX9_layFar 129 = .ok (.iastore, 1) := by decide +kernel
theorem dX9_layFar_130 : decode cX9_layFar 130 = .ok (.iinc 4 1, 3) := by decide +kernel
theorem dX9_layFar_133 : decode cX9_layFar 133 = .ok (.goto (-81), 3) := by decide +kernel
theorem dX9_layFar_136 : decode cX9_layFar 136 = .ok (.iinc 3 1, 3) := by decide +kernel
theorem dX9_layFar_139 : decode cX9_layFar 139 = .ok (.goto (-98), 3) := by decide +kernel
theorem dX9_layFar_142 : decode cX9_layFar 142 = .ok (.iinc 2 1, 3) := by decide +kernel
theorem dX9_layFar_145 : decode cX9_layFar 145 = .ok (.goto (-112), 3) := by decide +kernel
theorem dX9_layFar_148 : decode cX9_layFar 148 = .ok (.return_, 1) := by decide +kernel
theorem dX9_tellStranger_0 : decode cX9_tellStranger 0 = .ok (.aload_n 0, 1) := by decide +kernel
theorem dX9_tellStranger_1 : decode cX9_tellStranger 1 = .ok (.iload_n 2, 1) := by decide +kernel
theorem dX9_tellStranger_2 : decode cX9_tellStranger 2 = .ok (.invokevirtual 272, 3) := by decide +kernel
theorem dX9_tellStranger_5 : decode cX9_tellStranger 5 = .ok (.iload_n 3, 1) := by decide +kernel
theorem dX9_tellStranger_6 : decode cX9_tellStranger 6 = .ok (.ifCond .eq 19, 3) := by decide +kernel
theorem dX9_tellStranger_9 : decode cX9_tellStranger 9 = .ok (.iload_n 1, 1) := by decide +kernel
theorem dX9_tellStranger_10 : decode cX9_tellStranger 10 = .ok (.iload_n 2, 1) := by decide +kernel
theorem dX9_tellStranger_11 : decode cX9_tellStranger 11 = .ok (.if_icmp .eq 14, 3) := by decide +kernel
theorem dX9_tellStranger_14 : decode cX9_tellStranger 14 = .ok (.aload_n 0, 1) := by decide +kernel
theorem dX9_tellStranger_15 : decode cX9_tellStranger 15 = .ok (.getfield 50, 3) := by decide +kernel
theorem dX9_tellStranger_18 : decode cX9_tellStranger 18 = .ok (.iload_n 1, 1) := by decide +kernel
theorem dX9_tellStranger_19 : decode cX9_tellStranger 19 = .ok (.iaload, 1) := by decide +kernel
theorem dX9_tellStranger_20 : decode cX9_tellStranger 20 = .ok (.bipush 100, 2) := by decide +kernel
theorem dX9_tellStranger_22 : decode cX9_tellStranger 22 = .ok (.if_icmp .ne 29, 3) := by decide +kernel
theorem dX9_tellStranger_25 : decode cX9_tellStranger 25 = .ok (.iload_n 3, 1) := by decide +kernel
theorem dX9_tellStranger_26 : decode cX9_tellStranger 26 = .ok (.ifCond .ne 23, 3) := by decide +kernel
theorem dX9_tellStranger_29 : decode cX9_tellStranger 29 = .ok (.aload_n 0, 1) := by decide +kernel
theorem dX9_tellStranger_30 : decode cX9_tellStranger 30 = .ok (.getfield 50, 3) := by decide +kernel
theorem dX9_tellStranger_33 : decode cX9_tellStranger 33 = .ok (.iload_n 1, 1) := by decide +kernel
theorem dX9_tellStranger_34 : decode cX9_tellStranger 34 = .ok (.iaload, 1) := by decide +kernel
theorem dX9_tellStranger_35 : decode cX9_tellStranger 35 = .ok (.bipush 100, 2) := by decide +kernel
theorem dX9_tellStranger_37 : decode cX9_tellStranger 37 = .ok (.if_icmp .ge 12, 3) := by decide +kernel
theorem dX9_tellStranger_40 : decode cX9_tellStranger 40 = .ok (.aload_n 0, 1) := by decide +kernel
theorem dX9_tellStranger_41 : decode cX9_tellStranger 41 = .ok (.getfield 50, 3) := by decide +kernel
theorem dX9_tellStranger_44 : decode cX9_tellStranger 44 = .ok (.iload_n 1, 1) := by decide +kernel
theorem dX9_tellStranger_45 : decode cX9_tellStranger 45 = .ok (.iaload, 1) := by decide +kernel
theorem dX9_tellStranger_46 : decode cX9_tellStranger 46 = .ok (.goto 4, 3) := by decide +kernel
theorem dX9_tellStranger_49 : decode cX9_tellStranger 49 = .ok (.iconst (-1), 1) := by decide +kernel
theorem dX9_tellStranger_50 : decode cX9_tellStranger 50 = .ok (.ireturn, 1) := by decide +kernel
theorem dX9_tellStranger_51 : decode cX9_tellStranger 51 = .ok (.iconst 0, 1) := by decide +kernel
theorem dX9_tellStranger_52 : decode cX9_tellStranger 52 = .ok (.istore 4, 2) := by decide +kernel
theorem dX9_tellStranger_54 : decode cX9_tellStranger 54 = .ok (.aload_n 0, 1) := by decide +kernel
theorem dX9_tellStranger_55 : decode cX9_tellStranger 55 = .ok (.getfield 16, 3) := by decide +kernel
theorem dX9_tellStranger_58 : decode cX9_tellStranger 58 = .ok (.iload_n 1, 1) := by decide +kernel
theorem dX9_tellStranger_59 : decode cX9_tellStranger 59 = .ok (.iaload, 1) := by decide +kernel
theorem dX9_tellStranger_60 : decode cX9_tellStranger 60 = .ok (.iload 4, 2) := by decide +kernel
theorem dX9_tellStranger_62 : decode cX9_tellStranger 62 = .ok (.ishr, 1) := by decide +kernel
theorem dX9_tellStranger_63 : decode cX9_tellStranger 63 = .ok (.iconst 1, 1) := by decide +kernel
theorem dX9_tellStranger_64 : decode cX9_tellStranger 64 = .ok (.iand, 1) := by decide +kernel
theorem dX9_tellStranger_65 : decode cX9_tellStranger 65 = .ok (.ifCond .eq 21, 3) := by decide +kernel
theorem dX9_tellStranger_68 : decode cX9_tellStranger 68 = .ok (.aload_n 0, 1) := by decide +kernel
theorem dX9_tellStranger_69 : decode cX9_tellStranger 69 = .ok (.getfield 50, 3) := by decide +kernel
theorem dX9_tellStranger_72 : decode cX9_tellStranger 72 = .ok (.iload 4, 2) := by decide +kernel
theorem dX9_tellStranger_74 : decode cX9_tellStranger 74 = .ok (.iaload, 1) := by decide +kernel
theorem dX9_tellStranger_75 : decode cX9_tellStranger 75 = .ok (.iconst 1, 1) := by decide +kernel
theorem dX9_tellStranger_76 : decode cX9_tellStranger 76 = .ok (.iadd, 1) := by decide +kernel
theorem dX9_tellStranger_77 : decode cX9_tellStranger 77 = .ok (.aload_n 0, 1) := by decide +kernel
theorem dX9_tellStranger_78 : decode cX9_tellStranger 78 = .ok (.getfield 50, 3) := by decide +kernel
theorem dX9_tellStranger_81 : decode cX9_tellStranger 81 = .ok (.iload_n 1, 1) := by decide +kernel
theorem dX9_tellStranger_82 : decode cX9_tellStranger 82 = .ok (.iaload, 1) := by decide +kernel
theorem dX9_tellStranger_83 : decode cX9_tellStranger 83 = .ok (.if_icmp .eq 9, 3) := by decide +kernel
theorem dX9_tellStranger_86 : decode cX9_tellStranger 86 = .ok (.iinc 4 1, 3) := by decide +kernel
theorem dX9_tellStranger_89 : decode cX9_tellStranger 89 = .ok (.goto (-35), 3) := by decide +kernel
theorem dX9_tellStranger_92 : decode cX9_tellStranger 92 = .ok (.iload 4, 2) := by decide +kernel
theorem dX9_tellStranger_94 : decode cX9_tellStranger 94 = .ok (.ireturn, 1) := by decide +kernel
theorem dX9_stranger_0 : decode cX9_stranger 0 = .ok (.aload_n 0, 1) := by decide +kernel
theorem dX9_stranger_1 : decode cX9_stranger 1 = .ok (.iload_n 1, 1) := by decide +kernel
theorem dX9_stranger_2 : decode cX9_stranger 2 = .ok (.invokevirtual 147, 3) := by decide +kernel
theorem dX9_stranger_5 : decode cX9_stranger 5 = .ok (.ifCond .eq 11, 3) := by decide +kernel
theorem dX9_stranger_8 : decode cX9_stranger 8 = .ok (.aload_n 0, 1) := by decide +kernel
theorem dX9_stranger_9 : decode cX9_stranger 9 = .ok (.iload_n 2, 1) := by decide +kernel
theorem dX9_stranger_10 : decode cX9_stranger 10 = .ok (.invokevirtual 147, 3) := by decide +kernel
theorem dX9_stranger_13 : decode cX9_stranger 13 = .ok (.ifCond .ne 6, 3) := by decide +kernel
theorem dX9_stranger_16 : decode cX9_stranger 16 = .ok (.bipush (-101), 2) := by decide +kernel
theorem dX9_stranger_18 : decode cX9_stranger 18 = .ok (.ireturn, 1) := by decide +kernel
theorem dX9_stranger_19 : decode cX9_stranger 19 = .ok (.iload_n 3, 1) := by decide +kernel
theorem dX9_stranger_20 : decode cX9_stranger 20 = .ok (.i2l, 1) := by decide +kernel
theorem dX9_stranger_21 : decode cX9_stranger 21 = .ok (.lconst 0, 1) := by decide +kernel
theorem dX9_stranger_22 : decode cX9_stranger 22 = .ok (.lconst 1, 1) := by decide +kernel
theorem dX9_stranger_23 : decode cX9_stranger 23 = .ok (.invokestatic 108, 3) := by decide +kernel
theorem dX9_stranger_26 : decode cX9_stranger 26 = .ok (.ifCond .eq 13, 3) := by decide +kernel
theorem dX9_stranger_29 : decode cX9_stranger 29 = .ok (.aload_n 0, 1) := by decide +kernel
theorem dX9_stranger_30 : decode cX9_stranger 30 = .ok (.iload_n 1, 1) := by decide +kernel
theorem dX9_stranger_31 : decode cX9_stranger 31 = .ok (.iload_n 2, 1) := by decide +kernel
theorem dX9_stranger_32 : decode cX9_stranger 32 = .ok (.iload_n 3, 1) := by decide +kernel
theorem dX9_stranger_33 : decode cX9_stranger 33 = .ok (.invokevirtual 275, 3) := by decide +kernel
theorem dX9_stranger_36 : decode cX9_stranger 36 = .ok (.goto 5, 3) := by decide +kernel
theorem dX9_stranger_39 : decode cX9_stranger 39 = .ok (.bipush (-102), 2) := by decide +kernel
theorem dX9_stranger_41 : decode cX9_stranger 41 = .ok (.ireturn, 1) := by decide +kernel
theorem dX9_livesMany_0 : decode cX9_livesMany 0 = .ok (.iconst 0, 1) := by decide +kernel
theorem dX9_livesMany_1 : decode cX9_livesMany 1 = .ok (.istore_n 1, 1) := by decide +kernel
theorem dX9_livesMany_2 : decode cX9_livesMany 2 = .ok (.iconst 0, 1) := by decide +kernel
theorem dX9_livesMany_3 : decode cX9_livesMany 3 = .ok (.istore_n 2, 1) := by decide +kernel
theorem dX9_livesMany_4 : decode cX9_livesMany 4 = .ok (.iload_n 2, 1) := by decide +kernel
theorem dX9_livesMany_5 : decode cX9_livesMany 5 = .ok (.aload_n 0, 1) := by decide +kernel
theorem dX9_livesMany_6 : decode cX9_livesMany 6 = .ok (.getfield 158, 3) := by decide +kernel
theorem dX9_livesMany_9 : decode cX9_livesMany 9 = .ok (.if_icmp .ge 25, 3) := by decide +kernel
theorem dX9_livesMany_12 : decode cX9_livesMany 12 = .ok (.iload_n 1, 1) := by decide +kernel
theorem dX9_livesMany_13 : decode cX9_livesMany 13 = .ok (.aload_n 0, 1) := by decide +kernel
theorem dX9_livesMany_14 : decode cX9_livesMany 14 = .ok (.iload_n 2, 1) := by decide +kernel
theorem dX9_livesMany_15 : decode cX9_livesMany 15 = .ok (.invokevirtual 161, 3) := by decide +kernel
theorem dX9_livesMany_18 : decode cX9_livesMany 18 = .ok (.ifCond .eq 7, 3) := by decide +kernel
theorem dX9_livesMany_21 : decode cX9_livesMany 21 = .ok (.iconst 1, 1) := by decide +kernel
theorem dX9_livesMany_22 : decode cX9_livesMany 22 = .ok (.goto 4, 3) := by decide +kernel
theorem dX9_livesMany_25 : decode cX9_livesMany 25 = .ok (.iconst 0, 1) := by decide +kernel
theorem dX9_livesMany_26 : decode cX9_livesMany 26 = .ok (.iadd, 1) := by decide +kernel
theorem dX9_livesMany_27 : decode cX9_livesMany 27 = .ok (.istore_n 1, 1) := by decide +kernel
theorem dX9_livesMany_28 : decode cX9_livesMany 28 = .ok (.iinc 2 1, 3) := by decide +kernel
theorem dX9_livesMany_31 : decode cX9_livesMany 31 = .ok (.goto (-27), 3) := by decide +kernel
theorem dX9_livesMany_34 : decode cX9_livesMany 34 = .ok (.iload_n 1, 1) := by decide +kernel
theorem dX9_livesMany_35 : decode cX9_livesMany 35 = .ok (.ireturn, 1) := by decide +kernel
theorem dX9_copy_0 : decode cX9_copy 0 = .ok (.iconst 0, 1) := by decide +kernel
theorem dX9_copy_1 : decode cX9_copy 1 = .ok (.istore_n 3, 1) := by decide +kernel
theorem dX9_copy_2 : decode cX9_copy 2 = .ok (.iload_n 3, 1) := by decide +kernel
theorem dX9_copy_3 : decode cX9_copy 3 = .ok (.iload_n 2, 1) := by decide +kernel
theorem dX9_copy_4 : decode cX9_copy 4 = .ok (.if_icmp .ge 15, 3) := by decide +kernel
theorem dX9_copy_7 : decode cX9_copy 7 = .ok (.aload_n 1, 1) := by decide +kernel
theorem dX9_copy_8 : decode cX9_copy 8 = .ok (.iload_n 3, 1) := by decide +kernel
theorem dX9_copy_9 : decode cX9_copy 9 = .ok (.aload_n 0, 1) := by decide +kernel
theorem dX9_copy_10 : decode cX9_copy 10 = .ok (.iload_n 3, 1) := by decide +kernel
theorem dX9_copy_11 : decode cX9_copy 11 = .ok (.iaload, 1) := by decide +kernel
theorem dX9_copy_12 : decode cX9_copy 12 = .ok (.iastore, 1) := by decide +kernel
theorem dX9_copy_13 : decode cX9_copy 13 = .ok (.iinc 3 1, 3) := by decide +kernel
theorem dX9_copy_16 : decode cX9_copy 16 = .ok (.goto (-14), 3) := by decide +kernel
theorem dX9_copy_19 : decode cX9_copy 19 = .ok (.return_, 1) := by decide +kernel
theorem dX9_drawn_0 : decode cX9_drawn 0 = .ok (.iload_n 1, 1) := by decide +kernel
theorem dX9_drawn_1 : decode cX9_drawn 1 = .ok (.i2l, 1) := by decide +kernel
theorem dX9_drawn_2 : decode cX9_drawn 2 = .ok (.lconst 1, 1) := by decide +kernel
theorem dX9_drawn_3 : decode cX9_drawn 3 = .ok (.ldc2_w 225, 3) := by decide +kernel
theorem dX9_drawn_6 : decode cX9_drawn 6 = .ok (.invokestatic 108, 3) := by decide +kernel
theorem dX9_drawn_9 : decode cX9_drawn 9 = .ok (.ifCond .eq 19, 3) := by decide +kernel
theorem dX9_drawn_12 : decode cX9_drawn 12 = .ok (.iload_n 2, 1) := by decide +kernel
theorem dX9_drawn_13 : decode cX9_drawn 13 = .ok (.ifCond .lt 15, 3) := by decide +kernel
theorem dX9_drawn_16 : decode cX9_drawn 16 = .ok (.iload_n 3, 1) := by decide +kernel
theorem dX9_drawn_17 : decode cX9_drawn 17 = .ok (.i2l, 1) := by decide +kernel
theorem dX9_drawn_18 : decode cX9_drawn 18 = .ok (.lconst 0, 1) := by decide +kernel
theorem dX9_drawn_19 : decode cX9_drawn 19 = .ok (.ldc2_w 150, 3) := by decide +kernel
theorem dX9_drawn_22 : decode cX9_drawn 22 = .ok (.invokestatic 108, 3) := by decide +kernel
theorem dX9_drawn_25 : decode cX9_drawn 25 = .ok (.ifCond .ne 6, 3) := by decide +kernel
theorem dX9_drawn_28 : decode cX9_drawn 28 = .ok (.bipush (-102), 2) := by decide +kernel
theorem dX9_drawn_30 : decode cX9_drawn 30 = .ok (.ireturn, 1) := by decide +kernel
theorem dX9_drawn_31 : decode cX9_drawn 31 = .ok (.aload_n 0, 1) := by decide +kernel
theorem dX9_drawn_32 : decode cX9_drawn 32 = .ok (.getfield 28, 3) := by decide +kernel
theorem dX9_drawn_35 : decode cX9_drawn 35 = .ok (.aload_n 0, 1) := by decide +kernel
theorem dX9_drawn_36 : decode cX9_drawn 36 = .ok (.getfield 53, 3) := by decide +kernel
theorem dX9_drawn_39 : decode cX9_drawn 39 = .ok (.bipush 64, 2) := by decide +kernel
theorem dX9_drawn_41 : decode cX9_drawn 41 = .ok (.invokestatic 279, 3) := by decide +kernel
theorem dX9_drawn_44 : decode cX9_drawn 44 = .ok (.aload_n 0, 1) := by decide +kernel
theorem dX9_drawn_45 : decode cX9_drawn 45 = .ok (.getfield 22, 3) := by decide +kernel
theorem dX9_drawn_48 : decode cX9_drawn 48 = .ok (.aload_n 0, 1) := by decide +kernel
theorem dX9_drawn_49 : decode cX9_drawn 49 = .ok (.getfield 56, 3) := by decide +kernel
theorem dX9_drawn_52 : decode cX9_drawn 52 = .ok (.bipush 64, 2) := by decide +kernel
theorem dX9_drawn_54 : decode cX9_drawn 54 = .ok (.invokestatic 279, 3) := by decide +kernel
theorem dX9_drawn_57 : decode cX9_drawn 57 = .ok (.aload_n 0, 1) := by decide +kernel
theorem dX9_drawn_58 : decode cX9_drawn 58 = .ok (.getfield 25, 3) := by decide +kernel
theorem dX9_drawn_61 : decode cX9_drawn 61 = .ok (.aload_n 0, 1) := by decide +kernel
theorem dX9_drawn_62 : decode cX9_drawn 62 = .ok (.getfield 59, 3) := by decide +kernel
theorem dX9_drawn_65 : decode cX9_drawn 65 = .ok (.bipush 8, 2) := by decide +kernel
theorem dX9_drawn_67 : decode cX9_drawn 67 = .ok (.invokestatic 279, 3) := by decide +kernel
theorem dX9_drawn_70 : decode cX9_drawn 70 = .ok (.aload_n 0, 1) := by decide +kernel
theorem dX9_drawn_71 : decode cX9_drawn 71 = .ok (.getfield 194, 3) := by decide +kernel
theorem dX9_drawn_74 : decode cX9_drawn 74 = .ok (.istore 4, 2) := by decide +kernel
theorem dX9_drawn_76 : decode cX9_drawn 76 = .ok (.aload_n 0, 1) := by decide +kernel
theorem dX9_drawn_77 : decode cX9_drawn 77 = .ok (.iload_n 2, 1) := by decide +kernel
theorem dX9_drawn_78 : decode cX9_drawn 78 = .ok (.putfield 202, 3) := by decide +kernel
theorem dX9_drawn_81 : decode cX9_drawn 81 = .ok (.iconst 0, 1) := by decide +kernel
theorem dX9_drawn_82 : decode cX9_drawn 82 = .ok (.istore 5, 2) := by decide +kernel
theorem dX9_drawn_84 : decode cX9_drawn 84 = .ok (.iconst 0, 1) := by decide +kernel
theorem dX9_drawn_85 : decode cX9_drawn 85 = .ok (.istore 6, 2) := by decide +kernel
theorem dX9_drawn_87 : decode cX9_drawn 87 = .ok (.iload 6, 2) := by decide +kernel
theorem dX9_drawn_89 : decode cX9_drawn 89 = .ok (.iload_n 1, 1) := by decide +kernel
theorem dX9_drawn_90 : decode cX9_drawn 90 = .ok (.if_icmp .ge 23, 3) := by decide +kernel
theorem dX9_drawn_93 : decode cX9_drawn 93 = .ok (.aload_n 0, 1) := by decide +kernel
theorem dX9_drawn_94 : decode cX9_drawn 94 = .ok (.iconst 1, 1) := by decide +kernel
theorem dX9_drawn_95 : decode cX9_drawn 95 = .ok (.invokevirtual 227, 3) := by decide +kernel
theorem dX9_drawn_98 : decode cX9_drawn 98 = .ok (.istore 7, 2) := by decide +kernel
theorem dX9_drawn_100 : decode cX9_drawn 100 = .ok (.iload 5, 2) := by decide +kernel
theorem dX9_drawn_102 : decode cX9_drawn 102 = .ok (.iload 7, 2) := by decide +kernel
theorem dX9_drawn_104 : decode cX9_drawn 104 = .ok (.iadd, 1) := by decide +kernel
theorem dX9_drawn_105 : decode cX9_drawn 105 = .ok (.istore 5, 2) := by decide +kernel
theorem dX9_drawn_107 : decode cX9_drawn 107 = .ok (.iinc 6 1, 3) := by decide +kernel
theorem dX9_drawn_110 : decode cX9_drawn 110 = .ok (.goto (-23), 3) := by decide +kernel
theorem dX9_drawn_113 : decode cX9_drawn 113 = .ok (.aload_n 0, 1) := by decide +kernel
theorem dX9_drawn_114 : decode cX9_drawn 114 = .ok (.invokevirtual 283, 3) := by decide +kernel
theorem dX9_drawn_117 : decode cX9_drawn 117 = .ok (.istore 6, 2) := by decide +kernel
theorem dX9_drawn_119 : decode cX9_drawn 119 = .ok (.aload_n 0, 1) := by decide +kernel
theorem dX9_drawn_120 : decode cX9_drawn 120 = .ok (.getfield 194, 3) := by decide +kernel
theorem dX9_drawn_123 : decode cX9_drawn 123 = .ok (.iload 4, 2) := by decide +kernel
theorem dX9_drawn_125 : decode cX9_drawn 125 = .ok (.isub, 1) := by decide +kernel
theorem dX9_drawn_126 : decode cX9_drawn 126 = .ok (.istore 7, 2) := by decide +kernel
theorem dX9_drawn_128 : decode cX9_drawn 128 = .ok (.aload_n 0, 1) := by decide +kernel
theorem dX9_drawn_129 : decode cX9_drawn 129 = .ok (.getfield 53, 3) := by decide +kernel
theorem dX9_drawn_132 : decode cX9_drawn 132 = .ok (.aload_n 0, 1) := by decide +kernel
theorem dX9_drawn_133 : decode cX9_drawn 133 = .ok (.getfield 28, 3) := by decide +kernel
theorem dX9_drawn_136 : decode cX9_drawn 136 = .ok (.bipush 64, 2) := by decide +kernel
theorem dX9_drawn_138 : decode cX9_drawn 138 = .ok (.invokestatic 279, 3) := by decide +kernel
theorem dX9_drawn_141 : decode cX9_drawn 141 = .ok (.aload_n 0, 1) := by decide +kernel
theorem dX9_drawn_142 : decode cX9_drawn 142 = .ok (.getfield 56, 3) := by decide +kernel
theorem dX9_drawn_145 : decode cX9_drawn 145 = .ok (.aload_n 0, 1) := by decide +kernel
theorem dX9_drawn_146 : decode cX9_drawn 146 = .ok (.getfield 22, 3) := by decide +kernel
theorem dX9_drawn_149 : decode cX9_drawn 149 = .ok (.bipush 64, 2) := by decide +kernel
theorem dX9_drawn_151 : decode cX9_drawn 151 = .ok (.invokestatic 279, 3) := by decide +kernel
theorem dX9_drawn_154 : decode cX9_drawn 154 = .ok (.aload_n 0, 1) := by decide +kernel
theorem dX9_drawn_155 : decode cX9_drawn 155 = .ok (.getfield 59, 3) := by decide +kernel
theorem dX9_drawn_158 : decode cX9_drawn 158 = .ok (.aload_n 0, 1) := by decide +kernel
theorem dX9_drawn_159 : decode cX9_drawn 159 = .ok (.getfield 25, 3) := by decide +kernel
theorem dX9_drawn_162 : decode cX9_drawn 162 = .ok (.bipush 8, 2) := by decide +kernel
theorem dX9_drawn_164 : decode cX9_drawn 164 = .ok (.invokestatic 279, 3) := by decide +kernel
theorem dX9_drawn_167 : decode cX9_drawn 167 = .ok (.aload_n 0, 1) := by decide +kernel
theorem dX9_drawn_168 : decode cX9_drawn 168 = .ok (.iload 4, 2) := by decide +kernel
theorem dX9_drawn_170 : decode cX9_drawn 170 = .ok (.putfield 194, 3) := by decide +kernel
theorem dX9_drawn_173 : decode cX9_drawn 173 = .ok (.aload_n 0, 1) := by decide +kernel
theorem dX9_drawn_174 : decode cX9_drawn 174 = .ok (.dup, 1) := by decide +kernel
theorem dX9_drawn_175 : decode cX9_drawn 175 = .ok (.getfield 222, 3) := by decide +kernel
theorem dX9_drawn_178 : decode cX9_drawn 178 = .ok (.iload_n 1, 1) := by decide +kernel
theorem dX9_drawn_179 : decode cX9_drawn 179 = .ok (.isub, 1) := by decide +kernel
theorem dX9_drawn_180 : decode cX9_drawn 180 = .ok (.putfield 222, 3) := by decide +kernel
theorem dX9_drawn_183 : decode cX9_drawn 183 = .ok (.iload_n 3, 1) := by decide +kernel
theorem dX9_drawn_184 : decode cX9_drawn 184 = .ok (.ifCond .ne 8, 3) := by decide +kernel
theorem dX9_drawn_187 : decode cX9_drawn 187 = .ok (.iload 5, 2) := by decide +kernel
theorem dX9_drawn_189 : decode cX9_drawn 189 = .ok (.goto 27, 3) := by decide +kernel
theorem dX9_drawn_192 : decode cX9_drawn 192 = .ok (.iload_n 3, 1) := by decide +kernel
theorem dX9_drawn_193 : decode cX9_drawn 193 = .ok (.iconst 1, 1) := by decide +kernel
theorem dX9_drawn_194 : decode cX9_drawn 194 = .ok (.if_icmp .ne 8, 3) := by decide +kernel
theorem dX9_drawn_197 : decode cX9_drawn 197 = .ok (.iload 6, 2) := by decide +kernel
theorem dX9_drawn_199 : decode cX9_drawn 199 = .ok (.goto 17, 3) := by decide +kernel
theorem dX9_drawn_202 : decode cX9_drawn 202 = .ok (.iload_n 3, 1) := by decide +kernel
theorem dX9_drawn_203 : decode cX9_drawn 203 = .ok (.iconst 2, 1) := by decide +kernel
theorem dX9_drawn_204 : decode cX9_drawn 204 = .ok (.if_icmp .ne 8, 3) := by decide +kernel
theorem dX9_drawn_207 : decode cX9_drawn 207 = .ok (.iload 7, 2) := by decide +kernel
theorem dX9_drawn_209 : decode cX9_drawn 209 = .ok (.goto 7, 3) := by decide +kernel
theorem dX9_drawn_212 : decode cX9_drawn 212 = .ok (.aload_n 0, 1) := by decide +kernel
theorem dX9_drawn_213 : decode cX9_drawn 213 = .ok (.getfield 202, 3) := by decide +kernel
theorem dX9_drawn_216 : decode cX9_drawn 216 = .ok (.ireturn, 1) := by decide +kernel
theorem dX9_open_0 : decode cX9_open 0 = .ok (.aload_n 0, 1) := by decide +kernel
theorem dX9_open_1 : decode cX9_open 1 = .ok (.iload_n 1, 1) := by decide +kernel
theorem dX9_open_2 : decode cX9_open 2 = .ok (.invokevirtual 147, 3) := by decide +kernel
theorem dX9_open_5 : decode cX9_open 5 = .ok (.ifCond .ne 6, 3) := by decide +kernel
theorem dX9_open_8 : decode cX9_open 8 = .ok (.bipush (-101), 2) := by decide +kernel
theorem dX9_open_10 : decode cX9_open 10 = .ok (.ireturn, 1) := by decide +kernel
theorem dX9_open_11 : decode cX9_open 11 = .ok (.iload_n 2, 1) := by decide +kernel
theorem dX9_open_12 : decode cX9_open 12 = .ok (.i2l, 1) := by decide +kernel
theorem dX9_open_13 : decode cX9_open 13 = .ok (.lconst 1, 1) := by decide +kernel
theorem dX9_open_14 : decode cX9_open 14 = .ok (.ldc2_w 249, 3) := by decide +kernel
theorem dX9_open_17 : decode cX9_open 17 = .ok (.invokestatic 108, 3) := by decide +kernel
theorem dX9_open_20 : decode cX9_open 20 = .ok (.ifCond .ne 6, 3) := by decide +kernel
theorem dX9_open_23 : decode cX9_open 23 = .ok (.bipush (-102), 2) := by decide +kernel
theorem dX9_open_25 : decode cX9_open 25 = .ok (.ireturn, 1) := by decide +kernel
theorem dX9_open_26 : decode cX9_open 26 = .ok (.aload_n 0, 1) := by decide +kernel
theorem dX9_open_27 : decode cX9_open 27 = .ok (.iload_n 1, 1) := by decide +kernel
theorem dX9_open_28 : decode cX9_open 28 = .ok (.putfield 90, 3) := by decide +kernel
theorem dX9_open_31 : decode cX9_open 31 = .ok (.aload_n 0, 1) := by decide +kernel
theorem dX9_open_32 : decode cX9_open 32 = .ok (.iload_n 2, 1) := by decide +kernel
theorem dX9_open_33 : decode cX9_open 33 = .ok (.putfield 286, 3) := by decide +kernel
theorem dX9_open_36 : decode cX9_open 36 = .ok (.iconst 0, 1) := by decide +kernel
theorem dX9_open_37 : decode cX9_open 37 = .ok (.istore_n 3, 1) := by decide +kernel
theorem dX9_open_38 : decode cX9_open 38 = .ok (.iload_n 3, 1) := by decide +kernel
theorem dX9_open_39 : decode cX9_open 39 = .ok (.bipush 8, 2) := by decide +kernel
theorem dX9_open_41 : decode cX9_open 41 = .ok (.if_icmp .ge 16, 3) := by decide +kernel
theorem dX9_open_44 : decode cX9_open 44 = .ok (.aload_n 0, 1) := by decide +kernel
theorem dX9_open_45 : decode cX9_open 45 = .ok (.getfield 62, 3) := by decide +kernel
theorem dX9_open_48 : decode cX9_open 48 = .ok (.iload_n 3, 1) := by decide +kernel
theorem dX9_open_49 : decode cX9_open 49 = .ok (.iconst (-1), 1) := by decide +kernel
theorem dX9_open_50 : decode cX9_open 50 = .ok (.iastore, 1) := by decide +kernel
theorem dX9_open_51 : decode cX9_open 51 = .ok (.iinc 3 1, 3) := by decide +kernel
theorem dX9_open_54 : decode cX9_open 54 = .ok (.goto (-16), 3) := by decide +kernel
theorem dX9_open_57 : decode cX9_open 57 = .ok (.aload_n 0, 1) := by decide +kernel
theorem dX9_open_58 : decode cX9_open 58 = .ok (.getfield 144, 3) := by decide +kernel
theorem dX9_open_61 : decode cX9_open 61 = .ok (.ireturn, 1) := by decide +kernel
theorem dX9_isYear_0 : decode cX9_isYear 0 = .ok (.iload_n 1, 1) := by decide +kernel
theorem dX9_isYear_1 : decode cX9_isYear 1 = .ok (.i2l, 1) := by decide +kernel
theorem dX9_isYear_2 : decode cX9_isYear 2 = .ok (.lconst 1, 1) := by decide +kernel
theorem dX9_isYear_3 : decode cX9_isYear 3 = .ok (.aload_n 0, 1) := by decide +kernel
theorem dX9_isYear_4 : decode cX9_isYear 4 = .ok (.getfield 286, 3) := by decide +kernel
theorem dX9_isYear_7 : decode cX9_isYear 7 = .ok (.i2l, 1) := by decide +kernel
theorem dX9_isYear_8 : decode cX9_isYear 8 = .ok (.invokestatic 108, 3) := by decide +kernel
theorem dX9_isYear_11 : decode cX9_isYear 11 = .ok (.ireturn, 1) := by decide +kernel
theorem dX9_write_0 : decode cX9_write 0 = .ok (.aload_n 0, 1) := by decide +kernel
theorem dX9_write_1 : decode cX9_write 1 = .ok (.getfield 90, 3) := by decide +kernel
theorem dX9_write_4 : decode cX9_write 4 = .ok (.iconst (-1), 1) := by decide +kernel
theorem dX9_write_5 : decode cX9_write 5 = .ok (.if_icmp .ne 6, 3) := by decide +kernel
theorem dX9_write_8 : decode cX9_write 8 = .ok (.bipush (-103), 2) := by decide +kernel
theorem dX9_write_10 : decode cX9_write 10 = .ok (.ireturn, 1) := by decide +kernel
theorem dX9_write_11 : decode cX9_write 11 = .ok (.aload_n 0, 1) := by decide +kernel
theorem dX9_write_12 : decode cX9_write 12 = .ok (.iload_n 1, 1) := by decide +kernel
theorem dX9_write_13 : decode cX9_write 13 = .ok (.invokevirtual 289, 3) := by decide +kernel
theorem dX9_write_16 : decode cX9_write 16 = .ok (.ifCond .eq 16, 3) := by decide +kernel
theorem dX9_write_19 : decode cX9_write 19 = .ok (.iload_n 2, 1) := by decide +kernel
theorem dX9_write_20 : decode cX9_write 20 = .ok (.iconst (-1), 1) := by decide +kernel
theorem dX9_write_21 : decode cX9_write 21 = .ok (.if_icmp .eq 14, 3) := by decide +kernel
theorem dX9_write_24 : decode cX9_write 24 = .ok (.aload_n 0, 1) := by decide +kernel
theorem dX9_write_25 : decode cX9_write 25 = .ok (.iload_n 2, 1) := by decide +kernel
theorem dX9_write_26 : decode cX9_write 26 = .ok (.invokevirtual 147, 3) := by decide +kernel
theorem dX9_write_29 : decode cX9_write 29 = .ok (.ifCond .ne 6, 3) := by decide +kernel
theorem dX9_write_32 : decode cX9_write 32 = .ok (.bipush (-101), 2) := by decide +kernel
theorem dX9_write_34 : decode cX9_write 34 = .ok (.ireturn, 1) := by decide +kernel
theorem dX9_write_35 : decode cX9_write 35 = .ok (.aload_n 0, 1) := by decide +kernel
theorem dX9_write_36 : decode cX9_write 36 = .ok (.getfield 62, 3) := by decide +kernel
theorem dX9_write_39 : decode cX9_write 39 = .ok (.iload_n 1, 1) := by decide +kernel
theorem dX9_write_40 : decode cX9_write 40 = .ok (.iaload, 1) := by decide +kernel
theorem dX9_write_41 : decode cX9_write 41 = .ok (.istore_n 3, 1) := by decide +kernel
theorem dX9_write_42 : decode cX9_write 42 = .ok (.aload_n 0, 1) := by decide +kernel
theorem dX9_write_43 : decode cX9_write 43 = .ok (.getfield 62, 3) := by decide +kernel
theorem dX9_write_46 : decode cX9_write 46 = .ok (.iload_n 1, 1) := by decide +kernel
theorem dX9_write_47 : decode cX9_write 47 = .ok (.iload_n 2, 1) := by decide +kernel
theorem dX9_write_48 : decode cX9_write 48 = .ok (.iastore, 1) := by decide +kernel
theorem dX9_write_49 : decode cX9_write 49 = .ok (.iload_n 3, 1) := by decide +kernel
theorem dX9_write_50 : decode cX9_write 50 = .ok (.ireturn, 1) := by decide +kernel
theorem dX9_filledOf_0 : decode cX9_filledOf 0 = .ok (.iconst 0, 1) := by decide +kernel
theorem dX9_filledOf_1 : decode cX9_filledOf 1 = .ok (.istore_n 1, 1) := by decide +kernel
theorem dX9_filledOf_2 : decode cX9_filledOf 2 = .ok (.iload_n 1, 1) := by decide +kernel
theorem dX9_filledOf_3 : decode cX9_filledOf 3 = .ok (.bipush 72, 2) := by decide +kernel
theorem dX9_filledOf_5 : decode cX9_filledOf 5 = .ok (.if_icmp .ge 34, 3) := by decide +kernel
theorem dX9_filledOf_8 : decode cX9_filledOf 8 = .ok (.aload_n 0, 1) := by decide +kernel
theorem dX9_filledOf_9 : decode cX9_filledOf 9 = .ok (.getfield 34, 3) := by decide +kernel
theorem dX9_filledOf_12 : decode cX9_filledOf 12 = .ok (.iload_n 1, 1) := by decide +kernel
theorem dX9_filledOf_13 : decode cX9_filledOf 13 = .ok (.iload_n 1, 1) := by decide +kernel
theorem dX9_filledOf_14 : decode cX9_filledOf 14 = .ok (.bipush 9, 2) := by decide +kernel
theorem dX9_filledOf_16 : decode cX9_filledOf 16 = .ok (.aload_n 0, 1) := by decide +kernel
theorem dX9_filledOf_17 : decode cX9_filledOf 17 = .ok (.getfield 90, 3) := by decide +kernel
theorem dX9_filledOf_20 : decode cX9_filledOf 20 = .ok (.imul, 1) := by decide +kernel
theorem dX9_filledOf_21 : decode cX9_filledOf 21 = .ok (.bipush 8, 2) := by decide +kernel
theorem dX9_filledOf_23 : decode cX9_filledOf 23 = .ok (.iadd, 1) := by decide +kernel
theorem dX9_filledOf_24 : decode cX9_filledOf 24 = .ok (.if_icmp .ne 7, 3) := by decide +kernel
theorem dX9_filledOf_27 : decode cX9_filledOf 27 = .ok (.lconst 1, 1) := by decide +kernel
theorem dX9_filledOf_28 : decode cX9_filledOf 28 = .ok (.goto 4, 3) := by decide +kernel
theorem dX9_filledOf_31 : decode cX9_filledOf 31 = .ok (.lconst 0, 1) := by decide +kernel
theorem dX9_filledOf_32 : decode cX9_filledOf 32 = .ok (.lastore, 1) := by decide +kernel
theorem dX9_filledOf_33 : decode cX9_filledOf 33 = .ok (.iinc 1 1, 3) := by decide +kernel
theorem dX9_filledOf_36 : decode cX9_filledOf 36 = .ok (.goto (-34), 3) := by decide +kernel
theorem dX9_filledOf_39 : decode cX9_filledOf 39 = .ok (.iconst 1, 1) := by decide +kernel
theorem dX9_filledOf_40 : decode cX9_filledOf 40 = .ok (.istore_n 1, 1) := by decide +kernel
theorem dX9_filledOf_41 : decode cX9_filledOf 41 = .ok (.iload_n 1, 1) := by decide +kernel
theorem dX9_filledOf_42 : decode cX9_filledOf 42 = .ok (.aload_n 0, 1) := by decide +kernel
theorem dX9_filledOf_43 : decode cX9_filledOf 43 = .ok (.getfield 286, 3) := by decide +kernel
theorem dX9_filledOf_46 : decode cX9_filledOf 46 = .ok (.if_icmp .gt 207, 3) := by decide +kernel
theorem dX9_filledOf_49 : decode cX9_filledOf 49 = .ok (.iconst 0, 1) := by decide +kernel
theorem dX9_filledOf_50 : decode cX9_filledOf 50 = .ok (.istore_n 2, 1) := by decide +kernel
theorem dX9_filledOf_51 : decode cX9_filledOf 51 = .ok (.iload_n 2, 1) := by decide +kernel
theorem dX9_filledOf_52 : decode cX9_filledOf 52 = .ok (.bipush 72, 2) := by decide +kernel
theorem dX9_filledOf_54 : decode cX9_filledOf 54 = .ok (.if_icmp .ge 16, 3) := by decide +kernel
theorem dX9_filledOf_57 : decode cX9_filledOf 57 = .ok (.aload_n 0, 1) := by decide +kernel
theorem dX9_filledOf_58 : decode cX9_filledOf 58 = .ok (.getfield 38, 3) := by decide +kernel
theorem dX9_filledOf_61 : decode cX9_filledOf 61 = .ok (.iload_n 2, 1) := by decide +kernel
theorem dX9_filledOf_62 : decode cX9_filledOf 62 = .ok (.lconst 0, 1) := by decide +kernel
theorem dX9_filledOf_63 : decode cX9_filledOf 63 = .ok (.lastore, 1) := by decide +kernel
theorem dX9_filledOf_64 : decode cX9_filledOf 64 = .ok (.iinc 2 1, 3) := by decide +kernel
theorem dX9_filledOf_67 : decode cX9_filledOf 67 = .ok (.goto (-16), 3) := by decide +kernel
theorem dX9_filledOf_70 : decode cX9_filledOf 70 = .ok (.iconst 0, 1) := by decide +kernel
theorem dX9_filledOf_71 : decode cX9_filledOf 71 = .ok (.istore_n 2, 1) := by decide +kernel
theorem dX9_filledOf_72 : decode cX9_filledOf 72 = .ok (.iload_n 2, 1) := by decide +kernel
theorem dX9_filledOf_73 : decode cX9_filledOf 73 = .ok (.bipush 72, 2) := by decide +kernel
theorem dX9_filledOf_75 : decode cX9_filledOf 75 = .ok (.if_icmp .ge 146, 3) := by decide +kernel
theorem dX9_filledOf_78 : decode cX9_filledOf 78 = .ok (.iload_n 2, 1) := by decide +kernel
theorem dX9_filledOf_79 : decode cX9_filledOf 79 = .ok (.bipush 9, 2) := by decide +kernel
theorem dX9_filledOf_81 : decode cX9_filledOf 81 = .ok (.idiv, 1) := by decide +kernel
theorem dX9_filledOf_82 : decode cX9_filledOf 82 = .ok (.istore_n 3, 1) := by decide +kernel
theorem dX9_filledOf_83 : decode cX9_filledOf 83 = .ok (.iconst 0, 1) := by decide +kernel
theorem dX9_filledOf_84 : decode cX9_filledOf 84 = .ok (.istore 4, 2) := by decide +kernel
theorem dX9_filledOf_86 : decode cX9_filledOf 86 = .ok (.iload 4, 2) := by decide +kernel
theorem dX9_filledOf_88 : decode cX9_filledOf 88 = .ok (.aload_n 0, 1) := by decide +kernel
theorem dX9_filledOf_89 : decode cX9_filledOf 89 = .ok (.getfield 144, 3) := by decide +kernel
theorem dX9_filledOf_92 : decode cX9_filledOf 92 = .ok (.if_icmp .ge 123, 3) := by decide +kernel
theorem dX9_filledOf_95 : decode cX9_filledOf 95 = .ok (.aload_n 0, 1) := by decide +kernel
theorem dX9_filledOf_96 : decode cX9_filledOf 96 = .ok (.getfield 34, 3) := by decide +kernel
theorem dX9_filledOf_99 : decode cX9_filledOf 99 = .ok (.iload_n 2, 1) := by decide +kernel
theorem dX9_filledOf_100 : decode cX9_filledOf 100 = .ok (.laload, 1) := by decide +kernel
theorem dX9_filledOf_101 : decode cX9_filledOf 101 = .ok (.lconst 0, 1) := by decide +kernel
theorem dX9_filledOf_102 : decode cX9_filledOf 102 = .ok (.lcmp, 1) := by decide +kernel
theorem dX9_filledOf_103 : decode cX9_filledOf 103 = .ok (.ifCond .le 112, 3) := by decide +kernel
theorem dX9_filledOf_106 : decode cX9_filledOf 106 = .ok (.aload_n 0, 1) := by decide +kernel
theorem dX9_filledOf_107 : decode cX9_filledOf 107 = .ok (.getfield 16, 3) := by decide +kernel
theorem dX9_filledOf_110 : decode cX9_filledOf 110 = .ok (.iload_n 3, 1) := by decide +kernel
theorem dX9_filledOf_111 : decode cX9_filledOf 111 = .ok (.iaload, 1) := by decide +kernel
theorem dX9_filledOf_112 : decode cX9_filledOf 112 = .ok (.iload 4, 2) := by decide +kernel
theorem dX9_filledOf_114 : decode cX9_filledOf 114 = .ok (.ishr, 1) := by decide +kernel
theorem dX9_filledOf_115 : decode cX9_filledOf 115 = .ok (.iconst 1, 1) := by decide +kernel
theorem dX9_filledOf_116 : decode cX9_filledOf 116 = .ok (.iand, 1) := by decide +kernel
theorem dX9_filledOf_117 : decode cX9_filledOf 117 = .ok (.iconst 1, 1) := by decide +kernel
theorem dX9_filledOf_118 : decode cX9_filledOf 118 = .ok (.if_icmp .ne 25, 3) := by decide +kernel
theorem dX9_filledOf_121 : decode cX9_filledOf 121 = .ok (.iload 4, 2) := by decide +kernel
theorem dX9_filledOf_123 : decode cX9_filledOf 123 = .ok (.iload_n 2, 1) := by decide +kernel
theorem dX9_filledOf_124 : decode cX9_filledOf 124 = .ok (.bipush 9, 2) := by decide +kernel
theorem dX9_filledOf_126 : decode cX9_filledOf 126 = .ok (.irem, 1) := by decide +kernel
theorem dX9_filledOf_127 : decode cX9_filledOf 127 = .ok (.if_icmp .eq 16, 3) := by decide +kernel
theorem dX9_filledOf_130 : decode cX9_filledOf 130 = .ok (.iload 4, 2) := by decide +kernel
theorem dX9_filledOf_132 : decode cX9_filledOf 132 = .ok (.aload_n 0, 1) := by decide +kernel
theorem dX9_filledOf_133 : decode cX9_filledOf 133 = .ok (.getfield 90, 3) := by decide +kernel
theorem dX9_filledOf_136 : decode cX9_filledOf 136 = .ok (.if_icmp .eq 7, 3) := by decide +kernel
theorem dX9_filledOf_139 : decode cX9_filledOf 139 = .ok (.iconst 1, 1) := by decide +kernel
theorem dX9_filledOf_140 : decode cX9_filledOf 140 = .ok (.goto 4, 3) := by decide +kernel
theorem dX9_filledOf_143 : decode cX9_filledOf 143 = .ok (.iconst 0, 1) := by decide +kernel
theorem dX9_filledOf_144 : decode cX9_filledOf 144 = .ok (.istore 5, 2) := by decide +kernel
theorem dX9_filledOf_146 : decode cX9_filledOf 146 = .ok (.iload 5, 2) := by decide +kernel
theorem dX9_filledOf_148 : decode cX9_filledOf 148 = .ok (.ifCond .eq 28, 3) := by decide +kernel
theorem dX9_filledOf_151 : decode cX9_filledOf 151 = .ok (.aload_n 0, 1) := by decide +kernel
theorem dX9_filledOf_152 : decode cX9_filledOf 152 = .ok (.getfield 62, 3) := by decide +kernel
theorem dX9_filledOf_155 : decode cX9_filledOf 155 = .ok (.iload_n 1, 1) := by decide +kernel
theorem dX9_filledOf_156 : decode cX9_filledOf 156 = .ok (.iaload, 1) := by decide +kernel
theorem dX9_filledOf_157 : decode cX9_filledOf 157 = .ok (.iconst (-1), 1) := by decide +kernel
theorem dX9_filledOf_158 : decode cX9_filledOf 158 = .ok (.if_icmp .eq 14, 3) := by decide +kernel
theorem dX9_filledOf_161 : decode cX9_filledOf 161 = .ok (.aload_n 0, 1) := by decide +kernel
theorem dX9_filledOf_162 : decode cX9_filledOf 162 = .ok (.getfield 62, 3) := by decide +kernel
theorem dX9_filledOf_165 : decode cX9_filledOf 165 = .ok (.iload_n 1, 1) := by decide +kernel
theorem dX9_filledOf_166 : decode cX9_filledOf 166 = .ok (.iaload, 1) := by decide +kernel
theorem dX9_filledOf_167 : decode cX9_filledOf 167 = .ok (.iload 4, 2) := by decide +kernel
theorem dX9_filledOf_169 : decode cX9_filledOf 169 = .ok (.if_icmp .ne 7, 3) := by decide +kernel
theorem dX9_filledOf_172 : decode cX9_filledOf 172 = .ok (.iconst 1, 1) := by decide +kernel
theorem dX9_filledOf_173 : decode cX9_filledOf 173 = .ok (.goto 4, 3) := by decide +kernel
theorem dX9_filledOf_176 : decode cX9_filledOf 176 = .ok (.iconst 0, 1) := by decide +kernel
theorem dX9_filledOf_177 : decode cX9_filledOf 177 = .ok (.istore 5, 2) := by decide +kernel
theorem dX9_filledOf_179 : decode cX9_filledOf 179 = .ok (.aload_n 0, 1) := by decide +kernel
theorem dX9_filledOf_180 : decode cX9_filledOf 180 = .ok (.getfield 38, 3) := by decide +kernel
theorem dX9_filledOf_183 : decode cX9_filledOf 183 = .ok (.bipush 9, 2) := by decide +kernel
theorem dX9_filledOf_185 : decode cX9_filledOf 185 = .ok (.iload 4, 2) := by decide +kernel
theorem dX9_filledOf_187 : decode cX9_filledOf 187 = .ok (.imul, 1) := by decide +kernel
theorem dX9_filledOf_188 : decode cX9_filledOf 188 = .ok (.iload_n 3, 1) := by decide +kernel
theorem dX9_filledOf_189 : decode cX9_filledOf 189 = .ok (.iadd, 1) := by decide +kernel
theorem dX9_filledOf_190 : decode cX9_filledOf 190 = .ok (.dup2, 1) := by decide +kernel
theorem dX9_filledOf_191 : decode cX9_filledOf 191 = .ok (.laload, 1) := by decide +kernel
theorem dX9_filledOf_192 : decode cX9_filledOf 192 = .ok (.iload 5, 2) := by decide +kernel
theorem dX9_filledOf_194 : decode cX9_filledOf 194 = .ok (.ifCond .eq 12, 3) := by decide +kernel
theorem dX9_filledOf_197 : decode cX9_filledOf 197 = .ok (.aload_n 0, 1) := by decide +kernel
theorem dX9_filledOf_198 : decode cX9_filledOf 198 = .ok (.getfield 34, 3) := by decide +kernel
theorem dX9_filledOf_201 : decode cX9_filledOf 201 = .ok (.iload_n 2, 1) := by decide +kernel
theorem dX9_filledOf_202 : decode cX9_filledOf 202 = .ok (.laload, 1) := by decide +kernel
theorem dX9_filledOf_203 : decode cX9_filledOf 203 = .ok (.goto 4, 3) := by decide +kernel
theorem dX9_filledOf_206 : decode cX9_filledOf 206 = .ok (.lconst 0, 1) := by decide +kernel
theorem dX9_filledOf_207 : decode cX9_filledOf 207 = .ok (.ladd, 1) := by decide +kernel
theorem dX9_filledOf_208 : decode cX9_filledOf 208 = .ok (.lastore, 1) := by decide +kernel
theorem dX9_filledOf_209 : decode cX9_filledOf 209 = .ok (.iinc 4 1, 3) := by decide +kernel
theorem dX9_filledOf_212 : decode cX9_filledOf 212 = .ok (.goto (-126), 3) := by decide +kernel
theorem dX9_filledOf_215 : decode cX9_filledOf 215 = .ok (.iinc 2 1, 3) := by decide +kernel
theorem dX9_filledOf_218 : decode cX9_filledOf 218 = .ok (.goto (-146), 3) := by decide +kernel
theorem dX9_filledOf_221 : decode cX9_filledOf 221 = .ok (.iconst 0, 1) := by decide +kernel
theorem dX9_filledOf_222 : decode cX9_filledOf 222 = .ok (.istore_n 2, 1) := by decide +kernel
theorem dX9_filledOf_223 : decode cX9_filledOf 223 = .ok (.iload_n 2, 1) := by decide +kernel
theorem dX9_filledOf_224 : decode cX9_filledOf 224 = .ok (.bipush 72, 2) := by decide +kernel
theorem dX9_filledOf_226 : decode cX9_filledOf 226 = .ok (.if_icmp .ge 21, 3) := by decide +kernel
theorem dX9_filledOf_229 : decode cX9_filledOf 229 = .ok (.aload_n 0, 1) := by decide +kernel
theorem dX9_filledOf_230 : decode cX9_filledOf 230 = .ok (.getfield 34, 3) := by decide +kernel
theorem dX9_filledOf_233 : decode cX9_filledOf 233 = .ok (.iload_n 2, 1) := by decide +kernel
theorem dX9_filledOf_234 : decode cX9_filledOf 234 = .ok (.aload_n 0, 1) := by decide +kernel
theorem dX9_filledOf_235 : decode cX9_filledOf 235 = .ok (.getfield 38, 3) := by decide +kernel
theorem dX9_filledOf_238 : decode cX9_filledOf 238 = .ok (.iload_n 2, 1) := by decide +kernel
theorem dX9_filledOf_239 : decode cX9_filledOf 239 = .ok (.laload, 1) := by decide +kernel
theorem dX9_filledOf_240 : decode cX9_filledOf 240 = .ok (.lastore, 1) := by decide +kernel
theorem dX9_filledOf_241 : decode cX9_filledOf 241 = .ok (.iinc 2 1, 3) := by decide +kernel
theorem dX9_filledOf_244 : decode cX9_filledOf 244 = .ok (.goto (-21), 3) := by decide +kernel
theorem dX9_filledOf_247 : decode cX9_filledOf 247 = .ok (.iinc 1 1, 3) := by decide +kernel
theorem dX9_filledOf_250 : decode cX9_filledOf 250 = .ok (.goto (-209), 3) := by decide +kernel
theorem dX9_filledOf_253 : decode cX9_filledOf 253 = .ok (.lconst 0, 1) := by decide +kernel
theorem dX9_filledOf_254 : decode cX9_filledOf 254 = .ok (.lstore_n 1, 1) := by decide +kernel
theorem dX9_filledOf_255 : decode cX9_filledOf 255 = .ok (.iconst 0, 1) := by decide +kernel
theorem dX9_filledOf_256 : decode cX9_filledOf 256 = .ok (.istore_n 3, 1) := by decide +kernel
theorem dX9_filledOf_257 : decode cX9_filledOf 257 = .ok (.iload_n 3, 1) := by decide +kernel
theorem dX9_filledOf_258 : decode cX9_filledOf 258 = .ok (.bipush 72, 2) := by decide +kernel
theorem dX9_filledOf_260 : decode cX9_filledOf 260 = .ok (.if_icmp .ge 18, 3) := by decide +kernel
theorem dX9_filledOf_263 : decode cX9_filledOf 263 = .ok (.lload_n 1, 1) := by decide +kernel
theorem dX9_filledOf_264 : decode cX9_filledOf 264 = .ok (.aload_n 0, 1) := by decide +kernel
theorem dX9_filledOf_265 : decode cX9_filledOf 265 = .ok (.getfield 34, 3) := by decide +kernel
theorem dX9_filledOf_268 : decode cX9_filledOf 268 = .ok (.iload_n 3, 1) := by decide +kernel
theorem dX9_filledOf_269 : decode cX9_filledOf 269 = .ok (.laload, 1) := by decide +kernel
theorem dX9_filledOf_270 : decode cX9_filledOf 270 = .ok (.ladd, 1) := by decide +kernel
theorem dX9_filledOf_271 : decode cX9_filledOf 271 = .ok (.lstore_n 1, 1) := by decide +kernel
theorem dX9_filledOf_272 : decode cX9_filledOf 272 = .ok (.iinc 3 1, 3) := by decide +kernel
theorem dX9_filledOf_275 : decode cX9_filledOf 275 = .ok (.goto (-18), 3) := by decide +kernel
theorem dX9_filledOf_278 : decode cX9_filledOf 278 = .ok (.lload_n 1, 1) := by decide +kernel
theorem dX9_filledOf_279 : decode cX9_filledOf 279 = .ok (.l2i, 1) := by decide +kernel
theorem dX9_filledOf_280 : decode cX9_filledOf 280 = .ok (.ireturn, 1) := by decide +kernel
theorem dX9_filled_0 : decode cX9_filled 0 = .ok (.aload_n 0, 1) := by decide +kernel
theorem dX9_filled_1 : decode cX9_filled 1 = .ok (.getfield 90, 3) := by decide +kernel
theorem dX9_filled_4 : decode cX9_filled 4 = .ok (.iconst (-1), 1) := by decide +kernel
theorem dX9_filled_5 : decode cX9_filled 5 = .ok (.if_icmp .ne 8, 3) := by decide +kernel
theorem dX9_filled_8 : decode cX9_filled 8 = .ok (.bipush (-103), 2) := by decide +kernel
theorem dX9_filled_10 : decode cX9_filled 10 = .ok (.goto 7, 3) := by decide +kernel
theorem dX9_filled_13 : decode cX9_filled 13 = .ok (.aload_n 0, 1) := by decide +kernel
theorem dX9_filled_14 : decode cX9_filled 14 = .ok (.invokevirtual 292, 3) := by decide +kernel
theorem dX9_filled_17 : decode cX9_filled 17 = .ok (.ireturn, 1) := by decide +kernel
theorem dX9_sure_0 : decode cX9_sure 0 = .ok (.aload_n 0, 1) := by decide +kernel
theorem dX9_sure_1 : decode cX9_sure 1 = .ok (.getfield 90, 3) := by decide +kernel
theorem dX9_sure_4 : decode cX9_sure 4 = .ok (.iconst (-1), 1) := by decide +kernel
theorem dX9_sure_5 : decode cX9_sure 5 = .ok (.if_icmp .ne 6, 3) := by decide +kernel
theorem dX9_sure_8 : decode cX9_sure 8 = .ok (.bipush (-103), 2) := by decide +kernel
theorem dX9_sure_10 : decode cX9_sure 10 = .ok (.ireturn, 1) := by decide +kernel
theorem dX9_sure_11 : decode cX9_sure 11 = .ok (.aload_n 0, 1) := by decide +kernel
theorem dX9_sure_12 : decode cX9_sure 12 = .ok (.iload_n 1, 1) := by decide +kernel
theorem dX9_sure_13 : decode cX9_sure 13 = .ok (.invokevirtual 289, 3) := by decide +kernel
theorem dX9_sure_16 : decode cX9_sure 16 = .ok (.ifCond .ne 6, 3) := by decide +kernel
theorem dX9_sure_19 : decode cX9_sure 19 = .ok (.bipush (-101), 2) := by decide +kernel
theorem dX9_sure_21 : decode cX9_sure 21 = .ok (.ireturn, 1) := by decide +kernel
theorem dX9_sure_22 : decode cX9_sure 22 = .ok (.aload_n 0, 1) := by decide +kernel
theorem dX9_sure_23 : decode cX9_sure 23 = .ok (.getfield 62, 3) := by decide +kernel
theorem dX9_sure_26 : decode cX9_sure 26 = .ok (.iload_n 1, 1) := by decide +kernel
theorem dX9_sure_27 : decode cX9_sure 27 = .ok (.iaload, 1) := by decide +kernel
theorem dX9_sure_28 : decode cX9_sure 28 = .ok (.istore_n 2, 1) := by decide +kernel
theorem dX9_sure_29 : decode cX9_sure 29 = .ok (.iconst (-1), 1) := by decide +kernel
theorem dX9_sure_30 : decode cX9_sure 30 = .ok (.istore_n 3, 1) := by decide +kernel
theorem dX9_sure_31 : decode cX9_sure 31 = .ok (.iconst 0, 1) := by decide +kernel
theorem dX9_sure_32 : decode cX9_sure 32 = .ok (.istore 4, 2) := by decide +kernel
theorem dX9_sure_34 : decode cX9_sure 34 = .ok (.iconst 0, 1) := by decide +kernel
theorem dX9_sure_35 : decode cX9_sure 35 = .ok (.istore 5, 2) := by decide +kernel
theorem dX9_sure_37 : decode cX9_sure 37 = .ok (.iload 5, 2) := by decide +kernel
theorem dX9_sure_39 : decode cX9_sure 39 = .ok (.aload_n 0, 1) := by decide +kernel
theorem dX9_sure_40 : decode cX9_sure 40 = .ok (.getfield 144, 3) := by decide +kernel
theorem dX9_sure_43 : decode cX9_sure 43 = .ok (.if_icmp .ge 69, 3) := by decide +kernel
theorem dX9_sure_46 : decode cX9_sure 46 = .ok (.aload_n 0, 1) := by decide +kernel
theorem dX9_sure_47 : decode cX9_sure 47 = .ok (.getfield 62, 3) := by decide +kernel
theorem dX9_sure_50 : decode cX9_sure 50 = .ok (.iload_n 1, 1) := by decide +kernel
theorem dX9_sure_51 : decode cX9_sure 51 = .ok (.iload 5, 2) := by decide +kernel
theorem dX9_sure_53 : decode cX9_sure 53 = .ok (.iastore, 1) := by decide +kernel
theorem dX9_sure_54 : decode cX9_sure 54 = .ok (.iload_n 2, 1) := by decide +kernel
theorem dX9_sure_55 : decode cX9_sure 55 = .ok (.iconst (-1), 1) := by decide +kernel
theorem dX9_sure_56 : decode cX9_sure 56 = .ok (.if_icmp .eq 9, 3) := by decide +kernel
theorem dX9_sure_59 : decode cX9_sure 59 = .ok (.iload_n 2, 1) := by decide +kernel
theorem dX9_sure_60 : decode cX9_sure 60 = .ok (.iload 5, 2) := by decide +kernel
theorem dX9_sure_62 : decode cX9_sure 62 = .ok (.if_icmp .ne 14, 3) := by decide +kernel
theorem dX9_sure_65 : decode cX9_sure 65 = .ok (.aload_n 0, 1) := by decide +kernel
theorem dX9_sure_66 : decode cX9_sure 66 = .ok (.invokevirtual 292, 3) := by decide +kernel
theorem dX9_sure_69 : decode cX9_sure 69 = .ok (.ifCond .le 7, 3) := by decide +kernel
theorem dX9_sure_72 : decode cX9_sure 72 = .ok (.iconst 1, 1) := by decide +kernel
theorem dX9_sure_73 : decode cX9_sure 73 = .ok (.goto 4, 3) := by decide +kernel
theorem dX9_sure_76 : decode cX9_sure 76 = .ok (.iconst 0, 1) := by decide +kernel
theorem dX9_sure_77 : decode cX9_sure 77 = .ok (.istore 6, 2) := by decide +kernel
theorem dX9_sure_79 : decode cX9_sure 79 = .ok (.iload 6, 2) := by decide +kernel
theorem dX9_sure_81 : decode cX9_sure 81 = .ok (.ifCond .eq 8, 3) := by decide +kernel
theorem dX9_sure_84 : decode cX9_sure 84 = .ok (.iload 5, 2) := by decide +kernel
theorem dX9_sure_86 : decode cX9_sure 86 = .ok (.goto 4, 3) := by decide +kernel
theorem dX9_sure_89 : decode cX9_sure 89 = .ok (.iload_n 3, 1) := by decide +kernel
theorem dX9_sure_90 : decode cX9_sure 90 = .ok (.istore_n 3, 1) := by decide +kernel
theorem dX9_sure_91 : decode cX9_sure 91 = .ok (.iload 4, 2) := by decide +kernel
theorem dX9_sure_93 : decode cX9_sure 93 = .ok (.iload 6, 2) := by decide +kernel
theorem dX9_sure_95 : decode cX9_sure 95 = .ok (.ifCond .eq 7, 3) := by decide +kernel
theorem dX9_sure_98 : decode cX9_sure 98 = .ok (.iconst 1, 1) := by decide +kernel
theorem dX9_sure_99 : decode cX9_sure 99 = .ok (.goto 4, 3) := by decide +kernel
theorem dX9_sure_102 : decode cX9_sure 102 = .ok (.iconst 0, 1) := by decide +kernel
theorem dX9_sure_103 : decode cX9_sure 103 = .ok (.iadd, 1) := by decide +kernel
theorem dX9_sure_104 : decode cX9_sure 104 = .ok (.istore 4, 2) := by decide +kernel
theorem dX9_sure_106 : decode cX9_sure 106 = .ok (.iinc 5 1, 3) := by decide +kernel
theorem dX9_sure_109 : decode cX9_sure 109 = .ok (.goto (-72), 3) := by decide +kernel
theorem dX9_sure_112 : decode cX9_sure 112 = .ok (.aload_n 0, 1) := by decide +kernel
theorem dX9_sure_113 : decode cX9_sure 113 = .ok (.getfield 62, 3) := by decide +kernel
theorem dX9_sure_116 : decode cX9_sure 116 = .ok (.iload_n 1, 1) := by decide +kernel
theorem dX9_sure_117 : decode cX9_sure 117 = .ok (.iload_n 2, 1) := by decide +kernel
theorem dX9_sure_118 : decode cX9_sure 118 = .ok (.iastore, 1) := by decide +kernel
theorem dX9_sure_119 : decode cX9_sure 119 = .ok (.iload 4, 2) := by decide +kernel
theorem dX9_sure_121 : decode cX9_sure 121 = .ok (.iconst 1, 1) := by decide +kernel
theorem dX9_sure_122 : decode cX9_sure 122 = .ok (.if_icmp .ne 7, 3) := by decide +kernel
theorem dX9_sure_125 : decode cX9_sure 125 = .ok (.iload_n 3, 1) := by decide +kernel
theorem dX9_sure_126 : decode cX9_sure 126 = .ok (.goto 4, 3) := by decide +kernel
theorem dX9_sure_129 : decode cX9_sure 129 = .ok (.iconst (-1), 1) := by decide +kernel
theorem dX9_sure_130 : decode cX9_sure 130 = .ok (.ireturn, 1) := by decide +kernel
theorem dX9_image_0 : decode cX9_image 0 = .ok (.aload_n 0, 1) := by decide +kernel
theorem dX9_image_1 : decode cX9_image 1 = .ok (.getfield 28, 3) := by decide +kernel
theorem dX9_image_4 : decode cX9_image 4 = .ok (.aload_n 0, 1) := by decide +kernel
theorem dX9_image_5 : decode cX9_image 5 = .ok (.getfield 65, 3) := by decide +kernel
theorem dX9_image_8 : decode cX9_image 8 = .ok (.bipush 64, 2) := by decide +kernel
theorem dX9_image_10 : decode cX9_image 10 = .ok (.invokestatic 279, 3) := by decide +kernel
theorem dX9_image_13 : decode cX9_image 13 = .ok (.aload_n 0, 1) := by decide +kernel
theorem dX9_image_14 : decode cX9_image 14 = .ok (.getfield 22, 3) := by decide +kernel
theorem dX9_image_17 : decode cX9_image 17 = .ok (.aload_n 0, 1) := by decide +kernel
theorem dX9_image_18 : decode cX9_image 18 = .ok (.getfield 68, 3) := by decide +kernel
theorem dX9_image_21 : decode cX9_image 21 = .ok (.bipush 64, 2) := by decide +kernel
theorem dX9_image_23 : decode cX9_image 23 = .ok (.invokestatic 279, 3) := by decide +kernel
theorem dX9_image_26 : decode cX9_image 26 = .ok (.aload_n 0, 1) := by decide +kernel
theorem dX9_image_27 : decode cX9_image 27 = .ok (.getfield 19, 3) := by decide +kernel
theorem dX9_image_30 : decode cX9_image 30 = .ok (.aload_n 0, 1) := by decide +kernel
theorem dX9_image_31 : decode cX9_image 31 = .ok (.getfield 71, 3) := by decide +kernel
theorem dX9_image_34 : decode cX9_image 34 = .ok (.bipush 64, 2) := by decide +kernel
theorem dX9_image_36 : decode cX9_image 36 = .ok (.invokestatic 279, 3) := by decide +kernel
theorem dX9_image_39 : decode cX9_image 39 = .ok (.aload_n 0, 1) := by decide +kernel
theorem dX9_image_40 : decode cX9_image 40 = .ok (.getfield 16, 3) := by decide +kernel
theorem dX9_image_43 : decode cX9_image 43 = .ok (.aload_n 0, 1) := by decide +kernel
theorem dX9_image_44 : decode cX9_image 44 = .ok (.getfield 74, 3) := by decide +kernel
theorem dX9_image_47 : decode cX9_image 47 = .ok (.bipush 8, 2) := by decide +kernel
theorem dX9_image_49 : decode cX9_image 49 = .ok (.invokestatic 279, 3) := by decide +kernel
theorem dX9_image_52 : decode cX9_image 52 = .ok (.aload_n 0, 1) := by decide +kernel
theorem dX9_image_53 : decode cX9_image 53 = .ok (.getfield 25, 3) := by decide +kernel
theorem dX9_image_56 : decode cX9_image 56 = .ok (.aload_n 0, 1) := by decide +kernel
theorem dX9_image_57 : decode cX9_image 57 = .ok (.getfield 77, 3) := by decide +kernel
theorem dX9_image_60 : decode cX9_image 60 = .ok (.bipush 8, 2) := by decide +kernel
theorem dX9_image_62 : decode cX9_image 62 = .ok (.invokestatic 279, 3) := by decide +kernel
theorem dX9_image_65 : decode cX9_image 65 = .ok (.aload_n 0, 1) := by decide +kernel
theorem dX9_image_66 : decode cX9_image 66 = .ok (.aload_n 0, 1) := by decide +kernel
theorem dX9_image_67 : decode cX9_image 67 = .ok (.getfield 158, 3) := by decide +kernel
theorem dX9_image_70 : decode cX9_image 70 = .ok (.putfield 80, 3) := by decide +kernel
theorem dX9_image_73 : decode cX9_image 73 = .ok (.aload_n 0, 1) := by decide +kernel
theorem dX9_image_74 : decode cX9_image 74 = .ok (.aload_n 0, 1) := by decide +kernel
theorem dX9_image_75 : decode cX9_image 75 = .ok (.getfield 144, 3) := by decide +kernel
theorem dX9_image_78 : decode cX9_image 78 = .ok (.putfield 295, 3) := by decide +kernel
theorem dX9_image_81 : decode cX9_image 81 = .ok (.aload_n 0, 1) := by decide +kernel
theorem dX9_image_82 : decode cX9_image 82 = .ok (.aload_n 0, 1) := by decide +kernel
theorem dX9_image_83 : decode cX9_image 83 = .ok (.getfield 194, 3) := by decide +kernel
theorem dX9_image_86 : decode cX9_image 86 = .ok (.putfield 298, 3) := by decide +kernel
theorem dX9_image_89 : decode cX9_image 89 = .ok (.aload_n 0, 1) := by decide +kernel
theorem dX9_image_90 : decode cX9_image 90 = .ok (.aload_n 0, 1) := by decide +kernel
theorem dX9_image_91 : decode cX9_image 91 = .ok (.getfield 222, 3) := by decide +kernel
theorem dX9_image_94 : decode cX9_image 94 = .ok (.putfield 301, 3) := by decide +kernel
theorem dX9_image_97 : decode cX9_image 97 = .ok (.aload_n 0, 1) := by decide +kernel
theorem dX9_image_98 : decode cX9_image 98 = .ok (.getfield 158, 3) := by decide +kernel
theorem dX9_image_101 : decode cX9_image 101 = .ok (.ireturn, 1) := by decide +kernel
theorem dX9_restore_0 : decode cX9_restore 0 = .ok (.aload_n 0, 1) := by decide +kernel
theorem dX9_restore_1 : decode cX9_restore 1 = .ok (.getfield 80, 3) := by decide +kernel
theorem dX9_restore_4 : decode cX9_restore 4 = .ok (.iconst (-1), 1) := by decide +kernel
theorem dX9_restore_5 : decode cX9_restore 5 = .ok (.if_icmp .eq 14, 3) := by decide +kernel
theorem dX9_restore_8 : decode cX9_restore 8 = .ok (.aload_n 0, 1) := by decide +kernel
theorem dX9_restore_9 : decode cX9_restore 9 = .ok (.getfield 295, 3) := by decide +kernel
theorem dX9_restore_12 : decode cX9_restore 12 = .ok (.aload_n 0, 1) := by decide +kernel
theorem dX9_restore_13 : decode cX9_restore 13 = .ok (.getfield 144, 3) := by decide +kernel
theorem dX9_restore_16 : decode cX9_restore 16 = .ok (.if_icmp .eq 6, 3) := by decide +kernel
theorem dX9_restore_19 : decode cX9_restore 19 = .ok (.bipush (-103), 2) := by decide +kernel
theorem dX9_restore_21 : decode cX9_restore 21 = .ok (.ireturn, 1) := by decide +kernel
theorem dX9_restore_22 : decode cX9_restore 22 = .ok (.aload_n 0, 1) := by decide +kernel
theorem dX9_restore_23 : decode cX9_restore 23 = .ok (.getfield 65, 3) := by decide +kernel
theorem dX9_restore_26 : decode cX9_restore 26 = .ok (.aload_n 0, 1) := by decide +kernel
theorem dX9_restore_27 : decode cX9_restore 27 = .ok (.getfield 28, 3) := by decide +kernel
theorem dX9_restore_30 : decode cX9_restore 30 = .ok (.bipush 64, 2) := by decide +kernel
theorem dX9_restore_32 : decode cX9_restore 32 = .ok (.invokestatic 279, 3) := by decide +kernel
theorem dX9_restore_35 : decode cX9_restore 35 = .ok (.aload_n 0, 1) := by decide +kernel
theorem dX9_restore_36 : decode cX9_restore 36 = .ok (.getfield 68, 3) := by decide +kernel
theorem dX9_restore_39 : decode cX9_restore 39 = .ok (.aload_n 0, 1) := by decide +kernel
theorem dX9_restore_40 : decode cX9_restore 40 = .ok (.getfield 22, 3) := by decide +kernel
theorem dX9_restore_43 : decode cX9_restore 43 = .ok (.bipush 64, 2) := by decide +kernel
theorem dX9_restore_45 : decode cX9_restore 45 = .ok (.invokestatic 279, 3) := by decide +kernel
theorem dX9_restore_48 : decode cX9_restore 48 = .ok (.aload_n 0, 1) := by decide +kernel
theorem dX9_restore_49 : decode cX9_restore 49 = .ok (.getfield 71, 3) := by decide +kernel
theorem dX9_restore_52 : decode cX9_restore 52 = .ok (.aload_n 0, 1) := by decide +kernel
theorem dX9_restore_53 : decode cX9_restore 53 = .ok (.getfield 19, 3) := by decide +kernel
theorem dX9_restore_56 : decode cX9_restore 56 = .ok (.bipush 64, 2) := by decide +kernel
theorem dX9_restore_58 : decode cX9_restore 58 = .ok (.invokestatic 279, 3) := by decide +kernel
theorem dX9_restore_61 : decode cX9_restore 61 = .ok (.aload_n 0, 1) := by decide +kernel
theorem dX9_restore_62 : decode cX9_restore 62 = .ok (.getfield 74, 3) := by decide +kernel
theorem dX9_restore_65 : decode cX9_restore 65 = .ok (.aload_n 0, 1) := by decide +kernel
theorem dX9_restore_66 : decode cX9_restore 66 = .ok (.getfield 16, 3) := by decide +kernel
theorem dX9_restore_69 : decode cX9_restore 69 = .ok (.bipush 8, 2) := by decide +kernel
theorem dX9_restore_71 : decode cX9_restore 71 = .ok (.invokestatic 279, 3) := by decide +kernel
theorem dX9_restore_74 : decode cX9_restore 74 = .ok (.aload_n 0, 1) := by decide +kernel
theorem dX9_restore_75 : decode cX9_restore 75 = .ok (.getfield 77, 3) := by decide +kernel
theorem dX9_restore_78 : decode cX9_restore 78 = .ok (.aload_n 0, 1) := by decide +kernel
theorem dX9_restore_79 : decode cX9_restore 79 = .ok (.getfield 25, 3) := by decide +kernel
theorem dX9_restore_82 : decode cX9_restore 82 = .ok (.bipush 8, 2) := by decide +kernel
theorem dX9_restore_84 : decode cX9_restore 84 = .ok (.invokestatic 279, 3) := by decide +kernel
theorem dX9_restore_87 : decode cX9_restore 87 = .ok (.aload_n 0, 1) := by decide +kernel
theorem dX9_restore_88 : decode cX9_restore 88 = .ok (.aload_n 0, 1) := by decide +kernel
theorem dX9_restore_89 : decode cX9_restore 89 = .ok (.getfield 80, 3) := by decide +kernel
theorem dX9_restore_92 : decode cX9_restore 92 = .ok (.putfield 158, 3) := by decide +kernel
theorem dX9_restore_95 : decode cX9_restore 95 = .ok (.aload_n 0, 1) := by decide +kernel
theorem dX9_restore_96 : decode cX9_restore 96 = .ok (.aload_n 0, 1) := by decide +kernel
theorem dX9_restore_97 : decode cX9_restore 97 = .ok (.getfield 298, 3) := by decide +kernel
theorem dX9_restore_100 : decode cX9_restore 100 = .ok (.putfield 194, 3) := by decide +kernel
theorem dX9_restore_103 : decode cX9_restore 103 = .ok (.aload_n 0, 1) := by decide +kernel
theorem dX9_restore_104 : decode cX9_restore 104 = .ok (.aload_n 0, 1) := by decide +kernel
theorem dX9_restore_105 : decode cX9_restore 105 = .ok (.getfield 301, 3) := by decide +kernel
theorem dX9_restore_108 : decode cX9_restore 108 = .ok (.putfield 222, 3) := by decide +kernel
theorem dX9_restore_111 : decode cX9_restore 111 = .ok (.aload_n 0, 1) := by decide +kernel
theorem dX9_restore_112 : decode cX9_restore 112 = .ok (.getfield 158, 3) := by decide +kernel
theorem dX9_restore_115 : decode cX9_restore 115 = .ok (.ireturn, 1) := by decide +kernel
theorem dX9_countOf_0 : decode cX9_countOf 0 = .ok (.iload_n 1, 1) := by decide +kernel
theorem dX9_countOf_1 : decode cX9_countOf 1 = .ok (.tableswitch 78 0 6 #[43, 48, 53, 58, 63, 68, 73], 43) := by decide +kernel
theorem dX9_countOf_44 : decode cX9_countOf 44 = .ok (.aload_n 0, 1) := by decide +kernel
theorem dX9_countOf_45 : decode cX9_countOf 45 = .ok (.getfield 144, 3) := by decide +kernel
theorem dX9_countOf_48 : decode cX9_countOf 48 = .ok (.ireturn, 1) := by decide +kernel
theorem dX9_countOf_49 : decode cX9_countOf 49 = .ok (.aload_n 0, 1) := by decide +kernel
theorem dX9_countOf_50 : decode cX9_countOf 50 = .ok (.getfield 158, 3) := by decide +kernel
theorem dX9_countOf_53 : decode cX9_countOf 53 = .ok (.ireturn, 1) := by decide +kernel
theorem dX9_countOf_54 : decode cX9_countOf 54 = .ok (.aload_n 0, 1) := by decide +kernel
theorem dX9_countOf_55 : decode cX9_countOf 55 = .ok (.invokevirtual 283, 3) := by decide +kernel
theorem dX9_countOf_58 : decode cX9_countOf 58 = .ok (.ireturn, 1) := by decide +kernel
theorem dX9_countOf_59 : decode cX9_countOf 59 = .ok (.aload_n 0, 1) := by decide +kernel
theorem dX9_countOf_60 : decode cX9_countOf 60 = .ok (.getfield 222, 3) := by decide +kernel
theorem dX9_countOf_63 : decode cX9_countOf 63 = .ok (.ireturn, 1) := by decide +kernel
theorem dX9_countOf_64 : decode cX9_countOf 64 = .ok (.aload_n 0, 1) := by decide +kernel
theorem dX9_countOf_65 : decode cX9_countOf 65 = .ok (.getfield 194, 3) := by decide +kernel
theorem dX9_countOf_68 : decode cX9_countOf 68 = .ok (.ireturn, 1) := by decide +kernel
theorem dX9_countOf_69 : decode cX9_countOf 69 = .ok (.aload_n 0, 1) := by decide +kernel
theorem dX9_countOf_70 : decode cX9_countOf 70 = .ok (.getfield 95, 3) := by decide +kernel
theorem dX9_countOf_73 : decode cX9_countOf 73 = .ok (.ireturn, 1) := by decide +kernel
theorem dX9_countOf_74 : decode cX9_countOf 74 = .ok (.aload_n 0, 1) := by decide +kernel
theorem dX9_countOf_75 : decode cX9_countOf 75 = .ok (.getfield 137, 3) := by decide +kernel
theorem dX9_countOf_78 : decode cX9_countOf 78 = .ok (.ireturn, 1) := by decide +kernel
theorem dX9_countOf_79 : decode cX9_countOf 79 = .ok (.bipush (-102), 2) := by decide +kernel
theorem dX9_countOf_81 : decode cX9_countOf 81 = .ok (.ireturn, 1) := by decide +kernel
theorem dX9_count_0 : decode cX9_count 0 = .ok (.aload_n 0, 1) := by decide +kernel
theorem dX9_count_1 : decode cX9_count 1 = .ok (.iload_n 1, 1) := by decide +kernel
theorem dX9_count_2 : decode cX9_count 2 = .ok (.invokevirtual 304, 3) := by decide +kernel
theorem dX9_count_5 : decode cX9_count 5 = .ok (.ireturn, 1) := by decide +kernel
theorem dX9_say_0 : decode cX9_say 0 = .ok (.aload_n 0, 1) := by decide +kernel
theorem dX9_say_1 : decode cX9_say 1 = .ok (.ldc2_w 307, 3) := by decide +kernel
theorem dX9_say_4 : decode cX9_say 4 = .ok (.aload_n 0, 1) := by decide +kernel
theorem dX9_say_5 : decode cX9_say 5 = .ok (.getfield 309, 3) := by decide +kernel
theorem dX9_say_8 : decode cX9_say 8 = .ok (.lmul, 1) := by decide +kernel
theorem dX9_say_9 : decode cX9_say 9 = .ok (.lload_n 1, 1) := by decide +kernel
theorem dX9_say_10 : decode cX9_say 10 = .ok (.ladd, 1) := by decide +kernel
theorem dX9_say_11 : decode cX9_say 11 = .ok (.putfield 309, 3) := by decide +kernel
theorem dX9_say_14 : decode cX9_say 14 = .ok (.return_, 1) := by decide +kernel
theorem dX9_sayGift_0 : decode cX9_sayGift 0 = .ok (.iconst 0, 1) := by decide +kernel
theorem dX9_sayGift_1 : decode cX9_sayGift 1 = .ok (.istore_n 2, 1) := by decide +kernel
theorem dX9_sayGift_2 : decode cX9_sayGift 2 = .ok (.iload_n 2, 1) := by decide +kernel
theorem dX9_sayGift_3 : decode cX9_sayGift 3 = .ok (.bipush 9, 2) := by decide +kernel
theorem dX9_sayGift_5 : decode cX9_sayGift 5 = .ok (.if_icmp .ge 20, 3) := by decide +kernel
theorem dX9_sayGift_8 : decode cX9_sayGift 8 = .ok (.aload_n 0, 1) := by decide +kernel
theorem dX9_sayGift_9 : decode cX9_sayGift 9 = .ok (.aload_n 0, 1) := by decide +kernel
theorem dX9_sayGift_10 : decode cX9_sayGift 10 = .ok (.iload_n 1, 1) := by decide +kernel
theorem dX9_sayGift_11 : decode cX9_sayGift 11 = .ok (.iload_n 2, 1) := by decide +kernel
theorem dX9_sayGift_12 : decode cX9_sayGift 12 = .ok (.invokevirtual 185, 3) := by decide +kernel
theorem dX9_sayGift_15 : decode cX9_sayGift 15 = .ok (.i2l, 1) := by decide +kernel
theorem dX9_sayGift_16 : decode cX9_sayGift 16 = .ok (.invokevirtual 313, 3) := by decide +kernel
theorem dX9_sayGift_19 : decode cX9_sayGift 19 = .ok (.iinc 2 1, 3) := by decide +kernel
theorem dX9_sayGift_22 : decode cX9_sayGift 22 = .ok (.goto (-20), 3) := by decide +kernel
theorem dX9_sayGift_25 : decode cX9_sayGift 25 = .ok (.aload_n 0, 1) := by decide +kernel
theorem dX9_sayGift_26 : decode cX9_sayGift 26 = .ok (.iload_n 1, 1) := by decide +kernel
theorem dX9_sayGift_27 : decode cX9_sayGift 27 = .ok (.invokevirtual 161, 3) := by decide +kernel
theorem dX9_sayGift_30 : decode cX9_sayGift 30 = .ok (.ifCond .eq 23, 3) := by decide +kernel
theorem dX9_sayGift_33 : decode cX9_sayGift 33 = .ok (.aload_n 0, 1) := by decide +kernel
theorem dX9_sayGift_34 : decode cX9_sayGift 34 = .ok (.aload_n 0, 1) := by decide +kernel
theorem dX9_sayGift_35 : decode cX9_sayGift 35 = .ok (.iload_n 1, 1) := by decide +kernel
theorem dX9_sayGift_36 : decode cX9_sayGift 36 = .ok (.invokevirtual 191, 3) := by decide +kernel
theorem dX9_sayGift_39 : decode cX9_sayGift 39 = .ok (.i2l, 1) := by decide +kernel
theorem dX9_sayGift_40 : decode cX9_sayGift 40 = .ok (.invokevirtual 313, 3) := by decide +kernel
theorem dX9_sayGift_43 : decode cX9_sayGift 43 = .ok (.aload_n 0, 1) := by decide +kernel
theorem dX9_sayGift_44 : decode cX9_sayGift 44 = .ok (.aload_n 0, 1) := by decide +kernel
theorem dX9_sayGift_45 : decode cX9_sayGift 45 = .ok (.iload_n 1, 1) := by decide +kernel
theorem dX9_sayGift_46 : decode cX9_sayGift 46 = .ok (.invokevirtual 242, 3) := by decide +kernel
theorem dX9_sayGift_49 : decode cX9_sayGift 49 = .ok (.i2l, 1) := by decide +kernel
theorem dX9_sayGift_50 : decode cX9_sayGift 50 = .ok (.invokevirtual 313, 3) := by decide +kernel
theorem dX9_sayGift_53 : decode cX9_sayGift 53 = .ok (.return_, 1) := by decide +kernel
theorem dX9_digest_0 : decode cX9_digest 0 = .ok (.aload_n 0, 1) := by decide +kernel
theorem dX9_digest_1 : decode cX9_digest 1 = .ok (.ldc2_w 317, 3) := by decide +kernel
theorem dX9_digest_4 : decode cX9_digest 4 = .ok (.putfield 309, 3) := by decide +kernel
theorem dX9_digest_7 : decode cX9_digest 7 = .ok (.iconst 0, 1) := by decide +kernel
theorem dX9_digest_8 : decode cX9_digest 8 = .ok (.istore_n 1, 1) := by decide +kernel
theorem dX9_digest_9 : decode cX9_digest 9 = .ok (.iload_n 1, 1) := by decide +kernel
theorem dX9_digest_10 : decode cX9_digest 10 = .ok (.iconst 4, 1) := by decide +kernel
theorem dX9_digest_11 : decode cX9_digest 11 = .ok (.if_icmp .ge 19, 3) := by decide +kernel
theorem dX9_digest_14 : decode cX9_digest 14 = .ok (.aload_n 0, 1) := by decide +kernel
theorem dX9_digest_15 : decode cX9_digest 15 = .ok (.aload_n 0, 1) := by decide +kernel
theorem dX9_digest_16 : decode cX9_digest 16 = .ok (.iload_n 1, 1) := by decide +kernel
theorem dX9_digest_17 : decode cX9_digest 17 = .ok (.invokevirtual 140, 3) := by decide +kernel
theorem dX9_digest_20 : decode cX9_digest 20 = .ok (.i2l, 1) := by decide +kernel
theorem dX9_digest_21 : decode cX9_digest 21 = .ok (.invokevirtual 313, 3) := by decide +kernel
theorem dX9_digest_24 : decode cX9_digest 24 = .ok (.iinc 1 1, 3) := by decide +kernel
theorem dX9_digest_27 : decode cX9_digest 27 = .ok (.goto (-18), 3) := by decide +kernel
theorem dX9_digest_30 : decode cX9_digest 30 = .ok (.iconst 0, 1) := by decide +kernel
theorem dX9_digest_31 : decode cX9_digest 31 = .ok (.istore_n 1, 1) := by decide +kernel
theorem dX9_digest_32 : decode cX9_digest 32 = .ok (.iload_n 1, 1) := by decide +kernel
theorem dX9_digest_33 : decode cX9_digest 33 = .ok (.aload_n 0, 1) := by decide +kernel
theorem dX9_digest_34 : decode cX9_digest 34 = .ok (.getfield 144, 3) := by decide +kernel
theorem dX9_digest_37 : decode cX9_digest 37 = .ok (.if_icmp .ge 43, 3) := by decide +kernel
theorem dX9_digest_40 : decode cX9_digest 40 = .ok (.iconst 0, 1) := by decide +kernel
theorem dX9_digest_41 : decode cX9_digest 41 = .ok (.istore_n 2, 1) := by decide +kernel
theorem dX9_digest_42 : decode cX9_digest 42 = .ok (.iload_n 2, 1) := by decide +kernel
theorem dX9_digest_43 : decode cX9_digest 43 = .ok (.iconst 4, 1) := by decide +kernel
theorem dX9_digest_44 : decode cX9_digest 44 = .ok (.if_icmp .ge 20, 3) := by decide +kernel
theorem dX9_digest_47 : decode cX9_digest 47 = .ok (.aload_n 0, 1) := by decide +kernel
theorem dX9_digest_48 : decode cX9_digest 48 = .ok (.aload_n 0, 1) := by decide +kernel
theorem dX9_digest_49 : decode cX9_digest 49 = .ok (.iload_n 1, 1) := by decide +kernel
theorem dX9_digest_50 : decode cX9_digest 50 = .ok (.iload_n 2, 1) := by decide +kernel
theorem dX9_digest_51 : decode cX9_digest 51 = .ok (.invokevirtual 167, 3) := by decide +kernel
theorem dX9_digest_54 : decode cX9_digest 54 = .ok (.i2l, 1) := by decide +kernel
theorem dX9_digest_55 : decode cX9_digest 55 = .ok (.invokevirtual 313, 3) := by decide +kernel
theorem dX9_digest_58 : decode cX9_digest 58 = .ok (.iinc 2 1, 3) := by decide +kernel
theorem dX9_digest_61 : decode cX9_digest 61 = .ok (.goto (-19), 3) := by decide +kernel
theorem dX9_digest_64 : decode cX9_digest 64 = .ok (.aload_n 0, 1) := by decide +kernel
theorem dX9_digest_65 : decode cX9_digest 65 = .ok (.aload_n 0, 1) := by decide +kernel
theorem dX9_digest_66 : decode cX9_digest 66 = .ok (.iload_n 1, 1) := by decide +kernel
theorem dX9_digest_67 : decode cX9_digest 67 = .ok (.invokevirtual 171, 3) := by decide +kernel
theorem dX9_digest_70 : decode cX9_digest 70 = .ok (.i2l, 1) := by decide +kernel
theorem dX9_digest_71 : decode cX9_digest 71 = .ok (.invokevirtual 313, 3) := by decide +kernel
theorem dX9_digest_74 : decode cX9_digest 74 = .ok (.iinc 1 1, 3) := by decide +kernel
theorem dX9_digest_77 : decode cX9_digest 77 = .ok (.goto (-45), 3) := by decide +kernel
theorem dX9_digest_80 : decode cX9_digest 80 = .ok (.iconst 0, 1) := by decide +kernel
theorem dX9_digest_81 : decode cX9_digest 81 = .ok (.istore_n 1, 1) := by decide +kernel
theorem dX9_digest_82 : decode cX9_digest 82 = .ok (.iload_n 1, 1) := by decide +kernel
theorem dX9_digest_83 : decode cX9_digest 83 = .ok (.aload_n 0, 1) := by decide +kernel
theorem dX9_digest_84 : decode cX9_digest 84 = .ok (.getfield 158, 3) := by decide +kernel
theorem dX9_digest_87 : decode cX9_digest 87 = .ok (.if_icmp .ge 14, 3) := by decide +kernel
theorem dX9_digest_90 : decode cX9_digest 90 = .ok (.aload_n 0, 1) := by decide +kernel
theorem dX9_digest_91 : decode cX9_digest 91 = .ok (.iload_n 1, 1) := by decide +kernel
theorem dX9_digest_92 : decode cX9_digest 92 = .ok (.invokevirtual 319, 3) := by decide +kernel
theorem dX9_digest_95 : decode cX9_digest 95 = .ok (.iinc 1 1, 3) := by decide +kernel
theorem dX9_digest_98 : decode cX9_digest 98 = .ok (.goto (-16), 3) := by decide +kernel
theorem dX9_digest_101 : decode cX9_digest 101 = .ok (.aload_n 0, 1) := by decide +kernel
theorem dX9_digest_102 : decode cX9_digest 102 = .ok (.aload_n 0, 1) := by decide +kernel
theorem dX9_digest_103 : decode cX9_digest 103 = .ok (.invokevirtual 259, 3) := by decide +kernel
theorem dX9_digest_106 : decode cX9_digest 106 = .ok (.i2l, 1) := by decide +kernel
theorem dX9_digest_107 : decode cX9_digest 107 = .ok (.invokevirtual 313, 3) := by decide +kernel
theorem dX9_digest_110 : decode cX9_digest 110 = .ok (.aload_n 0, 1) := by decide +kernel
theorem dX9_digest_111 : decode cX9_digest 111 = .ok (.aload_n 0, 1) := by decide +kernel
theorem dX9_digest_112 : decode cX9_digest 112 = .ok (.iconst 0, 1) := by decide +kernel
theorem dX9_digest_113 : decode cX9_digest 113 = .ok (.invokevirtual 269, 3) := by decide +kernel
theorem dX9_digest_116 : decode cX9_digest 116 = .ok (.i2l, 1) := by decide +kernel
theorem dX9_digest_117 : decode cX9_digest 117 = .ok (.invokevirtual 313, 3) := by decide +kernel
theorem dX9_digest_120 : decode cX9_digest 120 = .ok (.aload_n 0, 1) := by decide +kernel
theorem dX9_digest_121 : decode cX9_digest 121 = .ok (.aload_n 0, 1) := by decide +kernel
theorem dX9_digest_122 : decode cX9_digest 122 = .ok (.iconst 1, 1) := by decide +kernel
theorem dX9_digest_123 : decode cX9_digest 123 = .ok (.invokevirtual 269, 3) := by decide +kernel
theorem dX9_digest_126 : decode cX9_digest 126 = .ok (.i2l, 1) := by decide +kernel
theorem dX9_digest_127 : decode cX9_digest 127 = .ok (.invokevirtual 313, 3) := by decide +kernel
theorem dX9_digest_130 : decode cX9_digest 130 = .ok (.aload_n 0, 1) := by decide +kernel
theorem dX9_digest_131 : decode cX9_digest 131 = .ok (.getfield 90, 3) := by decide +kernel
theorem dX9_digest_134 : decode cX9_digest 134 = .ok (.iconst (-1), 1) := by decide +kernel
theorem dX9_digest_135 : decode cX9_digest 135 = .ok (.if_icmp .eq 12, 3) := by decide +kernel
theorem dX9_digest_138 : decode cX9_digest 138 = .ok (.aload_n 0, 1) := by decide +kernel
theorem dX9_digest_139 : decode cX9_digest 139 = .ok (.aload_n 0, 1) := by decide +kernel
theorem dX9_digest_140 : decode cX9_digest 140 = .ok (.invokevirtual 292, 3) := by decide +kernel
theorem dX9_digest_143 : decode cX9_digest 143 = .ok (.i2l, 1) := by decide +kernel
theorem dX9_digest_144 : decode cX9_digest 144 = .ok (.invokevirtual 313, 3) := by decide +kernel
theorem dX9_digest_147 : decode cX9_digest 147 = .ok (.iconst 0, 1) := by decide +kernel
theorem dX9_digest_148 : decode cX9_digest 148 = .ok (.istore_n 1, 1) := by decide +kernel
theorem dX9_digest_149 : decode cX9_digest 149 = .ok (.iload_n 1, 1) := by decide +kernel
theorem dX9_digest_150 : decode cX9_digest 150 = .ok (.aload_n 0, 1) := by decide +kernel
theorem dX9_digest_151 : decode cX9_digest 151 = .ok (.getfield 95, 3) := by decide +kernel
theorem dX9_digest_154 : decode cX9_digest 154 = .ok (.if_icmp .ge 20, 3) := by decide +kernel
theorem dX9_digest_157 : decode cX9_digest 157 = .ok (.aload_n 0, 1) := by decide +kernel
theorem dX9_digest_158 : decode cX9_digest 158 = .ok (.aload_n 0, 1) := by decide +kernel
theorem dX9_digest_159 : decode cX9_digest 159 = .ok (.getfield 7, 3) := by decide +kernel
theorem dX9_digest_162 : decode cX9_digest 162 = .ok (.iload_n 1, 1) := by decide +kernel
theorem dX9_digest_163 : decode cX9_digest 163 = .ok (.iaload, 1) := by decide +kernel
theorem dX9_digest_164 : decode cX9_digest 164 = .ok (.i2l, 1) := by decide +kernel
theorem dX9_digest_165 : decode cX9_digest 165 = .ok (.invokevirtual 313, 3) := by decide +kernel
theorem dX9_digest_168 : decode cX9_digest 168 = .ok (.iinc 1 1, 3) := by decide +kernel
theorem dX9_digest_171 : decode cX9_digest 171 = .ok (.goto (-22), 3) := by decide +kernel
theorem dX9_digest_174 : decode cX9_digest 174 = .ok (.iconst 0, 1) := by decide +kernel
theorem dX9_digest_175 : decode cX9_digest 175 = .ok (.istore_n 1, 1) := by decide +kernel
theorem dX9_digest_176 : decode cX9_digest 176 = .ok (.iload_n 1, 1) := by decide +kernel
theorem dX9_digest_177 : decode cX9_digest 177 = .ok (.bipush 7, 2) := by decide +kernel
theorem dX9_digest_179 : decode cX9_digest 179 = .ok (.if_icmp .ge 19, 3) := by decide +kernel
theorem dX9_digest_182 : decode cX9_digest 182 = .ok (.aload_n 0, 1) := by decide +kernel
theorem dX9_digest_183 : decode cX9_digest 183 = .ok (.aload_n 0, 1) := by decide +kernel
theorem dX9_digest_184 : decode cX9_digest 184 = .ok (.iload_n 1, 1) := by decide +kernel
theorem dX9_digest_185 : decode cX9_digest 185 = .ok (.invokevirtual 304, 3) := by decide +kernel
theorem dX9_digest_188 : decode cX9_digest 188 = .ok (.i2l, 1) := by decide +kernel
theorem dX9_digest_189 : decode cX9_digest 189 = .ok (.invokevirtual 313, 3) := by decide +kernel
theorem dX9_digest_192 : decode cX9_digest 192 = .ok (.iinc 1 1, 3) := by decide +kernel
theorem dX9_digest_195 : decode cX9_digest 195 = .ok (.goto (-19), 3) := by decide +kernel
theorem dX9_digest_198 : decode cX9_digest 198 = .ok (.aload_n 0, 1) := by decide +kernel
theorem dX9_digest_199 : decode cX9_digest 199 = .ok (.getfield 309, 3) := by decide +kernel
theorem dX9_digest_202 : decode cX9_digest 202 = .ok (.lreturn, 1) := by decide +kernel
end
section
theorem dX8_init_0 : decode cX8_init 0 = .ok (.aload_n 0, 1) := by decide +kernel
theorem dX8_init_1 : decode cX8_init 1 = .ok (.invokespecial 3, 3) := by decide +kernel
theorem dX8_init_4 : decode cX8_init 4 = .ok (.aload_n 0, 1) := by decide +kernel
theorem dX8_init_5 : decode cX8_init 5 = .ok (.new 9, 3) := by decide +kernel
theorem dX8_init_8 : decode cX8_init 8 = .ok (.dup, 1) := by decide +kernel
theorem dX8_init_9 : decode cX8_init 9 = .ok (.invokespecial 11, 3) := by decide +kernel
theorem dX8_init_12 : decode cX8_init 12 = .ok (.putfield 12, 3) := by decide +kernel
theorem dX8_init_15 : decode cX8_init 15 = .ok (.aload_n 0, 1) := by decide +kernel
theorem dX8_init_16 : decode cX8_init 16 = .ok (.new 16, 3) := by decide +kernel
theorem dX8_init_19 : decode cX8_init 19 = .ok (.dup, 1) := by decide +kernel
theorem dX8_init_20 : decode cX8_init 20 = .ok (.invokespecial 18, 3) := by decide +kernel
theorem dX8_init_23 : decode cX8_init 23 = .ok (.putfield 19, 3) := by decide +kernel
theorem dX8_init_26 : decode cX8_init 26 = .ok (.aload_n 0, 1) := by decide +kernel
theorem dX8_init_27 : decode cX8_init 27 = .ok (.new 23, 3) := by decide +kernel
theorem dX8_init_30 : decode cX8_init 30 = .ok (.dup, 1) := by decide +kernel
theorem dX8_init_31 : decode cX8_init 31 = .ok (.invokespecial 25, 3) := by decide +kernel
theorem dX8_init_34 : decode cX8_init 34 = .ok (.putfield 26, 3) := by decide +kernel
theorem dX8_init_37 : decode cX8_init 37 = .ok (.aload_n 0, 1) := by decide +kernel
theorem dX8_init_38 : decode cX8_init 38 = .ok (.new 23, 3) := by decide +kernel
theorem dX8_init_41 : decode cX8_init 41 = .ok (.dup, 1) := by decide +kernel
theorem dX8_init_42 : decode cX8_init 42 = .ok (.invokespecial 25, 3) := by decide +kernel
theorem dX8_init_45 : decode cX8_init 45 = .ok (.putfield 30, 3) := by decide +kernel
theorem dX8_init_48 : decode cX8_init 48 = .ok (.aload_n 0, 1) := by decide +kernel
theorem dX8_init_49 : decode cX8_init 49 = .ok (.new 23, 3) := by decide +kernel
theorem dX8_init_52 : decode cX8_init 52 = .ok (.dup, 1) := by decide +kernel
theorem dX8_init_53 : decode cX8_init 53 = .ok (.invokespecial 25, 3) := by decide +kernel
theorem dX8_init_56 : decode cX8_init 56 = .ok (.putfield 33, 3) := by decide +kernel
theorem dX8_init_59 : decode cX8_init 59 = .ok (.aload_n 0, 1) := by decide +kernel
theorem dX8_init_60 : decode cX8_init 60 = .ok (.new 36, 3) := by decide +kernel
theorem dX8_init_63 : decode cX8_init 63 = .ok (.dup, 1) := by decide +kernel
theorem dX8_init_64 : decode cX8_init 64 = .ok (.invokespecial 38, 3) := by decide +kernel
theorem dX8_init_67 : decode cX8_init 67 = .ok (.putfield 39, 3) := by decide +kernel
theorem dX8_init_70 : decode cX8_init 70 = .ok (.aload_n 0, 1) := by decide +kernel
theorem dX8_init_71 : decode cX8_init 71 = .ok (.new 43, 3) := by decide +kernel
theorem dX8_init_74 : decode cX8_init 74 = .ok (.dup, 1) := by decide +kernel
theorem dX8_init_75 : decode cX8_init 75 = .ok (.invokespecial 45, 3) := by decide +kernel
theorem dX8_init_78 : decode cX8_init 78 = .ok (.putfield 46, 3) := by decide +kernel
theorem dX8_init_81 : decode cX8_init 81 = .ok (.aload_n 0, 1) := by decide +kernel
theorem dX8_init_82 : decode cX8_init 82 = .ok (.new 50, 3) := by decide +kernel
theorem dX8_init_85 : decode cX8_init 85 = .ok (.dup, 1) := by decide +kernel
theorem dX8_init_86 : decode cX8_init 86 = .ok (.invokespecial 52, 3) := by decide +kernel
theorem dX8_init_89 : decode cX8_init 89 = .ok (.putfield 53, 3) := by decide +kernel
theorem dX8_init_92 : decode cX8_init 92 = .ok (.aload_n 0, 1) := by decide +kernel
theorem dX8_init_93 : decode cX8_init 93 = .ok (.new 57, 3) := by decide +kernel
theorem dX8_init_96 : decode cX8_init 96 = .ok (.dup, 1) := by decide +kernel
theorem dX8_init_97 : decode cX8_init 97 = .ok (.invokespecial 59, 3) := by decide +kernel
theorem dX8_init_100 : decode cX8_init 100 = .ok (.putfield 60, 3) := by decide +kernel
theorem dX8_init_103 : decode cX8_init 103 = .ok (.return_, 1) := by decide +kernel
theorem dX8_letters_0 : decode cX8_letters 0 = .ok (.lload_n 1, 1) := by decide +kernel
theorem dX8_letters_1 : decode cX8_letters 1 = .ok (.invokestatic 64, 3) := by decide +kernel
theorem dX8_letters_4 : decode cX8_letters 4 = .ok (.istore_n 3, 1) := by decide +kernel
theorem dX8_letters_5 : decode cX8_letters 5 = .ok (.iload_n 3, 1) := by decide +kernel
theorem dX8_letters_6 : decode cX8_letters 6 = .ok (.iconst (-1), 1) := by decide +kernel
theorem dX8_letters_7 : decode cX8_letters 7 = .ok (.if_icmp .ne 6, 3) := by decide +kernel
theorem dX8_letters_10 : decode cX8_letters 10 = .ok (.bipush (-102), 2) := by decide +kernel
theorem dX8_letters_12 : decode cX8_letters 12 = .ok (.ireturn, 1) := by decide +kernel
theorem dX8_letters_13 : decode cX8_letters 13 = .ok (.aload_n 0, 1) := by decide +kernel
theorem dX8_letters_14 : decode cX8_letters 14 = .ok (.getfield 12, 3) := by decide +kernel
theorem dX8_letters_17 : decode cX8_letters 17 = .ok (.getfield 68, 3) := by decide +kernel
theorem dX8_letters_20 : decode cX8_letters 20 = .ok (.iload_n 3, 1) := by decide +kernel
theorem dX8_letters_21 : decode cX8_letters 21 = .ok (.iadd, 1) := by decide +kernel
theorem dX8_letters_22 : decode cX8_letters 22 = .ok (.bipush 16, 2) := by decide +kernel
theorem dX8_letters_24 : decode cX8_letters 24 = .ok (.if_icmp .le 6, 3) := by decide +kernel
theorem dX8_letters_27 : decode cX8_letters 27 = .ok (.bipush (-104), 2) := by decide +kernel
theorem dX8_letters_29 : decode cX8_letters 29 = .ok (.ireturn, 1) := by decide +kernel
theorem dX8_letters_30 : decode cX8_letters 30 = .ok (.aload_n 0, 1) := by decide +kernel
theorem dX8_letters_31 : decode cX8_letters 31 = .ok (.getfield 12, 3) := by decide +kernel
theorem dX8_letters_34 : decode cX8_letters 34 = .ok (.lload_n 1, 1) := by decide +kernel
theorem dX8_letters_35 : decode cX8_letters 35 = .ok (.iload_n 3, 1) := by decide +kernel
theorem dX8_letters_36 : decode cX8_letters 36 = .ok (.invokevirtual 72, 3) := by decide +kernel
theorem dX8_letters_39 : decode cX8_letters 39 = .ok (.aload_n 0, 1) := by decide +kernel
theorem dX8_letters_40 : decode cX8_letters 40 = .ok (.getfield 12, 3) := by decide +kernel
theorem dX8_letters_43 : decode cX8_letters 43 = .ok (.getfield 68, 3) := by decide +kernel
theorem dX8_letters_46 : decode cX8_letters 46 = .ok (.ireturn, 1) := by decide +kernel
theorem dX8_blank_0 : decode cX8_blank 0 = .ok (.aload_n 0, 1) := by decide +kernel
theorem dX8_blank_1 : decode cX8_blank 1 = .ok (.getfield 12, 3) := by decide +kernel
theorem dX8_blank_4 : decode cX8_blank 4 = .ok (.getfield 68, 3) := by decide +kernel
theorem dX8_blank_7 : decode cX8_blank 7 = .ok (.istore_n 1, 1) := by decide +kernel
theorem dX8_blank_8 : decode cX8_blank 8 = .ok (.aload_n 0, 1) := by decide +kernel
theorem dX8_blank_9 : decode cX8_blank 9 = .ok (.getfield 12, 3) := by decide +kernel
theorem dX8_blank_12 : decode cX8_blank 12 = .ok (.iconst 0, 1) := by decide +kernel
theorem dX8_blank_13 : decode cX8_blank 13 = .ok (.putfield 68, 3) := by decide +kernel
theorem dX8_blank_16 : decode cX8_blank 16 = .ok (.iload_n 1, 1) := by decide +kernel
theorem dX8_blank_17 : decode cX8_blank 17 = .ok (.ireturn, 1) := by decide +kernel
theorem dX8_fault_0 : decode cX8_fault 0 = .ok (.aload_n 0, 1) := by decide +kernel
theorem dX8_fault_1 : decode cX8_fault 1 = .ok (.getfield 12, 3) := by decide +kernel
theorem dX8_fault_4 : decode cX8_fault 4 = .ok (.invokevirtual 76, 3) := by decide +kernel
theorem dX8_fault_7 : decode cX8_fault 7 = .ok (.ireturn, 1) := by decide +kernel
theorem dX8_law_0 : decode cX8_law 0 = .ok (.aload_n 0, 1) := by decide +kernel
theorem dX8_law_1 : decode cX8_law 1 = .ok (.getfield 12, 3) := by decide +kernel
theorem dX8_law_4 : decode cX8_law 4 = .ok (.invokevirtual 80, 3) := by decide +kernel
theorem dX8_law_7 : decode cX8_law 7 = .ok (.ifCond .ne 6, 3) := by decide +kernel
theorem dX8_law_10 : decode cX8_law 10 = .ok (.bipush (-103), 2) := by decide +kernel
theorem dX8_law_12 : decode cX8_law 12 = .ok (.ireturn, 1) := by decide +kernel
theorem dX8_law_13 : decode cX8_law 13 = .ok (.aload_n 0, 1) := by decide +kernel
theorem dX8_law_14 : decode cX8_law 14 = .ok (.getfield 19, 3) := by decide +kernel
theorem dX8_law_17 : decode cX8_law 17 = .ok (.aload_n 0, 1) := by decide +kernel
theorem dX8_law_18 : decode cX8_law 18 = .ok (.getfield 12, 3) := by decide +kernel
theorem dX8_law_21 : decode cX8_law 21 = .ok (.invokevirtual 84, 3) := by decide +kernel
theorem dX8_law_24 : decode cX8_law 24 = .ok (.aload_n 0, 1) := by decide +kernel
theorem dX8_law_25 : decode cX8_law 25 = .ok (.getfield 12, 3) := by decide +kernel
theorem dX8_law_28 : decode cX8_law 28 = .ok (.iconst 0, 1) := by decide +kernel
theorem dX8_law_29 : decode cX8_law 29 = .ok (.putfield 68, 3) := by decide +kernel
theorem dX8_law_32 : decode cX8_law 32 = .ok (.aload_n 0, 1) := by decide +kernel
theorem dX8_law_33 : decode cX8_law 33 = .ok (.dup, 1) := by decide +kernel
theorem dX8_law_34 : decode cX8_law 34 = .ok (.getfield 88, 3) := by decide +kernel
theorem dX8_law_37 : decode cX8_law 37 = .ok (.iconst 1, 1) := by decide +kernel
theorem dX8_law_38 : decode cX8_law 38 = .ok (.iadd, 1) := by decide +kernel
theorem dX8_law_39 : decode cX8_law 39 = .ok (.putfield 88, 3) := by decide +kernel
theorem dX8_law_42 : decode cX8_law 42 = .ok (.aload_n 0, 1) := by decide +kernel
theorem dX8_law_43 : decode cX8_law 43 = .ok (.getfield 88, 3) := by decide +kernel
theorem dX8_law_46 : decode cX8_law 46 = .ok (.ireturn, 1) := by decide +kernel
theorem dX8_lawTold_0 : decode cX8_lawTold 0 = .ok (.iload_n 1, 1) := by decide +kernel
theorem dX8_lawTold_1 : decode cX8_lawTold 1 = .ok (.iconst 0, 1) := by decide +kernel
theorem dX8_lawTold_2 : decode cX8_lawTold 2 = .ok (.iconst 3, 1) := by decide +kernel
theorem dX8_lawTold_3 : decode cX8_lawTold 3 = .ok (.invokestatic 91, 3) := by decide +kernel
theorem dX8_lawTold_6 : decode cX8_lawTold 6 = .ok (.ifCond .ne 6, 3) := by decide +kernel
theorem dX8_lawTold_9 : decode cX8_lawTold 9 = .ok (.bipush (-102), 2) := by decide +kernel
theorem dX8_lawTold_11 : decode cX8_lawTold 11 = .ok (.ireturn, 1) := by decide +kernel
theorem dX8_lawTold_12 : decode cX8_lawTold 12 = .ok (.iload_n 1, 1) := by decide +kernel
theorem dX8_lawTold_13 : decode cX8_lawTold 13 = .ok (.tableswitch 67 0 2 #[27, 35, 51], 27) := by decide +kernel
theorem dX8_lawTold_40 : decode cX8_lawTold 40 = .ok (.aload_n 0, 1) := by decide +kernel
theorem dX8_lawTold_41 : decode cX8_lawTold 41 = .ok (.getfield 19, 3) := by decide +kernel
theorem dX8_lawTold_44 : decode cX8_lawTold 44 = .ok (.getfield 95, 3) := by decide +kernel
theorem dX8_lawTold_47 : decode cX8_lawTold 47 = .ok (.ireturn, 1) := by decide +kernel
theorem dX8_lawTold_48 : decode cX8_lawTold 48 = .ok (.aload_n 0, 1) := by decide +kernel
theorem dX8_lawTold_49 : decode cX8_lawTold 49 = .ok (.getfield 19, 3) := by decide +kernel
theorem dX8_lawTold_52 : decode cX8_lawTold 52 = .ok (.getfield 98, 3) := by decide +kernel
theorem dX8_lawTold_55 : decode cX8_lawTold 55 = .ok (.ifCond .eq 7, 3) := by decide +kernel
theorem dX8_lawTold_58 : decode cX8_lawTold 58 = .ok (.iconst 1, 1) := by decide +kernel
theorem dX8_lawTold_59 : decode cX8_lawTold 59 = .ok (.goto 4, 3) := by decide +kernel
theorem dX8_lawTold_62 : decode cX8_lawTold 62 = .ok (.iconst 0, 1) := by decide +kernel
theorem dX8_lawTold_63 : decode cX8_lawTold 63 = .ok (.ireturn, 1) := by decide +kernel
theorem dX8_lawTold_64 : decode cX8_lawTold 64 = .ok (.aload_n 0, 1) := by decide +kernel
theorem dX8_lawTold_65 : decode cX8_lawTold 65 = .ok (.getfield 19, 3) := by decide +kernel
theorem dX8_lawTold_68 : decode cX8_lawTold 68 = .ok (.getfield 102, 3) := by decide +kernel
theorem dX8_lawTold_71 : decode cX8_lawTold 71 = .ok (.ifCond .eq 7, 3) := by decide +kernel
theorem dX8_lawTold_74 : decode cX8_lawTold 74 = .ok (.iconst 1, 1) := by decide +kernel
theorem dX8_lawTold_75 : decode cX8_lawTold 75 = .ok (.goto 4, 3) := by decide +kernel
theorem dX8_lawTold_78 : decode cX8_lawTold 78 = .ok (.iconst 0, 1) := by decide +kernel
theorem dX8_lawTold_79 : decode cX8_lawTold 79 = .ok (.ireturn, 1) := by decide +kernel
theorem dX8_lawTold_80 : decode cX8_lawTold 80 = .ok (.aload_n 0, 1) := by decide +kernel
theorem dX8_lawTold_81 : decode cX8_lawTold 81 = .ok (.getfield 19, 3) := by decide +kernel
theorem dX8_lawTold_84 : decode cX8_lawTold 84 = .ok (.getfield 105, 3) := by decide +kernel
theorem dX8_lawTold_87 : decode cX8_lawTold 87 = .ok (.ireturn, 1) := by decide +kernel
theorem dX8_person_0 : decode cX8_person 0 = .ok (.iload_n 1, 1) := by decide +kernel
theorem dX8_person_1 : decode cX8_person 1 = .ok (.iconst 0, 1) := by decide +kernel
theorem dX8_person_2 : decode cX8_person 2 = .ok (.iconst 3, 1) := by decide +kernel
theorem dX8_person_3 : decode cX8_person 3 = .ok (.invokestatic 91, 3) := by decide +kernel
theorem dX8_person_6 : decode cX8_person 6 = .ok (.ifCond .ne 6, 3) := by decide +kernel
theorem dX8_person_9 : decode cX8_person 9 = .ok (.bipush (-102), 2) := by decide +kernel
theorem dX8_person_11 : decode cX8_person 11 = .ok (.ireturn, 1) := by decide +kernel
theorem dX8_person_12 : decode cX8_person 12 = .ok (.aload_n 0, 1) := by decide +kernel
theorem dX8_person_13 : decode cX8_person 13 = .ok (.getfield 26, 3) := by decide +kernel
theorem dX8_person_16 : decode cX8_person 16 = .ok (.getfield 108, 3) := by decide +kernel
theorem dX8_person_19 : decode cX8_person 19 = .ok (.bipush 8, 2) := by decide +kernel
theorem dX8_person_21 : decode cX8_person 21 = .ok (.if_icmp .lt 6, 3) := by decide +kernel
theorem dX8_person_24 : decode cX8_person 24 = .ok (.bipush (-104), 2) := by decide +kernel
theorem dX8_person_26 : decode cX8_person 26 = .ok (.ireturn, 1) := by decide +kernel
theorem dX8_person_27 : decode cX8_person 27 = .ok (.aload_n 0, 1) := by decide +kernel
theorem dX8_person_28 : decode cX8_person 28 = .ok (.getfield 26, 3) := by decide +kernel
theorem dX8_person_31 : decode cX8_person 31 = .ok (.iload_n 1, 1) := by decide +kernel
theorem dX8_person_32 : decode cX8_person 32 = .ok (.invokevirtual 111, 3) := by decide +kernel
theorem dX8_person_35 : decode cX8_person 35 = .ok (.ireturn, 1) := by decide +kernel
theorem dX8_know_0 : decode cX8_know 0 = .ok (.aload_n 0, 1) := by decide +kernel
theorem dX8_know_1 : decode cX8_know 1 = .ok (.iload_n 1, 1) := by decide +kernel
theorem dX8_know_2 : decode cX8_know 2 = .ok (.iload_n 2, 1) := by decide +kernel
theorem dX8_know_3 : decode cX8_know 3 = .ok (.invokevirtual 115, 3) := by decide +kernel
theorem dX8_know_6 : decode cX8_know 6 = .ok (.ifCond .ne 6, 3) := by decide +kernel
theorem dX8_know_9 : decode cX8_know 9 = .ok (.bipush (-101), 2) := by decide +kernel
theorem dX8_know_11 : decode cX8_know 11 = .ok (.ireturn, 1) := by decide +kernel
theorem dX8_know_12 : decode cX8_know 12 = .ok (.aload_n 0, 1) := by decide +kernel
theorem dX8_know_13 : decode cX8_know 13 = .ok (.getfield 26, 3) := by decide +kernel
theorem dX8_know_16 : decode cX8_know 16 = .ok (.iload_n 1, 1) := by decide +kernel
theorem dX8_know_17 : decode cX8_know 17 = .ok (.iload_n 2, 1) := by decide +kernel
theorem dX8_know_18 : decode cX8_know 18 = .ok (.invokevirtual 119, 3) := by decide +kernel
theorem dX8_know_21 : decode cX8_know 21 = .ok (.ifCond .eq 7, 3) := by decide +kernel
theorem dX8_know_24 : decode cX8_know 24 = .ok (.iconst 1, 1) := by decide +kernel
theorem dX8_know_25 : decode cX8_know 25 = .ok (.goto 4, 3) := by decide +kernel
theorem dX8_know_28 : decode cX8_know 28 = .ok (.iconst 0, 1) := by decide +kernel
theorem dX8_know_29 : decode cX8_know 29 = .ok (.istore 4, 2) := by decide +kernel
theorem dX8_know_31 : decode cX8_know 31 = .ok (.aload_n 0, 1) := by decide +kernel
theorem dX8_know_32 : decode cX8_know 32 = .ok (.getfield 26, 3) := by decide +kernel
theorem dX8_know_35 : decode cX8_know 35 = .ok (.iload_n 1, 1) := by decide +kernel
theorem dX8_know_36 : decode cX8_know 36 = .ok (.iload_n 2, 1) := by decide +kernel
theorem dX8_know_37 : decode cX8_know 37 = .ok (.iload_n 3, 1) := by decide +kernel
theorem dX8_know_38 : decode cX8_know 38 = .ok (.invokevirtual 122, 3) := by decide +kernel
theorem dX8_know_41 : decode cX8_know 41 = .ok (.iload 4, 2) := by decide +kernel
theorem dX8_know_43 : decode cX8_know 43 = .ok (.ireturn, 1) := by decide +kernel
theorem dX8_like_0 : decode cX8_like 0 = .ok (.aload_n 0, 1) := by decide +kernel
theorem dX8_like_1 : decode cX8_like 1 = .ok (.iload_n 1, 1) := by decide +kernel
theorem dX8_like_2 : decode cX8_like 2 = .ok (.iload_n 2, 1) := by decide +kernel
theorem dX8_like_3 : decode cX8_like 3 = .ok (.invokevirtual 115, 3) := by decide +kernel
theorem dX8_like_6 : decode cX8_like 6 = .ok (.ifCond .ne 6, 3) := by decide +kernel
theorem dX8_like_9 : decode cX8_like 9 = .ok (.bipush (-101), 2) := by decide +kernel
theorem dX8_like_11 : decode cX8_like 11 = .ok (.ireturn, 1) := by decide +kernel
theorem dX8_like_12 : decode cX8_like 12 = .ok (.iload_n 3, 1) := by decide +kernel
theorem dX8_like_13 : decode cX8_like 13 = .ok (.iconst 0, 1) := by decide +kernel
theorem dX8_like_14 : decode cX8_like 14 = .ok (.bipush 9, 2) := by decide +kernel
theorem dX8_like_16 : decode cX8_like 16 = .ok (.invokestatic 91, 3) := by decide +kernel
theorem dX8_like_19 : decode cX8_like 19 = .ok (.ifCond .ne 6, 3) := by decide +kernel
theorem dX8_like_22 : decode cX8_like 22 = .ok (.bipush (-102), 2) := by decide +kernel
theorem dX8_like_24 : decode cX8_like 24 = .ok (.ireturn, 1) := by decide +kernel
theorem dX8_like_25 : decode cX8_like 25 = .ok (.aload_n 0, 1) := by decide +kernel
theorem dX8_like_26 : decode cX8_like 26 = .ok (.getfield 26, 3) := by decide +kernel
theorem dX8_like_29 : decode cX8_like 29 = .ok (.getfield 126, 3) := by decide +kernel
theorem dX8_like_32 : decode cX8_like 32 = .ok (.iload_n 1, 1) := by decide +kernel
theorem dX8_like_33 : decode cX8_like 33 = .ok (.iload_n 2, 1) := by decide +kernel
theorem dX8_like_34 : decode cX8_like 34 = .ok (.invokestatic 130, 3) := by decide +kernel
theorem dX8_like_37 : decode cX8_like 37 = .ok (.iaload, 1) := by decide +kernel
theorem dX8_like_38 : decode cX8_like 38 = .ok (.istore 4, 2) := by decide +kernel
theorem dX8_like_40 : decode cX8_like 40 = .ok (.aload_n 0, 1) := by decide +kernel
theorem dX8_like_41 : decode cX8_like 41 = .ok (.getfield 26, 3) := by decide +kernel
theorem dX8_like_44 : decode cX8_like 44 = .ok (.getfield 126, 3) := by decide +kernel
theorem dX8_like_47 : decode cX8_like 47 = .ok (.iload_n 1, 1) := by decide +kernel
theorem dX8_like_48 : decode cX8_like 48 = .ok (.iload_n 2, 1) := by decide +kernel
theorem dX8_like_49 : decode cX8_like 49 = .ok (.invokestatic 130, 3) := by decide +kernel
theorem dX8_like_52 : decode cX8_like 52 = .ok (.iload_n 3, 1) := by decide +kernel
theorem dX8_like_53 : decode cX8_like 53 = .ok (.iastore, 1) := by decide +kernel
theorem dX8_like_54 : decode cX8_like 54 = .ok (.iload 4, 2) := by decide +kernel
theorem dX8_like_56 : decode cX8_like 56 = .ok (.ireturn, 1) := by decide +kernel
theorem dX8_about_0 : decode cX8_about 0 = .ok (.aload_n 0, 1) := by decide +kernel
theorem dX8_about_1 : decode cX8_about 1 = .ok (.iload_n 1, 1) := by decide +kernel
theorem dX8_about_2 : decode cX8_about 2 = .ok (.invokevirtual 134, 3) := by decide +kernel
theorem dX8_about_5 : decode cX8_about 5 = .ok (.ifCond .ne 6, 3) := by decide +kernel
theorem dX8_about_8 : decode cX8_about 8 = .ok (.bipush (-101), 2) := by decide +kernel
theorem dX8_about_10 : decode cX8_about 10 = .ok (.ireturn, 1) := by decide +kernel
theorem dX8_about_11 : decode cX8_about 11 = .ok (.iload_n 2, 1) := by decide +kernel
theorem dX8_about_12 : decode cX8_about 12 = .ok (.iconst 0, 1) := by decide +kernel
theorem dX8_about_13 : decode cX8_about 13 = .ok (.iconst 3, 1) := by decide +kernel
theorem dX8_about_14 : decode cX8_about 14 = .ok (.invokestatic 91, 3) := by decide +kernel
theorem dX8_about_17 : decode cX8_about 17 = .ok (.ifCond .ne 6, 3) := by decide +kernel
theorem dX8_about_20 : decode cX8_about 20 = .ok (.bipush (-102), 2) := by decide +kernel
theorem dX8_about_22 : decode cX8_about 22 = .ok (.ireturn, 1) := by decide +kernel
theorem dX8_about_23 : decode cX8_about 23 = .ok (.iload_n 2, 1) := by decide +kernel
theorem dX8_about_24 : decode cX8_about 24 = .ok (.tableswitch 57 0 2 #[28, 38, 47], 28) := by decide +kernel
theorem dX8_about_52 : decode cX8_about 52 = .ok (.aload_n 0, 1) := by decide +kernel
theorem dX8_about_53 : decode cX8_about 53 = .ok (.getfield 26, 3) := by decide +kernel
theorem dX8_about_56 : decode cX8_about 56 = .ok (.getfield 138, 3) := by decide +kernel
theorem dX8_about_59 : decode cX8_about 59 = .ok (.iload_n 1, 1) := by decide +kernel
theorem dX8_about_60 : decode cX8_about 60 = .ok (.iaload, 1) := by decide +kernel
theorem dX8_about_61 : decode cX8_about 61 = .ok (.ireturn, 1) := by decide +kernel
theorem dX8_about_62 : decode cX8_about 62 = .ok (.aload_n 0, 1) := by decide +kernel
theorem dX8_about_63 : decode cX8_about 63 = .ok (.getfield 26, 3) := by decide +kernel
theorem dX8_about_66 : decode cX8_about 66 = .ok (.iload_n 1, 1) := by decide +kernel
theorem dX8_about_67 : decode cX8_about 67 = .ok (.invokevirtual 141, 3) := by decide +kernel
theorem dX8_about_70 : decode cX8_about 70 = .ok (.ireturn, 1) := by decide +kernel
theorem dX8_about_71 : decode cX8_about 71 = .ok (.aload_n 0, 1) := by decide +kernel
theorem dX8_about_72 : decode cX8_about 72 = .ok (.getfield 26, 3) := by decide +kernel
theorem dX8_about_75 : decode cX8_about 75 = .ok (.getfield 144, 3) := by decide +kernel
theorem dX8_about_78 : decode cX8_about 78 = .ok (.iload_n 1, 1) := by decide +kernel
theorem dX8_about_79 : decode cX8_about 79 = .ok (.iaload, 1) := by decide +kernel
theorem dX8_about_80 : decode cX8_about 80 = .ok (.ireturn, 1) := by decide +kernel
theorem dX8_about_81 : decode cX8_about 81 = .ok (.aload_n 0, 1) := by decide +kernel
theorem dX8_about_82 : decode cX8_about 82 = .ok (.getfield 26, 3) := by decide +kernel
theorem dX8_about_85 : decode cX8_about 85 = .ok (.getfield 147, 3) := by decide +kernel
theorem dX8_about_88 : decode cX8_about 88 = .ok (.iload_n 1, 1) := by decide +kernel
theorem dX8_about_89 : decode cX8_about 89 = .ok (.iaload, 1) := by decide +kernel
theorem dX8_about_90 : decode cX8_about 90 = .ok (.ireturn, 1) := by decide +kernel
theorem dX8_owes_0 : decode cX8_owes 0 = .ok (.aload_n 0, 1) := by decide +kernel
theorem dX8_owes_1 : decode cX8_owes 1 = .ok (.iload_n 1, 1) := by decide +kernel
theorem dX8_owes_2 : decode cX8_owes 2 = .ok (.iload_n 2, 1) := by decide +kernel
theorem dX8_owes_3 : decode cX8_owes 3 = .ok (.invokevirtual 115, 3) := by decide +kernel
theorem dX8_owes_6 : decode cX8_owes 6 = .ok (.ifCond .ne 6, 3) := by decide +kernel
theorem dX8_owes_9 : decode cX8_owes 9 = .ok (.bipush (-101), 2) := by decide +kernel
theorem dX8_owes_11 : decode cX8_owes 11 = .ok (.ireturn, 1) := by decide +kernel
theorem dX8_owes_12 : decode cX8_owes 12 = .ok (.aload_n 0, 1) := by decide +kernel
theorem dX8_owes_13 : decode cX8_owes 13 = .ok (.getfield 26, 3) := by decide +kernel
theorem dX8_owes_16 : decode cX8_owes 16 = .ok (.getfield 150, 3) := by decide +kernel
theorem dX8_owes_19 : decode cX8_owes 19 = .ok (.iload_n 1, 1) := by decide +kernel
theorem dX8_owes_20 : decode cX8_owes 20 = .ok (.iload_n 2, 1) := by decide +kernel
theorem dX8_owes_21 : decode cX8_owes 21 = .ok (.invokestatic 130, 3) := by decide +kernel
theorem dX8_owes_24 : decode cX8_owes 24 = .ok (.iaload, 1) := by decide +kernel
theorem dX8_owes_25 : decode cX8_owes 25 = .ok (.ireturn, 1) := by decide +kernel
theorem dX8_rest_0 : decode cX8_rest 0 = .ok (.aload_n 0, 1) := by decide +kernel
theorem dX8_rest_1 : decode cX8_rest 1 = .ok (.iload_n 1, 1) := by decide +kernel
theorem dX8_rest_2 : decode cX8_rest 2 = .ok (.invokevirtual 134, 3) := by decide +kernel
theorem dX8_rest_5 : decode cX8_rest 5 = .ok (.ifCond .ne 6, 3) := by decide +kernel
theorem dX8_rest_8 : decode cX8_rest 8 = .ok (.ldc 153, 2) := by decide +kernel
theorem dX8_rest_10 : decode cX8_rest 10 = .ok (.ireturn, 1) := by decide +kernel
theorem dX8_rest_11 : decode cX8_rest 11 = .ok (.aload_n 0, 1) := by decide +kernel
theorem dX8_rest_12 : decode cX8_rest 12 = .ok (.getfield 26, 3) := by decide +kernel
theorem dX8_rest_15 : decode cX8_rest 15 = .ok (.iload_n 1, 1) := by decide +kernel
theorem dX8_rest_16 : decode cX8_rest 16 = .ok (.invokevirtual 154, 3) := by decide +kernel
theorem dX8_rest_19 : decode cX8_rest 19 = .ok (.ireturn, 1) := by decide +kernel
theorem dX8_gift_0 : decode cX8_gift 0 = .ok (.iload_n 1, 1) := by decide +kernel
theorem dX8_gift_1 : decode cX8_gift 1 = .ok (.iconst 0, 1) := by decide +kernel
theorem dX8_gift_2 : decode cX8_gift 2 = .ok (.iconst 4, 1) := by decide +kernel
theorem dX8_gift_3 : decode cX8_gift 3 = .ok (.invokestatic 91, 3) := by decide +kernel
theorem dX8_gift_6 : decode cX8_gift 6 = .ok (.ifCond .ne 6, 3) := by decide +kernel
theorem dX8_gift_9 : decode cX8_gift 9 = .ok (.bipush (-102), 2) := by decide +kernel
theorem dX8_gift_11 : decode cX8_gift 11 = .ok (.ireturn, 1) := by decide +kernel
theorem dX8_gift_12 : decode cX8_gift 12 = .ok (.aload_n 0, 1) := by decide +kernel
theorem dX8_gift_13 : decode cX8_gift 13 = .ok (.iload_n 2, 1) := by decide +kernel
theorem dX8_gift_14 : decode cX8_gift 14 = .ok (.invokevirtual 134, 3) := by decide +kernel
theorem dX8_gift_17 : decode cX8_gift 17 = .ok (.ifCond .ne 6, 3) := by decide +kernel
theorem dX8_gift_20 : decode cX8_gift 20 = .ok (.bipush (-101), 2) := by decide +kernel
theorem dX8_gift_22 : decode cX8_gift 22 = .ok (.ireturn, 1) := by decide +kernel
theorem dX8_gift_23 : decode cX8_gift 23 = .ok (.aload_n 0, 1) := by decide +kernel
theorem dX8_gift_24 : decode cX8_gift 24 = .ok (.getfield 26, 3) := by decide +kernel
theorem dX8_gift_27 : decode cX8_gift 27 = .ok (.getfield 157, 3) := by decide +kernel
theorem dX8_gift_30 : decode cX8_gift 30 = .ok (.bipush 8, 2) := by decide +kernel
theorem dX8_gift_32 : decode cX8_gift 32 = .ok (.if_icmp .lt 6, 3) := by decide +kernel
theorem dX8_gift_35 : decode cX8_gift 35 = .ok (.bipush (-104), 2) := by decide +kernel
theorem dX8_gift_37 : decode cX8_gift 37 = .ok (.ireturn, 1) := by decide +kernel
theorem dX8_gift_38 : decode cX8_gift 38 = .ok (.aload_n 0, 1) := by decide +kernel
theorem dX8_gift_39 : decode cX8_gift 39 = .ok (.getfield 26, 3) := by decide +kernel
theorem dX8_gift_42 : decode cX8_gift 42 = .ok (.iload_n 1, 1) := by decide +kernel
theorem dX8_gift_43 : decode cX8_gift 43 = .ok (.iload_n 2, 1) := by decide +kernel
theorem dX8_gift_44 : decode cX8_gift 44 = .ok (.invokevirtual 160, 3) := by decide +kernel
theorem dX8_gift_47 : decode cX8_gift 47 = .ok (.ireturn, 1) := by decide +kernel
theorem dX8_told_0 : decode cX8_told 0 = .ok (.aload_n 0, 1) := by decide +kernel
theorem dX8_told_1 : decode cX8_told 1 = .ok (.iload_n 1, 1) := by decide +kernel
theorem dX8_told_2 : decode cX8_told 2 = .ok (.invokevirtual 163, 3) := by decide +kernel
theorem dX8_told_5 : decode cX8_told 5 = .ok (.ifCond .ne 6, 3) := by decide +kernel
theorem dX8_told_8 : decode cX8_told 8 = .ok (.bipush (-101), 2) := by decide +kernel
theorem dX8_told_10 : decode cX8_told 10 = .ok (.ireturn, 1) := by decide +kernel
theorem dX8_told_11 : decode cX8_told 11 = .ok (.iload_n 2, 1) := by decide +kernel
theorem dX8_told_12 : decode cX8_told 12 = .ok (.iconst 0, 1) := by decide +kernel
theorem dX8_told_13 : decode cX8_told 13 = .ok (.bipush 8, 2) := by decide +kernel
theorem dX8_told_15 : decode cX8_told 15 = .ok (.invokestatic 91, 3) := by decide +kernel
theorem dX8_told_18 : decode cX8_told 18 = .ok (.ifCond .ne 6, 3) := by decide +kernel
theorem dX8_told_21 : decode cX8_told 21 = .ok (.bipush (-102), 2) := by decide +kernel
theorem dX8_told_23 : decode cX8_told 23 = .ok (.ireturn, 1) := by decide +kernel
theorem dX8_told_24 : decode cX8_told 24 = .ok (.aload_n 0, 1) := by decide +kernel
theorem dX8_told_25 : decode cX8_told 25 = .ok (.getfield 26, 3) := by decide +kernel
theorem dX8_told_28 : decode cX8_told 28 = .ok (.getfield 166, 3) := by decide +kernel
theorem dX8_told_31 : decode cX8_told 31 = .ok (.iload_n 1, 1) := by decide +kernel
theorem dX8_told_32 : decode cX8_told 32 = .ok (.aaload, 1) := by decide +kernel
theorem dX8_told_33 : decode cX8_told 33 = .ok (.astore_n 3, 1) := by decide +kernel
theorem dX8_told_34 : decode cX8_told 34 = .ok (.iload_n 2, 1) := by decide +kernel
theorem dX8_told_35 : decode cX8_told 35 = .ok (.tableswitch 85 0 7 #[45, 50, 55, 60, 65, 70, 75, 80], 45) := by decide +kernel
theorem dX8_told_80 : decode cX8_told 80 = .ok (.aload_n 3, 1) := by decide +kernel
theorem dX8_told_81 : decode cX8_told 81 = .ok (.getfield 170, 3) := by decide +kernel
theorem dX8_told_84 : decode cX8_told 84 = .ok (.ireturn, 1) := by decide +kernel
theorem dX8_told_85 : decode cX8_told 85 = .ok (.aload_n 3, 1) := by decide +kernel
theorem dX8_told_86 : decode cX8_told 86 = .ok (.getfield 175, 3) := by decide +kernel
theorem dX8_told_89 : decode cX8_told 89 = .ok (.ireturn, 1) := by decide +kernel
theorem dX8_told_90 : decode cX8_told 90 = .ok (.aload_n 3, 1) := by decide +kernel
theorem dX8_told_91 : decode cX8_told 91 = .ok (.getfield 178, 3) := by decide +kernel
theorem dX8_told_94 : decode cX8_told 94 = .ok (.ireturn, 1) := by decide +kernel
theorem dX8_told_95 : decode cX8_told 95 = .ok (.aload_n 3, 1) := by decide +kernel
theorem dX8_told_96 : decode cX8_told 96 = .ok (.getfield 181, 3) := by decide +kernel
theorem dX8_told_99 : decode cX8_told 99 = .ok (.ireturn, 1) := by decide +kernel
theorem dX8_told_100 : decode cX8_told 100 = .ok (.aload_n 3, 1) := by decide +kernel
theorem dX8_told_101 : decode cX8_told 101 = .ok (.getfield 184, 3) := by decide +kernel
theorem dX8_told_104 : decode cX8_told 104 = .ok (.ireturn, 1) := by decide +kernel
theorem dX8_told_105 : decode cX8_told 105 = .ok (.aload_n 3, 1) := by decide +kernel
theorem dX8_told_106 : decode cX8_told 106 = .ok (.getfield 187, 3) := by decide +kernel
theorem dX8_told_109 : decode cX8_told 109 = .ok (.ireturn, 1) := by decide +kernel
theorem dX8_told_110 : decode cX8_told 110 = .ok (.aload_n 3, 1) := by decide +kernel
theorem dX8_told_111 : decode cX8_told 111 = .ok (.invokevirtual 190, 3) := by decide +kernel
theorem dX8_told_114 : decode cX8_told 114 = .ok (.ireturn, 1) := by decide +kernel
theorem dX8_told_115 : decode cX8_told 115 = .ok (.aload_n 3, 1) := by decide +kernel
theorem dX8_told_116 : decode cX8_told 116 = .ok (.getfield 193, 3) := by decide +kernel
theorem dX8_told_119 : decode cX8_told 119 = .ok (.ireturn, 1) := by decide +kernel
theorem dX8_told_120 : decode cX8_told 120 = .ok (.aload_n 3, 1) := by decide +kernel
theorem dX8_told_121 : decode cX8_told 121 = .ok (.getfield 196, 3) := by decide +kernel
theorem dX8_told_124 : decode cX8_told 124 = .ok (.ireturn, 1) := by decide +kernel
theorem dX8_as_0 : decode cX8_as 0 = .ok (.aload_n 0, 1) := by decide +kernel
theorem dX8_as_1 : decode cX8_as 1 = .ok (.iload_n 1, 1) := by decide +kernel
theorem dX8_as_2 : decode cX8_as 2 = .ok (.invokevirtual 163, 3) := by decide +kernel
theorem dX8_as_5 : decode cX8_as 5 = .ok (.ifCond .ne 6, 3) := by decide +kernel
theorem dX8_as_8 : decode cX8_as 8 = .ok (.bipush (-101), 2) := by decide +kernel
theorem dX8_as_10 : decode cX8_as 10 = .ok (.ireturn, 1) := by decide +kernel
theorem dX8_as_11 : decode cX8_as 11 = .ok (.iload_n 2, 1) := by decide +kernel
theorem dX8_as_12 : decode cX8_as 12 = .ok (.iconst 0, 1) := by decide +kernel
theorem dX8_as_13 : decode cX8_as 13 = .ok (.iconst 4, 1) := by decide +kernel
theorem dX8_as_14 : decode cX8_as 14 = .ok (.invokestatic 91, 3) := by decide +kernel
theorem dX8_as_17 : decode cX8_as 17 = .ok (.ifCond .ne 6, 3) := by decide +kernel
theorem dX8_as_20 : decode cX8_as 20 = .ok (.bipush (-102), 2) := by decide +kernel
theorem dX8_as_22 : decode cX8_as 22 = .ok (.ireturn, 1) := by decide +kernel
theorem dX8_as_23 : decode cX8_as 23 = .ok (.aload_n 0, 1) := by decide +kernel
theorem dX8_as_24 : decode cX8_as 24 = .ok (.getfield 26, 3) := by decide +kernel
theorem dX8_as_27 : decode cX8_as 27 = .ok (.getfield 166, 3) := by decide +kernel
theorem dX8_as_30 : decode cX8_as 30 = .ok (.iload_n 1, 1) := by decide +kernel
theorem dX8_as_31 : decode cX8_as 31 = .ok (.aaload, 1) := by decide +kernel
theorem dX8_as_32 : decode cX8_as 32 = .ok (.iload_n 2, 1) := by decide +kernel
theorem dX8_as_33 : decode cX8_as 33 = .ok (.invokevirtual 199, 3) := by decide +kernel
theorem dX8_as_36 : decode cX8_as 36 = .ok (.ifCond .eq 7, 3) := by decide +kernel
theorem dX8_as_39 : decode cX8_as 39 = .ok (.iload_n 1, 1) := by decide +kernel
theorem dX8_as_40 : decode cX8_as 40 = .ok (.goto 4, 3) := by decide +kernel
theorem dX8_as_43 : decode cX8_as 43 = .ok (.iconst (-1), 1) := by decide +kernel
theorem dX8_as_44 : decode cX8_as 44 = .ok (.ireturn, 1) := by decide +kernel
theorem dX8_may_0 : decode cX8_may 0 = .ok (.aload_n 0, 1) := by decide +kernel
theorem dX8_may_1 : decode cX8_may 1 = .ok (.iload_n 1, 1) := by decide +kernel
theorem dX8_may_2 : decode cX8_may 2 = .ok (.invokevirtual 163, 3) := by decide +kernel
theorem dX8_may_5 : decode cX8_may 5 = .ok (.ifCond .ne 6, 3) := by decide +kernel
theorem dX8_may_8 : decode cX8_may 8 = .ok (.bipush (-101), 2) := by decide +kernel
theorem dX8_may_10 : decode cX8_may 10 = .ok (.ireturn, 1) := by decide +kernel
theorem dX8_may_11 : decode cX8_may 11 = .ok (.aload_n 0, 1) := by decide +kernel
theorem dX8_may_12 : decode cX8_may 12 = .ok (.getfield 26, 3) := by decide +kernel
theorem dX8_may_15 : decode cX8_may 15 = .ok (.getfield 166, 3) := by decide +kernel
theorem dX8_may_18 : decode cX8_may 18 = .ok (.iload_n 1, 1) := by decide +kernel
theorem dX8_may_19 : decode cX8_may 19 = .ok (.aaload, 1) := by decide +kernel
theorem dX8_may_20 : decode cX8_may 20 = .ok (.invokevirtual 202, 3) := by decide +kernel
theorem dX8_may_23 : decode cX8_may 23 = .ok (.ifCond .ne 6, 3) := by decide +kernel
theorem dX8_may_26 : decode cX8_may 26 = .ok (.bipush (-103), 2) := by decide +kernel
theorem dX8_may_28 : decode cX8_may 28 = .ok (.ireturn, 1) := by decide +kernel
theorem dX8_may_29 : decode cX8_may 29 = .ok (.aload_n 0, 1) := by decide +kernel
theorem dX8_may_30 : decode cX8_may 30 = .ok (.iload_n 1, 1) := by decide +kernel
theorem dX8_may_31 : decode cX8_may 31 = .ok (.invokevirtual 205, 3) := by decide +kernel
theorem dX8_may_34 : decode cX8_may 34 = .ok (.ireturn, 1) := by decide +kernel
theorem dX8_give_0 : decode cX8_give 0 = .ok (.aload_n 0, 1) := by decide +kernel
theorem dX8_give_1 : decode cX8_give 1 = .ok (.iload_n 1, 1) := by decide +kernel
theorem dX8_give_2 : decode cX8_give 2 = .ok (.invokevirtual 163, 3) := by decide +kernel
theorem dX8_give_5 : decode cX8_give 5 = .ok (.ifCond .eq 11, 3) := by decide +kernel
theorem dX8_give_8 : decode cX8_give 8 = .ok (.aload_n 0, 1) := by decide +kernel
theorem dX8_give_9 : decode cX8_give 9 = .ok (.iload_n 2, 1) := by decide +kernel
theorem dX8_give_10 : decode cX8_give 10 = .ok (.invokevirtual 134, 3) := by decide +kernel
theorem dX8_give_13 : decode cX8_give 13 = .ok (.ifCond .ne 6, 3) := by decide +kernel
theorem dX8_give_16 : decode cX8_give 16 = .ok (.bipush (-101), 2) := by decide +kernel
theorem dX8_give_18 : decode cX8_give 18 = .ok (.ireturn, 1) := by decide +kernel
theorem dX8_give_19 : decode cX8_give 19 = .ok (.aload_n 0, 1) := by decide +kernel
theorem dX8_give_20 : decode cX8_give 20 = .ok (.getfield 26, 3) := by decide +kernel
theorem dX8_give_23 : decode cX8_give 23 = .ok (.getfield 166, 3) := by decide +kernel
theorem dX8_give_26 : decode cX8_give 26 = .ok (.iload_n 1, 1) := by decide +kernel
theorem dX8_give_27 : decode cX8_give 27 = .ok (.aaload, 1) := by decide +kernel
theorem dX8_give_28 : decode cX8_give 28 = .ok (.invokevirtual 202, 3) := by decide +kernel
theorem dX8_give_31 : decode cX8_give 31 = .ok (.ifCond .ne 6, 3) := by decide +kernel
theorem dX8_give_34 : decode cX8_give 34 = .ok (.bipush (-103), 2) := by decide +kernel
theorem dX8_give_36 : decode cX8_give 36 = .ok (.ireturn, 1) := by decide +kernel
theorem dX8_give_37 : decode cX8_give 37 = .ok (.aload_n 0, 1) := by decide +kernel
theorem dX8_give_38 : decode cX8_give 38 = .ok (.iload_n 1, 1) := by decide +kernel
theorem dX8_give_39 : decode cX8_give 39 = .ok (.invokevirtual 205, 3) := by decide +kernel
theorem dX8_give_42 : decode cX8_give 42 = .ok (.iload_n 2, 1) := by decide +kernel
theorem dX8_give_43 : decode cX8_give 43 = .ok (.invokestatic 208, 3) := by decide +kernel
theorem dX8_give_46 : decode cX8_give 46 = .ok (.iand, 1) := by decide +kernel
theorem dX8_give_47 : decode cX8_give 47 = .ok (.ifCond .ne 6, 3) := by decide +kernel
theorem dX8_give_50 : decode cX8_give 50 = .ok (.bipush (-103), 2) := by decide +kernel
theorem dX8_give_52 : decode cX8_give 52 = .ok (.ireturn, 1) := by decide +kernel
theorem dX8_give_53 : decode cX8_give 53 = .ok (.aload_n 0, 1) := by decide +kernel
theorem dX8_give_54 : decode cX8_give 54 = .ok (.getfield 26, 3) := by decide +kernel
theorem dX8_give_57 : decode cX8_give 57 = .ok (.aload_n 0, 1) := by decide +kernel
theorem dX8_give_58 : decode cX8_give 58 = .ok (.getfield 26, 3) := by decide +kernel
theorem dX8_give_61 : decode cX8_give 61 = .ok (.getfield 166, 3) := by decide +kernel
theorem dX8_give_64 : decode cX8_give 64 = .ok (.iload_n 1, 1) := by decide +kernel
theorem dX8_give_65 : decode cX8_give 65 = .ok (.aaload, 1) := by decide +kernel
theorem dX8_give_66 : decode cX8_give 66 = .ok (.iload_n 2, 1) := by decide +kernel
theorem dX8_give_67 : decode cX8_give 67 = .ok (.aload_n 0, 1) := by decide +kernel
theorem dX8_give_68 : decode cX8_give 68 = .ok (.getfield 19, 3) := by decide +kernel
theorem dX8_give_71 : decode cX8_give 71 = .ok (.getfield 105, 3) := by decide +kernel
theorem dX8_give_74 : decode cX8_give 74 = .ok (.invokevirtual 211, 3) := by decide +kernel
theorem dX8_give_77 : decode cX8_give 77 = .ok (.aload_n 0, 1) := by decide +kernel
theorem dX8_give_78 : decode cX8_give 78 = .ok (.getfield 26, 3) := by decide +kernel
theorem dX8_give_81 : decode cX8_give 81 = .ok (.getfield 166, 3) := by decide +kernel
theorem dX8_give_84 : decode cX8_give 84 = .ok (.iload_n 1, 1) := by decide +kernel
theorem dX8_give_85 : decode cX8_give 85 = .ok (.aaload, 1) := by decide +kernel
theorem dX8_give_86 : decode cX8_give 86 = .ok (.getfield 193, 3) := by decide +kernel
theorem dX8_give_89 : decode cX8_give 89 = .ok (.ireturn, 1) := by decide +kernel
theorem dX8_years_0 : decode cX8_years 0 = .ok (.iload_n 1, 1) := by decide +kernel
theorem dX8_years_1 : decode cX8_years 1 = .ok (.iconst 1, 1) := by decide +kernel
theorem dX8_years_2 : decode cX8_years 2 = .ok (.bipush 30, 2) := by decide +kernel
theorem dX8_years_4 : decode cX8_years 4 = .ok (.invokestatic 91, 3) := by decide +kernel
theorem dX8_years_7 : decode cX8_years 7 = .ok (.ifCond .ne 6, 3) := by decide +kernel
theorem dX8_years_10 : decode cX8_years 10 = .ok (.bipush (-102), 2) := by decide +kernel
theorem dX8_years_12 : decode cX8_years 12 = .ok (.ireturn, 1) := by decide +kernel
theorem dX8_years_13 : decode cX8_years 13 = .ok (.iconst 0, 1) := by decide +kernel
theorem dX8_years_14 : decode cX8_years 14 = .ok (.istore_n 2, 1) := by decide +kernel
theorem dX8_years_15 : decode cX8_years 15 = .ok (.iconst 0, 1) := by decide +kernel
theorem dX8_years_16 : decode cX8_years 16 = .ok (.istore_n 3, 1) := by decide +kernel
theorem dX8_years_17 : decode cX8_years 17 = .ok (.iload_n 3, 1) := by decide +kernel
theorem dX8_years_18 : decode cX8_years 18 = .ok (.iload_n 1, 1) := by decide +kernel
theorem dX8_years_19 : decode cX8_years 19 = .ok (.if_icmp .ge 24, 3) := by decide +kernel
theorem dX8_years_22 : decode cX8_years 22 = .ok (.iload_n 2, 1) := by decide +kernel
theorem dX8_years_23 : decode cX8_years 23 = .ok (.aload_n 0, 1) := by decide +kernel
theorem dX8_years_24 : decode cX8_years 24 = .ok (.getfield 26, 3) := by decide +kernel
theorem dX8_years_27 : decode cX8_years 27 = .ok (.aload_n 0, 1) := by decide +kernel
theorem dX8_years_28 : decode cX8_years 28 = .ok (.getfield 19, 3) := by decide +kernel
theorem dX8_years_31 : decode cX8_years 31 = .ok (.aconst_null, 1) := by decide +kernel
theorem dX8_years_32 : decode cX8_years 32 = .ok (.invokevirtual 215, 3) := by decide +kernel
theorem dX8_years_35 : decode cX8_years 35 = .ok (.iadd, 1) := by decide +kernel
theorem dX8_years_36 : decode cX8_years 36 = .ok (.istore_n 2, 1) := by decide +kernel
theorem dX8_years_37 : decode cX8_years 37 = .ok (.iinc 3 1, 3) := by decide +kernel
theorem dX8_years_40 : decode cX8_years 40 = .ok (.goto (-23), 3) := by decide +kernel
theorem dX8_years_43 : decode cX8_years 43 = .ok (.iload_n 2, 1) := by decide +kernel
theorem dX8_years_44 : decode cX8_years 44 = .ok (.ireturn, 1) := by decide +kernel
theorem dX8_ways_0 : decode cX8_ways 0 = .ok (.aload_n 0, 1) := by decide +kernel
theorem dX8_ways_1 : decode cX8_ways 1 = .ok (.iload_n 1, 1) := by decide +kernel
theorem dX8_ways_2 : decode cX8_ways 2 = .ok (.invokevirtual 163, 3) := by decide +kernel
theorem dX8_ways_5 : decode cX8_ways 5 = .ok (.ifCond .ne 6, 3) := by decide +kernel
theorem dX8_ways_8 : decode cX8_ways 8 = .ok (.bipush (-101), 2) := by decide +kernel
theorem dX8_ways_10 : decode cX8_ways 10 = .ok (.ireturn, 1) := by decide +kernel
theorem dX8_ways_11 : decode cX8_ways 11 = .ok (.aload_n 0, 1) := by decide +kernel
theorem dX8_ways_12 : decode cX8_ways 12 = .ok (.getfield 26, 3) := by decide +kernel
theorem dX8_ways_15 : decode cX8_ways 15 = .ok (.getfield 166, 3) := by decide +kernel
theorem dX8_ways_18 : decode cX8_ways 18 = .ok (.iload_n 1, 1) := by decide +kernel
theorem dX8_ways_19 : decode cX8_ways 19 = .ok (.aaload, 1) := by decide +kernel
theorem dX8_ways_20 : decode cX8_ways 20 = .ok (.invokevirtual 202, 3) := by decide +kernel
theorem dX8_ways_23 : decode cX8_ways 23 = .ok (.ifCond .ne 6, 3) := by decide +kernel
theorem dX8_ways_26 : decode cX8_ways 26 = .ok (.bipush (-103), 2) := by decide +kernel
theorem dX8_ways_28 : decode cX8_ways 28 = .ok (.ireturn, 1) := by decide +kernel
theorem dX8_ways_29 : decode cX8_ways 29 = .ok (.iload_n 2, 1) := by decide +kernel
theorem dX8_ways_30 : decode cX8_ways 30 = .ok (.iconst 1, 1) := by decide +kernel
theorem dX8_ways_31 : decode cX8_ways 31 = .ok (.bipush 8, 2) := by decide +kernel
theorem dX8_ways_33 : decode cX8_ways 33 = .ok (.invokestatic 91, 3) := by decide +kernel
theorem dX8_ways_36 : decode cX8_ways 36 = .ok (.ifCond .ne 6, 3) := by decide +kernel
theorem dX8_ways_39 : decode cX8_ways 39 = .ok (.bipush (-102), 2) := by decide +kernel
theorem dX8_ways_41 : decode cX8_ways 41 = .ok (.ireturn, 1) := by decide +kernel
theorem dX8_ways_42 : decode cX8_ways 42 = .ok (.aload_n 0, 1) := by decide +kernel
theorem dX8_ways_43 : decode cX8_ways 43 = .ok (.getfield 26, 3) := by decide +kernel
theorem dX8_ways_46 : decode cX8_ways 46 = .ok (.getfield 166, 3) := by decide +kernel
theorem dX8_ways_49 : decode cX8_ways 49 = .ok (.iload_n 1, 1) := by decide +kernel
theorem dX8_ways_50 : decode cX8_ways 50 = .ok (.aaload, 1) := by decide +kernel
theorem dX8_ways_51 : decode cX8_ways 51 = .ok (.astore_n 3, 1) := by decide +kernel
theorem dX8_ways_52 : decode cX8_ways 52 = .ok (.aload_n 0, 1) := by decide +kernel
theorem dX8_ways_53 : decode cX8_ways 53 = .ok (.getfield 46, 3) := by decide +kernel
theorem dX8_ways_56 : decode cX8_ways 56 = .ok (.aload_n 3, 1) := by decide +kernel
theorem dX8_ways_57 : decode cX8_ways 57 = .ok (.getfield 181, 3) := by decide +kernel
theorem dX8_ways_60 : decode cX8_ways 60 = .ok (.aload_n 3, 1) := by decide +kernel
theorem dX8_ways_61 : decode cX8_ways 61 = .ok (.getfield 178, 3) := by decide +kernel
theorem dX8_ways_64 : decode cX8_ways 64 = .ok (.invokevirtual 219, 3) := by decide +kernel
theorem dX8_ways_67 : decode cX8_ways 67 = .ok (.lconst 0, 1) := by decide +kernel
theorem dX8_ways_68 : decode cX8_ways 68 = .ok (.lstore 4, 2) := by decide +kernel
theorem dX8_ways_70 : decode cX8_ways 70 = .ok (.iconst 0, 1) := by decide +kernel
theorem dX8_ways_71 : decode cX8_ways 71 = .ok (.istore 6, 2) := by decide +kernel
theorem dX8_ways_73 : decode cX8_ways 73 = .ok (.iload 6, 2) := by decide +kernel
theorem dX8_ways_75 : decode cX8_ways 75 = .ok (.iload_n 2, 1) := by decide +kernel
theorem dX8_ways_76 : decode cX8_ways 76 = .ok (.if_icmp .ge 34, 3) := by decide +kernel
theorem dX8_ways_79 : decode cX8_ways 79 = .ok (.aload_n 0, 1) := by decide +kernel
theorem dX8_ways_80 : decode cX8_ways 80 = .ok (.getfield 46, 3) := by decide +kernel
theorem dX8_ways_83 : decode cX8_ways 83 = .ok (.aload_n 0, 1) := by decide +kernel
theorem dX8_ways_84 : decode cX8_ways 84 = .ok (.getfield 26, 3) := by decide +kernel
theorem dX8_ways_87 : decode cX8_ways 87 = .ok (.aload_n 0, 1) := by decide +kernel
theorem dX8_ways_88 : decode cX8_ways 88 = .ok (.getfield 19, 3) := by decide +kernel
theorem dX8_ways_91 : decode cX8_ways 91 = .ok (.getfield 98, 3) := by decide +kernel
theorem dX8_ways_94 : decode cX8_ways 94 = .ok (.aload_n 3, 1) := by decide +kernel
theorem dX8_ways_95 : decode cX8_ways 95 = .ok (.getfield 175, 3) := by decide +kernel
theorem dX8_ways_98 : decode cX8_ways 98 = .ok (.iconst 0, 1) := by decide +kernel
theorem dX8_ways_99 : decode cX8_ways 99 = .ok (.invokevirtual 223, 3) := by decide +kernel
theorem dX8_ways_102 : decode cX8_ways 102 = .ok (.lstore 4, 2) := by decide +kernel
theorem dX8_ways_104 : decode cX8_ways 104 = .ok (.iinc 6 1, 3) := by decide +kernel
theorem dX8_ways_107 : decode cX8_ways 107 = .ok (.goto (-34), 3) := by decide +kernel
theorem dX8_ways_110 : decode cX8_ways 110 = .ok (.lload 4, 2) := by decide +kernel
theorem dX8_ways_112 : decode cX8_ways 112 = .ok (.l2i, 1) := by decide +kernel
theorem dX8_ways_113 : decode cX8_ways 113 = .ok (.ireturn, 1) := by decide +kernel
theorem dX8_soonest_0 : decode cX8_soonest 0 = .ok (.aload_n 0, 1) := by decide +kernel
theorem dX8_soonest_1 : decode cX8_soonest 1 = .ok (.iload_n 1, 1) := by decide +kernel
theorem dX8_soonest_2 : decode cX8_soonest 2 = .ok (.invokevirtual 163, 3) := by decide +kernel
theorem dX8_soonest_5 : decode cX8_soonest 5 = .ok (.ifCond .ne 6, 3) := by decide +kernel
theorem dX8_soonest_8 : decode cX8_soonest 8 = .ok (.bipush (-101), 2) := by decide +kernel
theorem dX8_soonest_10 : decode cX8_soonest 10 = .ok (.ireturn, 1) := by decide +kernel
theorem dX8_soonest_11 : decode cX8_soonest 11 = .ok (.aload_n 0, 1) := by decide +kernel
theorem dX8_soonest_12 : decode cX8_soonest 12 = .ok (.getfield 26, 3) := by decide +kernel
theorem dX8_soonest_15 : decode cX8_soonest 15 = .ok (.getfield 166, 3) := by decide +kernel
theorem dX8_soonest_18 : decode cX8_soonest 18 = .ok (.iload_n 1, 1) := by decide +kernel
theorem dX8_soonest_19 : decode cX8_soonest 19 = .ok (.aaload, 1) := by decide +kernel
theorem dX8_soonest_20 : decode cX8_soonest 20 = .ok (.invokevirtual 202, 3) := by decide +kernel
theorem dX8_soonest_23 : decode cX8_soonest 23 = .ok (.ifCond .ne 6, 3) := by decide +kernel
theorem dX8_soonest_26 : decode cX8_soonest 26 = .ok (.bipush (-103), 2) := by decide +kernel
theorem dX8_soonest_28 : decode cX8_soonest 28 = .ok (.ireturn, 1) := by decide +kernel
theorem dX8_soonest_29 : decode cX8_soonest 29 = .ok (.aload_n 0, 1) := by decide +kernel
theorem dX8_soonest_30 : decode cX8_soonest 30 = .ok (.getfield 26, 3) := by decide +kernel
theorem dX8_soonest_33 : decode cX8_soonest 33 = .ok (.getfield 166, 3) := by decide +kernel
theorem dX8_soonest_36 : decode cX8_soonest 36 = .ok (.iload_n 1, 1) := by decide +kernel
theorem dX8_soonest_37 : decode cX8_soonest 37 = .ok (.aaload, 1) := by decide +kernel
theorem dX8_soonest_38 : decode cX8_soonest 38 = .ok (.astore_n 2, 1) := by decide +kernel
theorem dX8_soonest_39 : decode cX8_soonest 39 = .ok (.aload_n 0, 1) := by decide +kernel
theorem dX8_soonest_40 : decode cX8_soonest 40 = .ok (.getfield 46, 3) := by decide +kernel
theorem dX8_soonest_43 : decode cX8_soonest 43 = .ok (.aload_n 2, 1) := by decide +kernel
theorem dX8_soonest_44 : decode cX8_soonest 44 = .ok (.getfield 181, 3) := by decide +kernel
theorem dX8_soonest_47 : decode cX8_soonest 47 = .ok (.aload_n 2, 1) := by decide +kernel
theorem dX8_soonest_48 : decode cX8_soonest 48 = .ok (.getfield 178, 3) := by decide +kernel
theorem dX8_soonest_51 : decode cX8_soonest 51 = .ok (.invokevirtual 219, 3) := by decide +kernel
theorem dX8_soonest_54 : decode cX8_soonest 54 = .ok (.iconst 1, 1) := by decide +kernel
theorem dX8_soonest_55 : decode cX8_soonest 55 = .ok (.istore_n 3, 1) := by decide +kernel
theorem dX8_soonest_56 : decode cX8_soonest 56 = .ok (.iload_n 3, 1) := by decide +kernel
theorem dX8_soonest_57 : decode cX8_soonest 57 = .ok (.bipush 8, 2) := by decide +kernel
theorem dX8_soonest_59 : decode cX8_soonest 59 = .ok (.if_icmp .gt 39, 3) := by decide +kernel
theorem dX8_soonest_62 : decode cX8_soonest 62 = .ok (.aload_n 0, 1) := by decide +kernel
theorem dX8_soonest_63 : decode cX8_soonest 63 = .ok (.getfield 46, 3) := by decide +kernel
theorem dX8_soonest_66 : decode cX8_soonest 66 = .ok (.aload_n 0, 1) := by decide +kernel
theorem dX8_soonest_67 : decode cX8_soonest 67 = .ok (.getfield 26, 3) := by decide +kernel
theorem dX8_soonest_70 : decode cX8_soonest 70 = .ok (.aload_n 0, 1) := by decide +kernel
theorem dX8_soonest_71 : decode cX8_soonest 71 = .ok (.getfield 19, 3) := by decide +kernel
theorem dX8_soonest_74 : decode cX8_soonest 74 = .ok (.getfield 98, 3) := by decide +kernel
theorem dX8_soonest_77 : decode cX8_soonest 77 = .ok (.aload_n 2, 1) := by decide +kernel
theorem dX8_soonest_78 : decode cX8_soonest 78 = .ok (.getfield 175, 3) := by decide +kernel
theorem dX8_soonest_81 : decode cX8_soonest 81 = .ok (.iconst 0, 1) := by decide +kernel
theorem dX8_soonest_82 : decode cX8_soonest 82 = .ok (.invokevirtual 223, 3) := by decide +kernel
theorem dX8_soonest_85 : decode cX8_soonest 85 = .ok (.lconst 0, 1) := by decide +kernel
theorem dX8_soonest_86 : decode cX8_soonest 86 = .ok (.lcmp, 1) := by decide +kernel
theorem dX8_soonest_87 : decode cX8_soonest 87 = .ok (.ifCond .le 5, 3) := by decide +kernel
theorem dX8_soonest_90 : decode cX8_soonest 90 = .ok (.iload_n 3, 1) := by decide +kernel
theorem dX8_soonest_91 : decode cX8_soonest 91 = .ok (.ireturn, 1) := by decide +kernel
theorem dX8_soonest_92 : decode cX8_soonest 92 = .ok (.iinc 3 1, 3) := by decide +kernel
theorem dX8_soonest_95 : decode cX8_soonest 95 = .ok (.goto (-39), 3) := by decide +kernel
theorem dX8_soonest_98 : decode cX8_soonest 98 = .ok (.iconst (-1), 1) := by decide +kernel
theorem dX8_soonest_99 : decode cX8_soonest 99 = .ok (.ireturn, 1) := by decide +kernel
theorem dX8_likely_0 : decode cX8_likely 0 = .ok (.aload_n 0, 1) := by decide +kernel
theorem dX8_likely_1 : decode cX8_likely 1 = .ok (.iload_n 1, 1) := by decide +kernel
theorem dX8_likely_2 : decode cX8_likely 2 = .ok (.invokevirtual 163, 3) := by decide +kernel
theorem dX8_likely_5 : decode cX8_likely 5 = .ok (.ifCond .ne 7, 3) := by decide +kernel
theorem dX8_likely_8 : decode cX8_likely 8 = .ok (.ldc2_w 227, 3) := by decide +kernel
theorem dX8_likely_11 : decode cX8_likely 11 = .ok (.lreturn, 1) := by decide +kernel
theorem dX8_likely_12 : decode cX8_likely 12 = .ok (.aload_n 0, 1) := by decide +kernel
theorem dX8_likely_13 : decode cX8_likely 13 = .ok (.getfield 26, 3) := by decide +kernel
theorem dX8_likely_16 : decode cX8_likely 16 = .ok (.getfield 166, 3) := by decide +kernel
theorem dX8_likely_19 : decode cX8_likely 19 = .ok (.iload_n 1, 1) := by decide +kernel
theorem dX8_likely_20 : decode cX8_likely 20 = .ok (.aaload, 1) := by decide +kernel
theorem dX8_likely_21 : decode cX8_likely 21 = .ok (.invokevirtual 202, 3) := by decide +kernel
theorem dX8_likely_24 : decode cX8_likely 24 = .ok (.ifCond .ne 7, 3) := by decide +kernel
theorem dX8_likely_27 : decode cX8_likely 27 = .ok (.ldc2_w 229, 3) := by decide +kernel
theorem dX8_likely_30 : decode cX8_likely 30 = .ok (.lreturn, 1) := by decide +kernel
theorem dX8_likely_31 : decode cX8_likely 31 = .ok (.iload_n 2, 1) := by decide +kernel
theorem dX8_likely_32 : decode cX8_likely 32 = .ok (.iconst 1, 1) := by decide +kernel
theorem dX8_likely_33 : decode cX8_likely 33 = .ok (.bipush 7, 2) := by decide +kernel
theorem dX8_likely_35 : decode cX8_likely 35 = .ok (.invokestatic 91, 3) := by decide +kernel
theorem dX8_likely_38 : decode cX8_likely 38 = .ok (.ifCond .eq 12, 3) := by decide +kernel
theorem dX8_likely_41 : decode cX8_likely 41 = .ok (.iload_n 3, 1) := by decide +kernel
theorem dX8_likely_42 : decode cX8_likely 42 = .ok (.iconst 0, 1) := by decide +kernel
theorem dX8_likely_43 : decode cX8_likely 43 = .ok (.iconst 1, 1) := by decide +kernel
theorem dX8_likely_44 : decode cX8_likely 44 = .ok (.invokestatic 91, 3) := by decide +kernel
theorem dX8_likely_47 : decode cX8_likely 47 = .ok (.ifCond .ne 7, 3) := by decide +kernel
theorem dX8_likely_50 : decode cX8_likely 50 = .ok (.ldc2_w 231, 3) := by decide +kernel
theorem dX8_likely_53 : decode cX8_likely 53 = .ok (.lreturn, 1) := by decide +kernel
theorem dX8_likely_54 : decode cX8_likely 54 = .ok (.aload_n 0, 1) := by decide +kernel
theorem dX8_likely_55 : decode cX8_likely 55 = .ok (.getfield 26, 3) := by decide +kernel
theorem dX8_likely_58 : decode cX8_likely 58 = .ok (.getfield 166, 3) := by decide +kernel
theorem dX8_likely_61 : decode cX8_likely 61 = .ok (.iload_n 1, 1) := by decide +kernel
theorem dX8_likely_62 : decode cX8_likely 62 = .ok (.aaload, 1) := by decide +kernel
theorem dX8_likely_63 : decode cX8_likely 63 = .ok (.astore 4, 2) := by decide +kernel
theorem dX8_likely_65 : decode cX8_likely 65 = .ok (.aload_n 0, 1) := by decide +kernel
theorem dX8_likely_66 : decode cX8_likely 66 = .ok (.getfield 46, 3) := by decide +kernel
theorem dX8_likely_69 : decode cX8_likely 69 = .ok (.aload 4, 2) := by decide +kernel
theorem dX8_likely_71 : decode cX8_likely 71 = .ok (.getfield 181, 3) := by decide +kernel
theorem dX8_likely_74 : decode cX8_likely 74 = .ok (.aload 4, 2) := by decide +kernel
theorem dX8_likely_76 : decode cX8_likely 76 = .ok (.getfield 178, 3) := by decide +kernel
theorem dX8_likely_79 : decode cX8_likely 79 = .ok (.invokevirtual 219, 3) := by decide +kernel
theorem dX8_likely_82 : decode cX8_likely 82 = .ok (.lconst 0, 1) := by decide +kernel
theorem dX8_likely_83 : decode cX8_likely 83 = .ok (.lstore 5, 2) := by decide +kernel
theorem dX8_likely_85 : decode cX8_likely 85 = .ok (.lconst 1, 1) := by decide +kernel
theorem dX8_likely_86 : decode cX8_likely 86 = .ok (.lstore 7, 2) := by decide +kernel
theorem dX8_likely_88 : decode cX8_likely 88 = .ok (.iconst 0, 1) := by decide +kernel
theorem dX8_likely_89 : decode cX8_likely 89 = .ok (.istore 9, 2) := by decide +kernel
theorem dX8_likely_91 : decode cX8_likely 91 = .ok (.iload 9, 2) := by decide +kernel
theorem dX8_likely_93 : decode cX8_likely 93 = .ok (.iload_n 2, 1) := by decide +kernel
theorem dX8_likely_94 : decode cX8_likely 94 = .ok (.if_icmp .ge 50, 3) := by decide +kernel
theorem dX8_likely_97 : decode cX8_likely 97 = .ok (.lload 5, 2) := by decide +kernel
theorem dX8_likely_99 : decode cX8_likely 99 = .ok (.ldc2_w 233, 3) := by decide +kernel
theorem dX8_likely_102 : decode cX8_likely 102 = .ok (.lmul, 1) := by decide +kernel
theorem dX8_likely_103 : decode cX8_likely 103 = .ok (.aload_n 0, 1) := by decide +kernel
theorem dX8_likely_104 : decode cX8_likely 104 = .ok (.getfield 46, 3) := by decide +kernel
theorem dX8_likely_107 : decode cX8_likely 107 = .ok (.aload_n 0, 1) := by decide +kernel
theorem dX8_likely_108 : decode cX8_likely 108 = .ok (.getfield 26, 3) := by decide +kernel
theorem dX8_likely_111 : decode cX8_likely 111 = .ok (.aload_n 0, 1) := by decide +kernel
theorem dX8_likely_112 : decode cX8_likely 112 = .ok (.getfield 19, 3) := by decide +kernel
theorem dX8_likely_115 : decode cX8_likely 115 = .ok (.getfield 98, 3) := by decide +kernel
theorem dX8_likely_118 : decode cX8_likely 118 = .ok (.aload 4, 2) := by decide +kernel
theorem dX8_likely_120 : decode cX8_likely 120 = .ok (.getfield 175, 3) := by decide +kernel
theorem dX8_likely_123 : decode cX8_likely 123 = .ok (.iconst 1, 1) := by decide +kernel
theorem dX8_likely_124 : decode cX8_likely 124 = .ok (.invokevirtual 223, 3) := by decide +kernel
theorem dX8_likely_127 : decode cX8_likely 127 = .ok (.ladd, 1) := by decide +kernel
theorem dX8_likely_128 : decode cX8_likely 128 = .ok (.lstore 5, 2) := by decide +kernel
theorem dX8_likely_130 : decode cX8_likely 130 = .ok (.lload 7, 2) := by decide +kernel
theorem dX8_likely_132 : decode cX8_likely 132 = .ok (.ldc2_w 233, 3) := by decide +kernel
theorem dX8_likely_135 : decode cX8_likely 135 = .ok (.lmul, 1) := by decide +kernel
theorem dX8_likely_136 : decode cX8_likely 136 = .ok (.lstore 7, 2) := by decide +kernel
theorem dX8_likely_138 : decode cX8_likely 138 = .ok (.iinc 9 1, 3) := by decide +kernel
theorem dX8_likely_141 : decode cX8_likely 141 = .ok (.goto (-50), 3) := by decide +kernel
theorem dX8_likely_144 : decode cX8_likely 144 = .ok (.lload 5, 2) := by decide +kernel
theorem dX8_likely_146 : decode cX8_likely 146 = .ok (.lload 7, 2) := by decide +kernel
theorem dX8_likely_148 : decode cX8_likely 148 = .ok (.invokestatic 235, 3) := by decide +kernel
theorem dX8_likely_151 : decode cX8_likely 151 = .ok (.lstore 9, 2) := by decide +kernel
theorem dX8_likely_153 : decode cX8_likely 153 = .ok (.lload 9, 2) := by decide +kernel
theorem dX8_likely_155 : decode cX8_likely 155 = .ok (.lconst 0, 1) := by decide +kernel
theorem dX8_likely_156 : decode cX8_likely 156 = .ok (.lcmp, 1) := by decide +kernel
theorem dX8_likely_157 : decode cX8_likely 157 = .ok (.ifCond .ne 7, 3) := by decide +kernel
theorem dX8_likely_160 : decode cX8_likely 160 = .ok (.ldc2_w 239, 3) := by decide +kernel
theorem dX8_likely_163 : decode cX8_likely 163 = .ok (.lreturn, 1) := by decide +kernel
theorem dX8_likely_164 : decode cX8_likely 164 = .ok (.iload_n 3, 1) := by decide +kernel
theorem dX8_likely_165 : decode cX8_likely 165 = .ok (.ifCond .ne 8, 3) := by decide +kernel
theorem dX8_likely_168 : decode cX8_likely 168 = .ok (.lload 5, 2) := by decide +kernel
theorem dX8_likely_170 : decode cX8_likely 170 = .ok (.goto 5, 3) := by decide +kernel
theorem dX8_likely_173 : decode cX8_likely 173 = .ok (.lload 7, 2) := by decide +kernel
theorem dX8_likely_175 : decode cX8_likely 175 = .ok (.lload 9, 2) := by decide +kernel
theorem dX8_likely_177 : decode cX8_likely 177 = .ok (.ldiv, 1) := by decide +kernel
theorem dX8_likely_178 : decode cX8_likely 178 = .ok (.lreturn, 1) := by decide +kernel
theorem dX8_traps_0 : decode cX8_traps 0 = .ok (.iconst 0, 1) := by decide +kernel
theorem dX8_traps_1 : decode cX8_traps 1 = .ok (.istore_n 1, 1) := by decide +kernel
theorem dX8_traps_2 : decode cX8_traps 2 = .ok (.iconst 0, 1) := by decide +kernel
theorem dX8_traps_3 : decode cX8_traps 3 = .ok (.istore_n 2, 1) := by decide +kernel
theorem dX8_traps_4 : decode cX8_traps 4 = .ok (.iload_n 2, 1) := by decide +kernel
theorem dX8_traps_5 : decode cX8_traps 5 = .ok (.aload_n 0, 1) := by decide +kernel
theorem dX8_traps_6 : decode cX8_traps 6 = .ok (.getfield 26, 3) := by decide +kernel
theorem dX8_traps_9 : decode cX8_traps 9 = .ok (.getfield 108, 3) := by decide +kernel
theorem dX8_traps_12 : decode cX8_traps 12 = .ok (.if_icmp .ge 32, 3) := by decide +kernel
theorem dX8_traps_15 : decode cX8_traps 15 = .ok (.aload_n 0, 1) := by decide +kernel
theorem dX8_traps_16 : decode cX8_traps 16 = .ok (.getfield 26, 3) := by decide +kernel
theorem dX8_traps_19 : decode cX8_traps 19 = .ok (.getfield 144, 3) := by decide +kernel
theorem dX8_traps_22 : decode cX8_traps 22 = .ok (.iload_n 2, 1) := by decide +kernel
theorem dX8_traps_23 : decode cX8_traps 23 = .ok (.iaload, 1) := by decide +kernel
theorem dX8_traps_24 : decode cX8_traps 24 = .ok (.invokestatic 241, 3) := by decide +kernel
theorem dX8_traps_27 : decode cX8_traps 27 = .ok (.iconst 1, 1) := by decide +kernel
theorem dX8_traps_28 : decode cX8_traps 28 = .ok (.if_icmp .ne 10, 3) := by decide +kernel
theorem dX8_traps_31 : decode cX8_traps 31 = .ok (.iload_n 1, 1) := by decide +kernel
theorem dX8_traps_32 : decode cX8_traps 32 = .ok (.iload_n 2, 1) := by decide +kernel
theorem dX8_traps_33 : decode cX8_traps 33 = .ok (.invokestatic 208, 3) := by decide +kernel
theorem dX8_traps_36 : decode cX8_traps 36 = .ok (.ior, 1) := by decide +kernel
theorem dX8_traps_37 : decode cX8_traps 37 = .ok (.istore_n 1, 1) := by decide +kernel
theorem dX8_traps_38 : decode cX8_traps 38 = .ok (.iinc 2 1, 3) := by decide +kernel
theorem dX8_traps_41 : decode cX8_traps 41 = .ok (.goto (-37), 3) := by decide +kernel
theorem dX8_traps_44 : decode cX8_traps 44 = .ok (.iload_n 1, 1) := by decide +kernel
theorem dX8_traps_45 : decode cX8_traps 45 = .ok (.ireturn, 1) := by decide +kernel
theorem dX8_round_0 : decode cX8_round 0 = .ok (.iload_n 1, 1) := by decide +kernel
theorem dX8_round_1 : decode cX8_round 1 = .ok (.bipush 10, 2) := by decide +kernel
theorem dX8_round_3 : decode cX8_round 3 = .ok (.bipush 17, 2) := by decide +kernel
theorem dX8_round_5 : decode cX8_round 5 = .ok (.invokestatic 91, 3) := by decide +kernel
theorem dX8_round_8 : decode cX8_round 8 = .ok (.istore_n 2, 1) := by decide +kernel
theorem dX8_round_9 : decode cX8_round 9 = .ok (.iload_n 2, 1) := by decide +kernel
theorem dX8_round_10 : decode cX8_round 10 = .ok (.ifCond .ne 15, 3) := by decide +kernel
theorem dX8_round_13 : decode cX8_round 13 = .ok (.iload_n 1, 1) := by decide +kernel
theorem dX8_round_14 : decode cX8_round 14 = .ok (.iconst 0, 1) := by decide +kernel
theorem dX8_round_15 : decode cX8_round 15 = .ok (.iconst 1, 1) := by decide +kernel
theorem dX8_round_16 : decode cX8_round 16 = .ok (.invokestatic 91, 3) := by decide +kernel
theorem dX8_round_19 : decode cX8_round 19 = .ok (.ifCond .ne 6, 3) := by decide +kernel
theorem dX8_round_22 : decode cX8_round 22 = .ok (.bipush (-102), 2) := by decide +kernel
theorem dX8_round_24 : decode cX8_round 24 = .ok (.ireturn, 1) := by decide +kernel
theorem dX8_round_25 : decode cX8_round 25 = .ok (.aload_n 0, 1) := by decide +kernel
theorem dX8_round_26 : decode cX8_round 26 = .ok (.getfield 53, 3) := by decide +kernel
theorem dX8_round_29 : decode cX8_round 29 = .ok (.aload_n 0, 1) := by decide +kernel
theorem dX8_round_30 : decode cX8_round 30 = .ok (.getfield 26, 3) := by decide +kernel
theorem dX8_round_33 : decode cX8_round 33 = .ok (.invokevirtual 246, 3) := by decide +kernel
theorem dX8_round_36 : decode cX8_round 36 = .ok (.iload_n 1, 1) := by decide +kernel
theorem dX8_round_37 : decode cX8_round 37 = .ok (.ifCond .ne 19, 3) := by decide +kernel
theorem dX8_round_40 : decode cX8_round 40 = .ok (.aload_n 0, 1) := by decide +kernel
theorem dX8_round_41 : decode cX8_round 41 = .ok (.getfield 53, 3) := by decide +kernel
theorem dX8_round_44 : decode cX8_round 44 = .ok (.invokevirtual 250, 3) := by decide +kernel
theorem dX8_round_47 : decode cX8_round 47 = .ok (.ifCond .eq 7, 3) := by decide +kernel
theorem dX8_round_50 : decode cX8_round 50 = .ok (.iconst 1, 1) := by decide +kernel
theorem dX8_round_51 : decode cX8_round 51 = .ok (.goto 4, 3) := by decide +kernel
theorem dX8_round_54 : decode cX8_round 54 = .ok (.iconst 0, 1) := by decide +kernel
theorem dX8_round_55 : decode cX8_round 55 = .ok (.ireturn, 1) := by decide +kernel
theorem dX8_round_56 : decode cX8_round 56 = .ok (.iload_n 1, 1) := by decide +kernel
theorem dX8_round_57 : decode cX8_round 57 = .ok (.iconst 1, 1) := by decide +kernel
theorem dX8_round_58 : decode cX8_round 58 = .ok (.if_icmp .ne 11, 3) := by decide +kernel
theorem dX8_round_61 : decode cX8_round 61 = .ok (.aload_n 0, 1) := by decide +kernel
theorem dX8_round_62 : decode cX8_round 62 = .ok (.getfield 53, 3) := by decide +kernel
theorem dX8_round_65 : decode cX8_round 65 = .ok (.invokevirtual 253, 3) := by decide +kernel
theorem dX8_round_68 : decode cX8_round 68 = .ok (.ireturn, 1) := by decide +kernel
theorem dX8_round_69 : decode cX8_round 69 = .ok (.aload_n 0, 1) := by decide +kernel
theorem dX8_round_70 : decode cX8_round 70 = .ok (.getfield 53, 3) := by decide +kernel
theorem dX8_round_73 : decode cX8_round 73 = .ok (.getfield 256, 3) := by decide +kernel
theorem dX8_round_76 : decode cX8_round 76 = .ok (.iload_n 1, 1) := by decide +kernel
theorem dX8_round_77 : decode cX8_round 77 = .ok (.bipush 10, 2) := by decide +kernel
theorem dX8_round_79 : decode cX8_round 79 = .ok (.isub, 1) := by decide +kernel
theorem dX8_round_80 : decode cX8_round 80 = .ok (.iaload, 1) := by decide +kernel
theorem dX8_round_81 : decode cX8_round 81 = .ok (.ireturn, 1) := by decide +kernel
theorem dX8_stranger_0 : decode cX8_stranger 0 = .ok (.aload_n 0, 1) := by decide +kernel
theorem dX8_stranger_1 : decode cX8_stranger 1 = .ok (.iload_n 1, 1) := by decide +kernel
theorem dX8_stranger_2 : decode cX8_stranger 2 = .ok (.invokevirtual 134, 3) := by decide +kernel
theorem dX8_stranger_5 : decode cX8_stranger 5 = .ok (.ifCond .eq 11, 3) := by decide +kernel
theorem dX8_stranger_8 : decode cX8_stranger 8 = .ok (.aload_n 0, 1) := by decide +kernel
theorem dX8_stranger_9 : decode cX8_stranger 9 = .ok (.iload_n 2, 1) := by decide +kernel
theorem dX8_stranger_10 : decode cX8_stranger 10 = .ok (.invokevirtual 134, 3) := by decide +kernel
theorem dX8_stranger_13 : decode cX8_stranger 13 = .ok (.ifCond .ne 6, 3) := by decide +kernel
theorem dX8_stranger_16 : decode cX8_stranger 16 = .ok (.bipush (-101), 2) := by decide +kernel
theorem dX8_stranger_18 : decode cX8_stranger 18 = .ok (.ireturn, 1) := by decide +kernel
theorem dX8_stranger_19 : decode cX8_stranger 19 = .ok (.iload_n 3, 1) := by decide +kernel
theorem dX8_stranger_20 : decode cX8_stranger 20 = .ok (.iconst 0, 1) := by decide +kernel
theorem dX8_stranger_21 : decode cX8_stranger 21 = .ok (.iconst 1, 1) := by decide +kernel
theorem dX8_stranger_22 : decode cX8_stranger 22 = .ok (.invokestatic 91, 3) := by decide +kernel
theorem dX8_stranger_25 : decode cX8_stranger 25 = .ok (.ifCond .ne 6, 3) := by decide +kernel
theorem dX8_stranger_28 : decode cX8_stranger 28 = .ok (.bipush (-102), 2) := by decide +kernel
theorem dX8_stranger_30 : decode cX8_stranger 30 = .ok (.ireturn, 1) := by decide +kernel
theorem dX8_stranger_31 : decode cX8_stranger 31 = .ok (.iload_n 3, 1) := by decide +kernel
theorem dX8_stranger_32 : decode cX8_stranger 32 = .ok (.ifCond .ne 15, 3) := by decide +kernel
theorem dX8_stranger_35 : decode cX8_stranger 35 = .ok (.aload_n 0, 1) := by decide +kernel
theorem dX8_stranger_36 : decode cX8_stranger 36 = .ok (.getfield 26, 3) := by decide +kernel
theorem dX8_stranger_39 : decode cX8_stranger 39 = .ok (.iload_n 1, 1) := by decide +kernel
theorem dX8_stranger_40 : decode cX8_stranger 40 = .ok (.iload_n 2, 1) := by decide +kernel
theorem dX8_stranger_41 : decode cX8_stranger 41 = .ok (.invokevirtual 259, 3) := by decide +kernel
theorem dX8_stranger_44 : decode cX8_stranger 44 = .ok (.goto 12, 3) := by decide +kernel
theorem dX8_stranger_47 : decode cX8_stranger 47 = .ok (.aload_n 0, 1) := by decide +kernel
theorem dX8_stranger_48 : decode cX8_stranger 48 = .ok (.getfield 26, 3) := by decide +kernel
theorem dX8_stranger_51 : decode cX8_stranger 51 = .ok (.iload_n 1, 1) := by decide +kernel
theorem dX8_stranger_52 : decode cX8_stranger 52 = .ok (.iload_n 2, 1) := by decide +kernel
theorem dX8_stranger_53 : decode cX8_stranger 53 = .ok (.invokevirtual 262, 3) := by decide +kernel
theorem dX8_stranger_56 : decode cX8_stranger 56 = .ok (.ireturn, 1) := by decide +kernel
theorem dX8_drawn_0 : decode cX8_drawn 0 = .ok (.iload_n 1, 1) := by decide +kernel
theorem dX8_drawn_1 : decode cX8_drawn 1 = .ok (.iconst 1, 1) := by decide +kernel
theorem dX8_drawn_2 : decode cX8_drawn 2 = .ok (.bipush 30, 2) := by decide +kernel
theorem dX8_drawn_4 : decode cX8_drawn 4 = .ok (.invokestatic 91, 3) := by decide +kernel
theorem dX8_drawn_7 : decode cX8_drawn 7 = .ok (.ifCond .ne 6, 3) := by decide +kernel
theorem dX8_drawn_10 : decode cX8_drawn 10 = .ok (.bipush (-102), 2) := by decide +kernel
theorem dX8_drawn_12 : decode cX8_drawn 12 = .ok (.ireturn, 1) := by decide +kernel
theorem dX8_drawn_13 : decode cX8_drawn 13 = .ok (.iload_n 2, 1) := by decide +kernel
theorem dX8_drawn_14 : decode cX8_drawn 14 = .ok (.ifCond .lt 12, 3) := by decide +kernel
theorem dX8_drawn_17 : decode cX8_drawn 17 = .ok (.iload_n 3, 1) := by decide +kernel
theorem dX8_drawn_18 : decode cX8_drawn 18 = .ok (.iconst 0, 1) := by decide +kernel
theorem dX8_drawn_19 : decode cX8_drawn 19 = .ok (.iconst 3, 1) := by decide +kernel
theorem dX8_drawn_20 : decode cX8_drawn 20 = .ok (.invokestatic 91, 3) := by decide +kernel
theorem dX8_drawn_23 : decode cX8_drawn 23 = .ok (.ifCond .ne 6, 3) := by decide +kernel
theorem dX8_drawn_26 : decode cX8_drawn 26 = .ok (.bipush (-102), 2) := by decide +kernel
theorem dX8_drawn_28 : decode cX8_drawn 28 = .ok (.ireturn, 1) := by decide +kernel
theorem dX8_drawn_29 : decode cX8_drawn 29 = .ok (.aload_n 0, 1) := by decide +kernel
theorem dX8_drawn_30 : decode cX8_drawn 30 = .ok (.getfield 33, 3) := by decide +kernel
theorem dX8_drawn_33 : decode cX8_drawn 33 = .ok (.aload_n 0, 1) := by decide +kernel
theorem dX8_drawn_34 : decode cX8_drawn 34 = .ok (.getfield 26, 3) := by decide +kernel
theorem dX8_drawn_37 : decode cX8_drawn 37 = .ok (.invokevirtual 265, 3) := by decide +kernel
theorem dX8_drawn_40 : decode cX8_drawn 40 = .ok (.aload_n 0, 1) := by decide +kernel
theorem dX8_drawn_41 : decode cX8_drawn 41 = .ok (.getfield 39, 3) := by decide +kernel
theorem dX8_drawn_44 : decode cX8_drawn 44 = .ok (.iload_n 2, 1) := by decide +kernel
theorem dX8_drawn_45 : decode cX8_drawn 45 = .ok (.i2l, 1) := by decide +kernel
theorem dX8_drawn_46 : decode cX8_drawn 46 = .ok (.putfield 268, 3) := by decide +kernel
theorem dX8_drawn_49 : decode cX8_drawn 49 = .ok (.iconst 0, 1) := by decide +kernel
theorem dX8_drawn_50 : decode cX8_drawn 50 = .ok (.istore 4, 2) := by decide +kernel
theorem dX8_drawn_52 : decode cX8_drawn 52 = .ok (.iconst 0, 1) := by decide +kernel
theorem dX8_drawn_53 : decode cX8_drawn 53 = .ok (.istore 5, 2) := by decide +kernel
theorem dX8_drawn_55 : decode cX8_drawn 55 = .ok (.iload 5, 2) := by decide +kernel
theorem dX8_drawn_57 : decode cX8_drawn 57 = .ok (.iload_n 1, 1) := by decide +kernel
theorem dX8_drawn_58 : decode cX8_drawn 58 = .ok (.if_icmp .ge 29, 3) := by decide +kernel
theorem dX8_drawn_61 : decode cX8_drawn 61 = .ok (.iload 4, 2) := by decide +kernel
theorem dX8_drawn_63 : decode cX8_drawn 63 = .ok (.aload_n 0, 1) := by decide +kernel
theorem dX8_drawn_64 : decode cX8_drawn 64 = .ok (.getfield 33, 3) := by decide +kernel
theorem dX8_drawn_67 : decode cX8_drawn 67 = .ok (.aload_n 0, 1) := by decide +kernel
theorem dX8_drawn_68 : decode cX8_drawn 68 = .ok (.getfield 19, 3) := by decide +kernel
theorem dX8_drawn_71 : decode cX8_drawn 71 = .ok (.aload_n 0, 1) := by decide +kernel
theorem dX8_drawn_72 : decode cX8_drawn 72 = .ok (.getfield 39, 3) := by decide +kernel
theorem dX8_drawn_75 : decode cX8_drawn 75 = .ok (.invokevirtual 215, 3) := by decide +kernel
theorem dX8_drawn_78 : decode cX8_drawn 78 = .ok (.iadd, 1) := by decide +kernel
theorem dX8_drawn_79 : decode cX8_drawn 79 = .ok (.istore 4, 2) := by decide +kernel
theorem dX8_drawn_81 : decode cX8_drawn 81 = .ok (.iinc 5 1, 3) := by decide +kernel
theorem dX8_drawn_84 : decode cX8_drawn 84 = .ok (.goto (-29), 3) := by decide +kernel
theorem dX8_drawn_87 : decode cX8_drawn 87 = .ok (.iload_n 3, 1) := by decide +kernel
theorem dX8_drawn_88 : decode cX8_drawn 88 = .ok (.tableswitch 55 0 2 #[28, 31, 39], 28) := by decide +kernel
theorem dX8_drawn_116 : decode cX8_drawn 116 = .ok (.iload 4, 2) := by decide +kernel
theorem dX8_drawn_118 : decode cX8_drawn 118 = .ok (.ireturn, 1) := by decide +kernel
theorem dX8_drawn_119 : decode cX8_drawn 119 = .ok (.aload_n 0, 1) := by decide +kernel
theorem dX8_drawn_120 : decode cX8_drawn 120 = .ok (.getfield 33, 3) := by decide +kernel
theorem dX8_drawn_123 : decode cX8_drawn 123 = .ok (.invokevirtual 272, 3) := by decide +kernel
theorem dX8_drawn_126 : decode cX8_drawn 126 = .ok (.ireturn, 1) := by decide +kernel
theorem dX8_drawn_127 : decode cX8_drawn 127 = .ok (.aload_n 0, 1) := by decide +kernel
theorem dX8_drawn_128 : decode cX8_drawn 128 = .ok (.getfield 33, 3) := by decide +kernel
theorem dX8_drawn_131 : decode cX8_drawn 131 = .ok (.invokevirtual 275, 3) := by decide +kernel
theorem dX8_drawn_134 : decode cX8_drawn 134 = .ok (.aload_n 0, 1) := by decide +kernel
theorem dX8_drawn_135 : decode cX8_drawn 135 = .ok (.getfield 26, 3) := by decide +kernel
theorem dX8_drawn_138 : decode cX8_drawn 138 = .ok (.invokevirtual 275, 3) := by decide +kernel
theorem dX8_drawn_141 : decode cX8_drawn 141 = .ok (.isub, 1) := by decide +kernel
theorem dX8_drawn_142 : decode cX8_drawn 142 = .ok (.ireturn, 1) := by decide +kernel
theorem dX8_drawn_143 : decode cX8_drawn 143 = .ok (.aload_n 0, 1) := by decide +kernel
theorem dX8_drawn_144 : decode cX8_drawn 144 = .ok (.getfield 39, 3) := by decide +kernel
theorem dX8_drawn_147 : decode cX8_drawn 147 = .ok (.getfield 268, 3) := by decide +kernel
theorem dX8_drawn_150 : decode cX8_drawn 150 = .ok (.l2i, 1) := by decide +kernel
theorem dX8_drawn_151 : decode cX8_drawn 151 = .ok (.ireturn, 1) := by decide +kernel
theorem dX8_open_0 : decode cX8_open 0 = .ok (.aload_n 0, 1) := by decide +kernel
theorem dX8_open_1 : decode cX8_open 1 = .ok (.iload_n 1, 1) := by decide +kernel
theorem dX8_open_2 : decode cX8_open 2 = .ok (.invokevirtual 134, 3) := by decide +kernel
theorem dX8_open_5 : decode cX8_open 5 = .ok (.ifCond .ne 6, 3) := by decide +kernel
theorem dX8_open_8 : decode cX8_open 8 = .ok (.bipush (-101), 2) := by decide +kernel
theorem dX8_open_10 : decode cX8_open 10 = .ok (.ireturn, 1) := by decide +kernel
theorem dX8_open_11 : decode cX8_open 11 = .ok (.iload_n 2, 1) := by decide +kernel
theorem dX8_open_12 : decode cX8_open 12 = .ok (.iconst 1, 1) := by decide +kernel
theorem dX8_open_13 : decode cX8_open 13 = .ok (.bipush 7, 2) := by decide +kernel
theorem dX8_open_15 : decode cX8_open 15 = .ok (.invokestatic 91, 3) := by decide +kernel
theorem dX8_open_18 : decode cX8_open 18 = .ok (.ifCond .ne 6, 3) := by decide +kernel
theorem dX8_open_21 : decode cX8_open 21 = .ok (.bipush (-102), 2) := by decide +kernel
theorem dX8_open_23 : decode cX8_open 23 = .ok (.ireturn, 1) := by decide +kernel
theorem dX8_open_24 : decode cX8_open 24 = .ok (.aload_n 0, 1) := by decide +kernel
theorem dX8_open_25 : decode cX8_open 25 = .ok (.getfield 60, 3) := by decide +kernel
theorem dX8_open_28 : decode cX8_open 28 = .ok (.iload_n 1, 1) := by decide +kernel
theorem dX8_open_29 : decode cX8_open 29 = .ok (.iload_n 2, 1) := by decide +kernel
theorem dX8_open_30 : decode cX8_open 30 = .ok (.invokevirtual 278, 3) := by decide +kernel
theorem dX8_open_33 : decode cX8_open 33 = .ok (.aload_n 0, 1) := by decide +kernel
theorem dX8_open_34 : decode cX8_open 34 = .ok (.getfield 26, 3) := by decide +kernel
theorem dX8_open_37 : decode cX8_open 37 = .ok (.getfield 108, 3) := by decide +kernel
theorem dX8_open_40 : decode cX8_open 40 = .ok (.ireturn, 1) := by decide +kernel
theorem dX8_write_0 : decode cX8_write 0 = .ok (.aload_n 0, 1) := by decide +kernel
theorem dX8_write_1 : decode cX8_write 1 = .ok (.getfield 60, 3) := by decide +kernel
theorem dX8_write_4 : decode cX8_write 4 = .ok (.invokevirtual 279, 3) := by decide +kernel
theorem dX8_write_7 : decode cX8_write 7 = .ok (.ifCond .ne 6, 3) := by decide +kernel
theorem dX8_write_10 : decode cX8_write 10 = .ok (.bipush (-103), 2) := by decide +kernel
theorem dX8_write_12 : decode cX8_write 12 = .ok (.ireturn, 1) := by decide +kernel
theorem dX8_write_13 : decode cX8_write 13 = .ok (.aload_n 0, 1) := by decide +kernel
theorem dX8_write_14 : decode cX8_write 14 = .ok (.getfield 60, 3) := by decide +kernel
theorem dX8_write_17 : decode cX8_write 17 = .ok (.iload_n 1, 1) := by decide +kernel
theorem dX8_write_18 : decode cX8_write 18 = .ok (.invokevirtual 282, 3) := by decide +kernel
theorem dX8_write_21 : decode cX8_write 21 = .ok (.ifCond .ne 6, 3) := by decide +kernel
theorem dX8_write_24 : decode cX8_write 24 = .ok (.bipush (-101), 2) := by decide +kernel
theorem dX8_write_26 : decode cX8_write 26 = .ok (.ireturn, 1) := by decide +kernel
theorem dX8_write_27 : decode cX8_write 27 = .ok (.iload_n 2, 1) := by decide +kernel
theorem dX8_write_28 : decode cX8_write 28 = .ok (.iconst (-1), 1) := by decide +kernel
theorem dX8_write_29 : decode cX8_write 29 = .ok (.if_icmp .eq 14, 3) := by decide +kernel
theorem dX8_write_32 : decode cX8_write 32 = .ok (.aload_n 0, 1) := by decide +kernel
theorem dX8_write_33 : decode cX8_write 33 = .ok (.iload_n 2, 1) := by decide +kernel
theorem dX8_write_34 : decode cX8_write 34 = .ok (.invokevirtual 134, 3) := by decide +kernel
theorem dX8_write_37 : decode cX8_write 37 = .ok (.ifCond .ne 6, 3) := by decide +kernel
theorem dX8_write_40 : decode cX8_write 40 = .ok (.bipush (-101), 2) := by decide +kernel
theorem dX8_write_42 : decode cX8_write 42 = .ok (.ireturn, 1) := by decide +kernel
theorem dX8_write_43 : decode cX8_write 43 = .ok (.aload_n 0, 1) := by decide +kernel
theorem dX8_write_44 : decode cX8_write 44 = .ok (.getfield 60, 3) := by decide +kernel
theorem dX8_write_47 : decode cX8_write 47 = .ok (.getfield 285, 3) := by decide +kernel
theorem dX8_write_50 : decode cX8_write 50 = .ok (.iload_n 1, 1) := by decide +kernel
theorem dX8_write_51 : decode cX8_write 51 = .ok (.iaload, 1) := by decide +kernel
theorem dX8_write_52 : decode cX8_write 52 = .ok (.istore_n 3, 1) := by decide +kernel
theorem dX8_write_53 : decode cX8_write 53 = .ok (.aload_n 0, 1) := by decide +kernel
theorem dX8_write_54 : decode cX8_write 54 = .ok (.getfield 60, 3) := by decide +kernel
theorem dX8_write_57 : decode cX8_write 57 = .ok (.getfield 285, 3) := by decide +kernel
theorem dX8_write_60 : decode cX8_write 60 = .ok (.iload_n 1, 1) := by decide +kernel
theorem dX8_write_61 : decode cX8_write 61 = .ok (.iload_n 2, 1) := by decide +kernel
theorem dX8_write_62 : decode cX8_write 62 = .ok (.iastore, 1) := by decide +kernel
theorem dX8_write_63 : decode cX8_write 63 = .ok (.iload_n 3, 1) := by decide +kernel
theorem dX8_write_64 : decode cX8_write 64 = .ok (.ireturn, 1) := by decide +kernel
theorem dX8_filled_0 : decode cX8_filled 0 = .ok (.aload_n 0, 1) := by decide +kernel
theorem dX8_filled_1 : decode cX8_filled 1 = .ok (.getfield 60, 3) := by decide +kernel
theorem dX8_filled_4 : decode cX8_filled 4 = .ok (.invokevirtual 279, 3) := by decide +kernel
theorem dX8_filled_7 : decode cX8_filled 7 = .ok (.ifCond .ne 6, 3) := by decide +kernel
theorem dX8_filled_10 : decode cX8_filled 10 = .ok (.bipush (-103), 2) := by decide +kernel
theorem dX8_filled_12 : decode cX8_filled 12 = .ok (.ireturn, 1) := by decide +kernel
theorem dX8_filled_13 : decode cX8_filled 13 = .ok (.aload_n 0, 1) := by decide +kernel
theorem dX8_filled_14 : decode cX8_filled 14 = .ok (.getfield 60, 3) := by decide +kernel
theorem dX8_filled_17 : decode cX8_filled 17 = .ok (.aload_n 0, 1) := by decide +kernel
theorem dX8_filled_18 : decode cX8_filled 18 = .ok (.getfield 26, 3) := by decide +kernel
theorem dX8_filled_21 : decode cX8_filled 21 = .ok (.aload_n 0, 1) := by decide +kernel
theorem dX8_filled_22 : decode cX8_filled 22 = .ok (.getfield 46, 3) := by decide +kernel
theorem dX8_filled_25 : decode cX8_filled 25 = .ok (.invokevirtual 288, 3) := by decide +kernel
theorem dX8_filled_28 : decode cX8_filled 28 = .ok (.ireturn, 1) := by decide +kernel
theorem dX8_sure_0 : decode cX8_sure 0 = .ok (.aload_n 0, 1) := by decide +kernel
theorem dX8_sure_1 : decode cX8_sure 1 = .ok (.getfield 60, 3) := by decide +kernel
theorem dX8_sure_4 : decode cX8_sure 4 = .ok (.invokevirtual 279, 3) := by decide +kernel
theorem dX8_sure_7 : decode cX8_sure 7 = .ok (.ifCond .ne 6, 3) := by decide +kernel
theorem dX8_sure_10 : decode cX8_sure 10 = .ok (.bipush (-103), 2) := by decide +kernel
theorem dX8_sure_12 : decode cX8_sure 12 = .ok (.ireturn, 1) := by decide +kernel
theorem dX8_sure_13 : decode cX8_sure 13 = .ok (.aload_n 0, 1) := by decide +kernel
theorem dX8_sure_14 : decode cX8_sure 14 = .ok (.getfield 60, 3) := by decide +kernel
theorem dX8_sure_17 : decode cX8_sure 17 = .ok (.iload_n 1, 1) := by decide +kernel
theorem dX8_sure_18 : decode cX8_sure 18 = .ok (.invokevirtual 282, 3) := by decide +kernel
theorem dX8_sure_21 : decode cX8_sure 21 = .ok (.ifCond .ne 6, 3) := by decide +kernel
theorem dX8_sure_24 : decode cX8_sure 24 = .ok (.bipush (-101), 2) := by decide +kernel
theorem dX8_sure_26 : decode cX8_sure 26 = .ok (.ireturn, 1) := by decide +kernel
theorem dX8_sure_27 : decode cX8_sure 27 = .ok (.aload_n 0, 1) := by decide +kernel
theorem dX8_sure_28 : decode cX8_sure 28 = .ok (.getfield 60, 3) := by decide +kernel
theorem dX8_sure_31 : decode cX8_sure 31 = .ok (.iload_n 1, 1) := by decide +kernel
theorem dX8_sure_32 : decode cX8_sure 32 = .ok (.aload_n 0, 1) := by decide +kernel
theorem dX8_sure_33 : decode cX8_sure 33 = .ok (.getfield 26, 3) := by decide +kernel
theorem dX8_sure_36 : decode cX8_sure 36 = .ok (.aload_n 0, 1) := by decide +kernel
theorem dX8_sure_37 : decode cX8_sure 37 = .ok (.getfield 46, 3) := by decide +kernel
theorem dX8_sure_40 : decode cX8_sure 40 = .ok (.invokevirtual 292, 3) := by decide +kernel
theorem dX8_sure_43 : decode cX8_sure 43 = .ok (.ireturn, 1) := by decide +kernel
theorem dX8_image_0 : decode cX8_image 0 = .ok (.aload_n 0, 1) := by decide +kernel
theorem dX8_image_1 : decode cX8_image 1 = .ok (.getfield 30, 3) := by decide +kernel
theorem dX8_image_4 : decode cX8_image 4 = .ok (.aload_n 0, 1) := by decide +kernel
theorem dX8_image_5 : decode cX8_image 5 = .ok (.getfield 26, 3) := by decide +kernel
theorem dX8_image_8 : decode cX8_image 8 = .ok (.invokevirtual 265, 3) := by decide +kernel
theorem dX8_image_11 : decode cX8_image 11 = .ok (.aload_n 0, 1) := by decide +kernel
theorem dX8_image_12 : decode cX8_image 12 = .ok (.iconst 1, 1) := by decide +kernel
theorem dX8_image_13 : decode cX8_image 13 = .ok (.putfield 296, 3) := by decide +kernel
theorem dX8_image_16 : decode cX8_image 16 = .ok (.aload_n 0, 1) := by decide +kernel
theorem dX8_image_17 : decode cX8_image 17 = .ok (.getfield 26, 3) := by decide +kernel
theorem dX8_image_20 : decode cX8_image 20 = .ok (.getfield 157, 3) := by decide +kernel
theorem dX8_image_23 : decode cX8_image 23 = .ok (.ireturn, 1) := by decide +kernel
theorem dX8_restore_0 : decode cX8_restore 0 = .ok (.aload_n 0, 1) := by decide +kernel
theorem dX8_restore_1 : decode cX8_restore 1 = .ok (.getfield 296, 3) := by decide +kernel
theorem dX8_restore_4 : decode cX8_restore 4 = .ok (.ifCond .eq 20, 3) := by decide +kernel
theorem dX8_restore_7 : decode cX8_restore 7 = .ok (.aload_n 0, 1) := by decide +kernel
theorem dX8_restore_8 : decode cX8_restore 8 = .ok (.getfield 30, 3) := by decide +kernel
theorem dX8_restore_11 : decode cX8_restore 11 = .ok (.getfield 108, 3) := by decide +kernel
theorem dX8_restore_14 : decode cX8_restore 14 = .ok (.aload_n 0, 1) := by decide +kernel
theorem dX8_restore_15 : decode cX8_restore 15 = .ok (.getfield 26, 3) := by decide +kernel
theorem dX8_restore_18 : decode cX8_restore 18 = .ok (.getfield 108, 3) := by decide +kernel
theorem dX8_restore_21 : decode cX8_restore 21 = .ok (.if_icmp .eq 6, 3) := by decide +kernel
theorem dX8_restore_24 : decode cX8_restore 24 = .ok (.bipush (-103), 2) := by decide +kernel
theorem dX8_restore_26 : decode cX8_restore 26 = .ok (.ireturn, 1) := by decide +kernel
theorem dX8_restore_27 : decode cX8_restore 27 = .ok (.aload_n 0, 1) := by decide +kernel
theorem dX8_restore_28 : decode cX8_restore 28 = .ok (.getfield 26, 3) := by decide +kernel
theorem dX8_restore_31 : decode cX8_restore 31 = .ok (.aload_n 0, 1) := by decide +kernel
theorem dX8_restore_32 : decode cX8_restore 32 = .ok (.getfield 30, 3) := by decide +kernel
theorem dX8_restore_35 : decode cX8_restore 35 = .ok (.invokevirtual 265, 3) := by decide +kernel
theorem dX8_restore_38 : decode cX8_restore 38 = .ok (.aload_n 0, 1) := by decide +kernel
theorem dX8_restore_39 : decode cX8_restore 39 = .ok (.getfield 26, 3) := by decide +kernel
theorem dX8_restore_42 : decode cX8_restore 42 = .ok (.getfield 157, 3) := by decide +kernel
theorem dX8_restore_45 : decode cX8_restore 45 = .ok (.ireturn, 1) := by decide +kernel
theorem dX8_count_0 : decode cX8_count 0 = .ok (.iload_n 1, 1) := by decide +kernel
theorem dX8_count_1 : decode cX8_count 1 = .ok (.iconst 0, 1) := by decide +kernel
theorem dX8_count_2 : decode cX8_count 2 = .ok (.bipush 6, 2) := by decide +kernel
theorem dX8_count_4 : decode cX8_count 4 = .ok (.invokestatic 91, 3) := by decide +kernel
theorem dX8_count_7 : decode cX8_count 7 = .ok (.ifCond .ne 6, 3) := by decide +kernel
theorem dX8_count_10 : decode cX8_count 10 = .ok (.bipush (-102), 2) := by decide +kernel
theorem dX8_count_12 : decode cX8_count 12 = .ok (.ireturn, 1) := by decide +kernel
theorem dX8_count_13 : decode cX8_count 13 = .ok (.iload_n 1, 1) := by decide +kernel
theorem dX8_count_14 : decode cX8_count 14 = .ok (.tableswitch 86 0 5 #[38, 46, 54, 62, 70, 78], 38) := by decide +kernel
theorem dX8_count_52 : decode cX8_count 52 = .ok (.aload_n 0, 1) := by decide +kernel
theorem dX8_count_53 : decode cX8_count 53 = .ok (.getfield 26, 3) := by decide +kernel
theorem dX8_count_56 : decode cX8_count 56 = .ok (.getfield 108, 3) := by decide +kernel
theorem dX8_count_59 : decode cX8_count 59 = .ok (.ireturn, 1) := by decide +kernel
theorem dX8_count_60 : decode cX8_count 60 = .ok (.aload_n 0, 1) := by decide +kernel
theorem dX8_count_61 : decode cX8_count 61 = .ok (.getfield 26, 3) := by decide +kernel
theorem dX8_count_64 : decode cX8_count 64 = .ok (.getfield 157, 3) := by decide +kernel
theorem dX8_count_67 : decode cX8_count 67 = .ok (.ireturn, 1) := by decide +kernel
theorem dX8_count_68 : decode cX8_count 68 = .ok (.aload_n 0, 1) := by decide +kernel
theorem dX8_count_69 : decode cX8_count 69 = .ok (.getfield 26, 3) := by decide +kernel
theorem dX8_count_72 : decode cX8_count 72 = .ok (.invokevirtual 272, 3) := by decide +kernel
theorem dX8_count_75 : decode cX8_count 75 = .ok (.ireturn, 1) := by decide +kernel
theorem dX8_count_76 : decode cX8_count 76 = .ok (.aload_n 0, 1) := by decide +kernel
theorem dX8_count_77 : decode cX8_count 77 = .ok (.getfield 26, 3) := by decide +kernel
theorem dX8_count_80 : decode cX8_count 80 = .ok (.getfield 299, 3) := by decide +kernel
theorem dX8_count_83 : decode cX8_count 83 = .ok (.ireturn, 1) := by decide +kernel
theorem dX8_count_84 : decode cX8_count 84 = .ok (.aload_n 0, 1) := by decide +kernel
theorem dX8_count_85 : decode cX8_count 85 = .ok (.getfield 26, 3) := by decide +kernel
theorem dX8_count_88 : decode cX8_count 88 = .ok (.invokevirtual 275, 3) := by decide +kernel
theorem dX8_count_91 : decode cX8_count 91 = .ok (.ireturn, 1) := by decide +kernel
theorem dX8_count_92 : decode cX8_count 92 = .ok (.aload_n 0, 1) := by decide +kernel
theorem dX8_count_93 : decode cX8_count 93 = .ok (.getfield 12, 3) := by decide +kernel
theorem dX8_count_96 : decode cX8_count 96 = .ok (.getfield 68, 3) := by decide +kernel
theorem dX8_count_99 : decode cX8_count 99 = .ok (.ireturn, 1) := by decide +kernel
theorem dX8_count_100 : decode cX8_count 100 = .ok (.aload_n 0, 1) := by decide +kernel
theorem dX8_count_101 : decode cX8_count 101 = .ok (.getfield 88, 3) := by decide +kernel
theorem dX8_count_104 : decode cX8_count 104 = .ok (.ireturn, 1) := by decide +kernel
theorem dX8_digest_0 : decode cX8_digest 0 = .ok (.ldc2_w 302, 3) := by decide +kernel
theorem dX8_digest_3 : decode cX8_digest 3 = .ok (.lstore_n 1, 1) := by decide +kernel
theorem dX8_digest_4 : decode cX8_digest 4 = .ok (.iconst 0, 1) := by decide +kernel
theorem dX8_digest_5 : decode cX8_digest 5 = .ok (.istore_n 3, 1) := by decide +kernel
theorem dX8_digest_6 : decode cX8_digest 6 = .ok (.iload_n 3, 1) := by decide +kernel
theorem dX8_digest_7 : decode cX8_digest 7 = .ok (.iconst 4, 1) := by decide +kernel
theorem dX8_digest_8 : decode cX8_digest 8 = .ok (.if_icmp .ge 20, 3) := by decide +kernel
theorem dX8_digest_11 : decode cX8_digest 11 = .ok (.lload_n 1, 1) := by decide +kernel
theorem dX8_digest_12 : decode cX8_digest 12 = .ok (.aload_n 0, 1) := by decide +kernel
theorem dX8_digest_13 : decode cX8_digest 13 = .ok (.iload_n 3, 1) := by decide +kernel
theorem dX8_digest_14 : decode cX8_digest 14 = .ok (.invokevirtual 304, 3) := by decide +kernel
theorem dX8_digest_17 : decode cX8_digest 17 = .ok (.i2l, 1) := by decide +kernel
theorem dX8_digest_18 : decode cX8_digest 18 = .ok (.invokestatic 307, 3) := by decide +kernel
theorem dX8_digest_21 : decode cX8_digest 21 = .ok (.lstore_n 1, 1) := by decide +kernel
theorem dX8_digest_22 : decode cX8_digest 22 = .ok (.iinc 3 1, 3) := by decide +kernel
theorem dX8_digest_25 : decode cX8_digest 25 = .ok (.goto (-19), 3) := by decide +kernel
theorem dX8_digest_28 : decode cX8_digest 28 = .ok (.iconst 0, 1) := by decide +kernel
theorem dX8_digest_29 : decode cX8_digest 29 = .ok (.istore_n 3, 1) := by decide +kernel
theorem dX8_digest_30 : decode cX8_digest 30 = .ok (.iload_n 3, 1) := by decide +kernel
theorem dX8_digest_31 : decode cX8_digest 31 = .ok (.aload_n 0, 1) := by decide +kernel
theorem dX8_digest_32 : decode cX8_digest 32 = .ok (.getfield 26, 3) := by decide +kernel
theorem dX8_digest_35 : decode cX8_digest 35 = .ok (.getfield 108, 3) := by decide +kernel
theorem dX8_digest_38 : decode cX8_digest 38 = .ok (.if_icmp .ge 16, 3) := by decide +kernel
theorem dX8_digest_41 : decode cX8_digest 41 = .ok (.aload_n 0, 1) := by decide +kernel
theorem dX8_digest_42 : decode cX8_digest 42 = .ok (.lload_n 1, 1) := by decide +kernel
theorem dX8_digest_43 : decode cX8_digest 43 = .ok (.iload_n 3, 1) := by decide +kernel
theorem dX8_digest_44 : decode cX8_digest 44 = .ok (.invokevirtual 310, 3) := by decide +kernel
theorem dX8_digest_47 : decode cX8_digest 47 = .ok (.lstore_n 1, 1) := by decide +kernel
theorem dX8_digest_48 : decode cX8_digest 48 = .ok (.iinc 3 1, 3) := by decide +kernel
theorem dX8_digest_51 : decode cX8_digest 51 = .ok (.goto (-21), 3) := by decide +kernel
theorem dX8_digest_54 : decode cX8_digest 54 = .ok (.iconst 0, 1) := by decide +kernel
theorem dX8_digest_55 : decode cX8_digest 55 = .ok (.istore_n 3, 1) := by decide +kernel
theorem dX8_digest_56 : decode cX8_digest 56 = .ok (.iload_n 3, 1) := by decide +kernel
theorem dX8_digest_57 : decode cX8_digest 57 = .ok (.aload_n 0, 1) := by decide +kernel
theorem dX8_digest_58 : decode cX8_digest 58 = .ok (.getfield 26, 3) := by decide +kernel
theorem dX8_digest_61 : decode cX8_digest 61 = .ok (.getfield 157, 3) := by decide +kernel
theorem dX8_digest_64 : decode cX8_digest 64 = .ok (.if_icmp .ge 16, 3) := by decide +kernel
theorem dX8_digest_67 : decode cX8_digest 67 = .ok (.aload_n 0, 1) := by decide +kernel
theorem dX8_digest_68 : decode cX8_digest 68 = .ok (.lload_n 1, 1) := by decide +kernel
theorem dX8_digest_69 : decode cX8_digest 69 = .ok (.iload_n 3, 1) := by decide +kernel
theorem dX8_digest_70 : decode cX8_digest 70 = .ok (.invokevirtual 314, 3) := by decide +kernel
theorem dX8_digest_73 : decode cX8_digest 73 = .ok (.lstore_n 1, 1) := by decide +kernel
theorem dX8_digest_74 : decode cX8_digest 74 = .ok (.iinc 3 1, 3) := by decide +kernel
theorem dX8_digest_77 : decode cX8_digest 77 = .ok (.goto (-21), 3) := by decide +kernel
theorem dX8_digest_80 : decode cX8_digest 80 = .ok (.lload_n 1, 1) := by decide +kernel
theorem dX8_digest_81 : decode cX8_digest 81 = .ok (.aload_n 0, 1) := by decide +kernel
theorem dX8_digest_82 : decode cX8_digest 82 = .ok (.invokevirtual 317, 3) := by decide +kernel
theorem dX8_digest_85 : decode cX8_digest 85 = .ok (.i2l, 1) := by decide +kernel
theorem dX8_digest_86 : decode cX8_digest 86 = .ok (.invokestatic 307, 3) := by decide +kernel
theorem dX8_digest_89 : decode cX8_digest 89 = .ok (.lstore_n 1, 1) := by decide +kernel
theorem dX8_digest_90 : decode cX8_digest 90 = .ok (.lload_n 1, 1) := by decide +kernel
theorem dX8_digest_91 : decode cX8_digest 91 = .ok (.aload_n 0, 1) := by decide +kernel
theorem dX8_digest_92 : decode cX8_digest 92 = .ok (.iconst 0, 1) := by decide +kernel
theorem dX8_digest_93 : decode cX8_digest 93 = .ok (.invokevirtual 320, 3) := by decide +kernel
theorem dX8_digest_96 : decode cX8_digest 96 = .ok (.i2l, 1) := by decide +kernel
theorem dX8_digest_97 : decode cX8_digest 97 = .ok (.invokestatic 307, 3) := by decide +kernel
theorem dX8_digest_100 : decode cX8_digest 100 = .ok (.lstore_n 1, 1) := by decide +kernel
theorem dX8_digest_101 : decode cX8_digest 101 = .ok (.lload_n 1, 1) := by decide +kernel
theorem dX8_digest_102 : decode cX8_digest 102 = .ok (.aload_n 0, 1) := by decide +kernel
theorem dX8_digest_103 : decode cX8_digest 103 = .ok (.iconst 1, 1) := by decide +kernel
theorem dX8_digest_104 : decode cX8_digest 104 = .ok (.invokevirtual 320, 3) := by decide +kernel
theorem dX8_digest_107 : decode cX8_digest 107 = .ok (.i2l, 1) := by decide +kernel
theorem dX8_digest_108 : decode cX8_digest 108 = .ok (.invokestatic 307, 3) := by decide +kernel
theorem dX8_digest_111 : decode cX8_digest 111 = .ok (.lstore_n 1, 1) := by decide +kernel
theorem dX8_digest_112 : decode cX8_digest 112 = .ok (.aload_n 0, 1) := by decide +kernel
theorem dX8_digest_113 : decode cX8_digest 113 = .ok (.getfield 60, 3) := by decide +kernel
theorem dX8_digest_116 : decode cX8_digest 116 = .ok (.invokevirtual 279, 3) := by decide +kernel
theorem dX8_digest_119 : decode cX8_digest 119 = .ok (.ifCond .eq 13, 3) := by decide +kernel
theorem dX8_digest_122 : decode cX8_digest 122 = .ok (.lload_n 1, 1) := by decide +kernel
theorem dX8_digest_123 : decode cX8_digest 123 = .ok (.aload_n 0, 1) := by decide +kernel
theorem dX8_digest_124 : decode cX8_digest 124 = .ok (.invokevirtual 323, 3) := by decide +kernel
theorem dX8_digest_127 : decode cX8_digest 127 = .ok (.i2l, 1) := by decide +kernel
theorem dX8_digest_128 : decode cX8_digest 128 = .ok (.invokestatic 307, 3) := by decide +kernel
theorem dX8_digest_131 : decode cX8_digest 131 = .ok (.lstore_n 1, 1) := by decide +kernel
theorem dX8_digest_132 : decode cX8_digest 132 = .ok (.iconst 0, 1) := by decide +kernel
theorem dX8_digest_133 : decode cX8_digest 133 = .ok (.istore_n 3, 1) := by decide +kernel
theorem dX8_digest_134 : decode cX8_digest 134 = .ok (.iload_n 3, 1) := by decide +kernel
theorem dX8_digest_135 : decode cX8_digest 135 = .ok (.aload_n 0, 1) := by decide +kernel
theorem dX8_digest_136 : decode cX8_digest 136 = .ok (.getfield 12, 3) := by decide +kernel
theorem dX8_digest_139 : decode cX8_digest 139 = .ok (.getfield 68, 3) := by decide +kernel
theorem dX8_digest_142 : decode cX8_digest 142 = .ok (.if_icmp .ge 30, 3) := by decide +kernel
theorem dX8_digest_145 : decode cX8_digest 145 = .ok (.iload_n 3, 1) := by decide +kernel
theorem dX8_digest_146 : decode cX8_digest 146 = .ok (.bipush 16, 2) := by decide +kernel
theorem dX8_digest_148 : decode cX8_digest 148 = .ok (.if_icmp .ge 24, 3) := by decide +kernel
theorem dX8_digest_151 : decode cX8_digest 151 = .ok (.lload_n 1, 1) := by decide +kernel
theorem dX8_digest_152 : decode cX8_digest 152 = .ok (.aload_n 0, 1) := by decide +kernel
theorem dX8_digest_153 : decode cX8_digest 153 = .ok (.getfield 12, 3) := by decide +kernel
theorem dX8_digest_156 : decode cX8_digest 156 = .ok (.getfield 326, 3) := by decide +kernel
theorem dX8_digest_159 : decode cX8_digest 159 = .ok (.iload_n 3, 1) := by decide +kernel
theorem dX8_digest_160 : decode cX8_digest 160 = .ok (.iaload, 1) := by decide +kernel
theorem dX8_digest_161 : decode cX8_digest 161 = .ok (.i2l, 1) := by decide +kernel
theorem dX8_digest_162 : decode cX8_digest 162 = .ok (.invokestatic 307, 3) := by decide +kernel
theorem dX8_digest_165 : decode cX8_digest 165 = .ok (.lstore_n 1, 1) := by decide +kernel
theorem dX8_digest_166 : decode cX8_digest 166 = .ok (.iinc 3 1, 3) := by decide +kernel
theorem dX8_digest_169 : decode cX8_digest 169 = .ok (.goto (-35), 3) := by decide +kernel
theorem dX8_digest_172 : decode cX8_digest 172 = .ok (.iconst 0, 1) := by decide +kernel
theorem dX8_digest_173 : decode cX8_digest 173 = .ok (.istore_n 3, 1) := by decide +kernel
theorem dX8_digest_174 : decode cX8_digest 174 = .ok (.iload_n 3, 1) := by decide +kernel
theorem dX8_digest_175 : decode cX8_digest 175 = .ok (.bipush 7, 2) := by decide +kernel
theorem dX8_digest_177 : decode cX8_digest 177 = .ok (.if_icmp .ge 20, 3) := by decide +kernel
theorem dX8_digest_180 : decode cX8_digest 180 = .ok (.lload_n 1, 1) := by decide +kernel
theorem dX8_digest_181 : decode cX8_digest 181 = .ok (.aload_n 0, 1) := by decide +kernel
theorem dX8_digest_182 : decode cX8_digest 182 = .ok (.iload_n 3, 1) := by decide +kernel
theorem dX8_digest_183 : decode cX8_digest 183 = .ok (.invokevirtual 329, 3) := by decide +kernel
theorem dX8_digest_186 : decode cX8_digest 186 = .ok (.i2l, 1) := by decide +kernel
theorem dX8_digest_187 : decode cX8_digest 187 = .ok (.invokestatic 307, 3) := by decide +kernel
theorem dX8_digest_190 : decode cX8_digest 190 = .ok (.lstore_n 1, 1) := by decide +kernel
theorem dX8_digest_191 : decode cX8_digest 191 = .ok (.iinc 3 1, 3) := by decide +kernel
theorem dX8_digest_194 : decode cX8_digest 194 = .ok (.goto (-20), 3) := by decide +kernel
theorem dX8_digest_197 : decode cX8_digest 197 = .ok (.lload_n 1, 1) := by decide +kernel
theorem dX8_digest_198 : decode cX8_digest 198 = .ok (.lreturn, 1) := by decide +kernel
theorem dX8_withPerson_0 : decode cX8_withPerson 0 = .ok (.lload_n 1, 1) := by decide +kernel
theorem dX8_withPerson_1 : decode cX8_withPerson 1 = .ok (.lstore 4, 2) := by decide +kernel
theorem dX8_withPerson_3 : decode cX8_withPerson 3 = .ok (.iconst 0, 1) := by decide +kernel
theorem dX8_withPerson_4 : decode cX8_withPerson 4 = .ok (.istore 6, 2) := by decide +kernel
theorem dX8_withPerson_6 : decode cX8_withPerson 6 = .ok (.iload 6, 2) := by decide +kernel
theorem dX8_withPerson_8 : decode cX8_withPerson 8 = .ok (.iconst 4, 1) := by decide +kernel
theorem dX8_withPerson_9 : decode cX8_withPerson 9 = .ok (.if_icmp .ge 24, 3) := by decide +kernel
theorem dX8_withPerson_12 : decode cX8_withPerson 12 = .ok (.lload 4, 2) := by decide +kernel
theorem dX8_withPerson_14 : decode cX8_withPerson 14 = .ok (.aload_n 0, 1) := by decide +kernel
theorem dX8_withPerson_15 : decode cX8_withPerson 15 = .ok (.iload_n 3, 1) := by decide +kernel
theorem dX8_withPerson_16 : decode cX8_withPerson 16 = .ok (.iload 6, 2) := by decide +kernel
theorem dX8_withPerson_18 : decode cX8_withPerson 18 = .ok (.invokevirtual 332, 3) := by decide +kernel
theorem dX8_withPerson_21 : decode cX8_withPerson 21 = .ok (.i2l, 1) := by decide +kernel
theorem dX8_withPerson_22 : decode cX8_withPerson 22 = .ok (.invokestatic 307, 3) := by decide +kernel
theorem dX8_withPerson_25 : decode cX8_withPerson 25 = .ok (.lstore 4, 2) := by decide +kernel
theorem dX8_withPerson_27 : decode cX8_withPerson 27 = .ok (.iinc 6 1, 3) := by decide +kernel
theorem dX8_withPerson_30 : decode cX8_withPerson 30 = .ok (.goto (-24), 3) := by decide +kernel
theorem dX8_withPerson_33 : decode cX8_withPerson 33 = .ok (.lload 4, 2) := by decide +kernel
theorem dX8_withPerson_35 : decode cX8_withPerson 35 = .ok (.aload_n 0, 1) := by decide +kernel
theorem dX8_withPerson_36 : decode cX8_withPerson 36 = .ok (.iload_n 3, 1) := by decide +kernel
theorem dX8_withPerson_37 : decode cX8_withPerson 37 = .ok (.invokevirtual 335, 3) := by decide +kernel
theorem dX8_withPerson_40 : decode cX8_withPerson 40 = .ok (.i2l, 1) := by decide +kernel
theorem dX8_withPerson_41 : decode cX8_withPerson 41 = .ok (.invokestatic 307, 3) := by decide +kernel
theorem dX8_withPerson_44 : decode cX8_withPerson 44 = .ok (.lreturn, 1) := by decide +kernel
theorem dX8_withGift_0 : decode cX8_withGift 0 = .ok (.lload_n 1, 1) := by decide +kernel
theorem dX8_withGift_1 : decode cX8_withGift 1 = .ok (.lstore 4, 2) := by decide +kernel
theorem dX8_withGift_3 : decode cX8_withGift 3 = .ok (.iconst 0, 1) := by decide +kernel
theorem dX8_withGift_4 : decode cX8_withGift 4 = .ok (.istore 6, 2) := by decide +kernel
theorem dX8_withGift_6 : decode cX8_withGift 6 = .ok (.iload 6, 2) := by decide +kernel
theorem dX8_withGift_8 : decode cX8_withGift 8 = .ok (.bipush 9, 2) := by decide +kernel
theorem dX8_withGift_10 : decode cX8_withGift 10 = .ok (.if_icmp .ge 24, 3) := by decide +kernel
theorem dX8_withGift_13 : decode cX8_withGift 13 = .ok (.lload 4, 2) := by decide +kernel
theorem dX8_withGift_15 : decode cX8_withGift 15 = .ok (.aload_n 0, 1) := by decide +kernel
theorem dX8_withGift_16 : decode cX8_withGift 16 = .ok (.iload_n 3, 1) := by decide +kernel
theorem dX8_withGift_17 : decode cX8_withGift 17 = .ok (.iload 6, 2) := by decide +kernel
theorem dX8_withGift_19 : decode cX8_withGift 19 = .ok (.invokevirtual 338, 3) := by decide +kernel
theorem dX8_withGift_22 : decode cX8_withGift 22 = .ok (.i2l, 1) := by decide +kernel
theorem dX8_withGift_23 : decode cX8_withGift 23 = .ok (.invokestatic 307, 3) := by decide +kernel
theorem dX8_withGift_26 : decode cX8_withGift 26 = .ok (.lstore 4, 2) := by decide +kernel
theorem dX8_withGift_28 : decode cX8_withGift 28 = .ok (.iinc 6 1, 3) := by decide +kernel
theorem dX8_withGift_31 : decode cX8_withGift 31 = .ok (.goto (-25), 3) := by decide +kernel
theorem dX8_withGift_34 : decode cX8_withGift 34 = .ok (.aload_n 0, 1) := by decide +kernel
theorem dX8_withGift_35 : decode cX8_withGift 35 = .ok (.getfield 26, 3) := by decide +kernel
theorem dX8_withGift_38 : decode cX8_withGift 38 = .ok (.getfield 166, 3) := by decide +kernel
theorem dX8_withGift_41 : decode cX8_withGift 41 = .ok (.iload_n 3, 1) := by decide +kernel
theorem dX8_withGift_42 : decode cX8_withGift 42 = .ok (.aaload, 1) := by decide +kernel
theorem dX8_withGift_43 : decode cX8_withGift 43 = .ok (.invokevirtual 202, 3) := by decide +kernel
theorem dX8_withGift_46 : decode cX8_withGift 46 = .ok (.ifCond .ne 6, 3) := by decide +kernel
theorem dX8_withGift_49 : decode cX8_withGift 49 = .ok (.lload 4, 2) := by decide +kernel
theorem dX8_withGift_51 : decode cX8_withGift 51 = .ok (.lreturn, 1) := by decide +kernel
theorem dX8_withGift_52 : decode cX8_withGift 52 = .ok (.lload 4, 2) := by decide +kernel
theorem dX8_withGift_54 : decode cX8_withGift 54 = .ok (.aload_n 0, 1) := by decide +kernel
theorem dX8_withGift_55 : decode cX8_withGift 55 = .ok (.iload_n 3, 1) := by decide +kernel
theorem dX8_withGift_56 : decode cX8_withGift 56 = .ok (.invokevirtual 341, 3) := by decide +kernel
theorem dX8_withGift_59 : decode cX8_withGift 59 = .ok (.i2l, 1) := by decide +kernel
theorem dX8_withGift_60 : decode cX8_withGift 60 = .ok (.invokestatic 307, 3) := by decide +kernel
theorem dX8_withGift_63 : decode cX8_withGift 63 = .ok (.lstore 4, 2) := by decide +kernel
theorem dX8_withGift_65 : decode cX8_withGift 65 = .ok (.lload 4, 2) := by decide +kernel
theorem dX8_withGift_67 : decode cX8_withGift 67 = .ok (.aload_n 0, 1) := by decide +kernel
theorem dX8_withGift_68 : decode cX8_withGift 68 = .ok (.iload_n 3, 1) := by decide +kernel
theorem dX8_withGift_69 : decode cX8_withGift 69 = .ok (.invokevirtual 344, 3) := by decide +kernel
theorem dX8_withGift_72 : decode cX8_withGift 72 = .ok (.i2l, 1) := by decide +kernel
theorem dX8_withGift_73 : decode cX8_withGift 73 = .ok (.invokestatic 307, 3) := by decide +kernel
theorem dX8_withGift_76 : decode cX8_withGift 76 = .ok (.lreturn, 1) := by decide +kernel
theorem dX8_isPerson_0 : decode cX8_isPerson 0 = .ok (.iload_n 1, 1) := by decide +kernel
theorem dX8_isPerson_1 : decode cX8_isPerson 1 = .ok (.ifCond .lt 18, 3) := by decide +kernel
theorem dX8_isPerson_4 : decode cX8_isPerson 4 = .ok (.iload_n 1, 1) := by decide +kernel
theorem dX8_isPerson_5 : decode cX8_isPerson 5 = .ok (.aload_n 0, 1) := by decide +kernel
theorem dX8_isPerson_6 : decode cX8_isPerson 6 = .ok (.getfield 26, 3) := by decide +kernel
theorem dX8_isPerson_9 : decode cX8_isPerson 9 = .ok (.getfield 108, 3) := by decide +kernel
theorem dX8_isPerson_12 : decode cX8_isPerson 12 = .ok (.if_icmp .ge 7, 3) := by decide +kernel
theorem dX8_isPerson_15 : decode cX8_isPerson 15 = .ok (.iconst 1, 1) := by decide +kernel
theorem dX8_isPerson_16 : decode cX8_isPerson 16 = .ok (.goto 4, 3) := by decide +kernel
theorem dX8_isPerson_19 : decode cX8_isPerson 19 = .ok (.iconst 0, 1) := by decide +kernel
theorem dX8_isPerson_20 : decode cX8_isPerson 20 = .ok (.ireturn, 1) := by decide +kernel
theorem dX8_areTwo_0 : decode cX8_areTwo 0 = .ok (.aload_n 0, 1) := by decide +kernel
theorem dX8_areTwo_1 : decode cX8_areTwo 1 = .ok (.iload_n 1, 1) := by decide +kernel
theorem dX8_areTwo_2 : decode cX8_areTwo 2 = .ok (.invokevirtual 134, 3) := by decide +kernel
theorem dX8_areTwo_5 : decode cX8_areTwo 5 = .ok (.ifCond .eq 20, 3) := by decide +kernel
theorem dX8_areTwo_8 : decode cX8_areTwo 8 = .ok (.aload_n 0, 1) := by decide +kernel
theorem dX8_areTwo_9 : decode cX8_areTwo 9 = .ok (.iload_n 2, 1) := by decide +kernel
theorem dX8_areTwo_10 : decode cX8_areTwo 10 = .ok (.invokevirtual 134, 3) := by decide +kernel
theorem dX8_areTwo_13 : decode cX8_areTwo 13 = .ok (.ifCond .eq 12, 3) := by decide +kernel
theorem dX8_areTwo_16 : decode cX8_areTwo 16 = .ok (.iload_n 1, 1) := by decide +kernel
theorem dX8_areTwo_17 : decode cX8_areTwo 17 = .ok (.iload_n 2, 1) := by decide +kernel
theorem dX8_areTwo_18 : decode cX8_areTwo 18 = .ok (.if_icmp .eq 7, 3) := by decide +kernel
theorem dX8_areTwo_21 : decode cX8_areTwo 21 = .ok (.iconst 1, 1) := by decide +kernel
theorem dX8_areTwo_22 : decode cX8_areTwo 22 = .ok (.goto 4, 3) := by decide +kernel
theorem dX8_areTwo_25 : decode cX8_areTwo 25 = .ok (.iconst 0, 1) := by decide +kernel
theorem dX8_areTwo_26 : decode cX8_areTwo 26 = .ok (.ireturn, 1) := by decide +kernel
theorem dX8_isGift_0 : decode cX8_isGift 0 = .ok (.iload_n 1, 1) := by decide +kernel
theorem dX8_isGift_1 : decode cX8_isGift 1 = .ok (.ifCond .lt 18, 3) := by decide +kernel
theorem dX8_isGift_4 : decode cX8_isGift 4 = .ok (.iload_n 1, 1) := by decide +kernel
theorem dX8_isGift_5 : decode cX8_isGift 5 = .ok (.aload_n 0, 1) := by decide +kernel
theorem dX8_isGift_6 : decode cX8_isGift 6 = .ok (.getfield 26, 3) := by decide +kernel
theorem dX8_isGift_9 : decode cX8_isGift 9 = .ok (.getfield 157, 3) := by decide +kernel
theorem dX8_isGift_12 : decode cX8_isGift 12 = .ok (.if_icmp .ge 7, 3) := by decide +kernel
theorem dX8_isGift_15 : decode cX8_isGift 15 = .ok (.iconst 1, 1) := by decide +kernel
theorem dX8_isGift_16 : decode cX8_isGift 16 = .ok (.goto 4, 3) := by decide +kernel
theorem dX8_isGift_19 : decode cX8_isGift 19 = .ok (.iconst 0, 1) := by decide +kernel
theorem dX8_isGift_20 : decode cX8_isGift 20 = .ok (.ireturn, 1) := by decide +kernel
theorem dX8_whoMayHave_0 : decode cX8_whoMayHave 0 = .ok (.aload_n 0, 1) := by decide +kernel
theorem dX8_whoMayHave_1 : decode cX8_whoMayHave 1 = .ok (.getfield 26, 3) := by decide +kernel
theorem dX8_whoMayHave_4 : decode cX8_whoMayHave 4 = .ok (.getfield 166, 3) := by decide +kernel
theorem dX8_whoMayHave_7 : decode cX8_whoMayHave 7 = .ok (.iload_n 1, 1) := by decide +kernel
theorem dX8_whoMayHave_8 : decode cX8_whoMayHave 8 = .ok (.aaload, 1) := by decide +kernel
theorem dX8_whoMayHave_9 : decode cX8_whoMayHave 9 = .ok (.astore_n 2, 1) := by decide +kernel
theorem dX8_whoMayHave_10 : decode cX8_whoMayHave 10 = .ok (.aload_n 0, 1) := by decide +kernel
theorem dX8_whoMayHave_11 : decode cX8_whoMayHave 11 = .ok (.getfield 26, 3) := by decide +kernel
theorem dX8_whoMayHave_14 : decode cX8_whoMayHave 14 = .ok (.aload_n 2, 1) := by decide +kernel
theorem dX8_whoMayHave_15 : decode cX8_whoMayHave 15 = .ok (.getfield 181, 3) := by decide +kernel
theorem dX8_whoMayHave_18 : decode cX8_whoMayHave 18 = .ok (.aload_n 2, 1) := by decide +kernel
theorem dX8_whoMayHave_19 : decode cX8_whoMayHave 19 = .ok (.getfield 178, 3) := by decide +kernel
theorem dX8_whoMayHave_22 : decode cX8_whoMayHave 22 = .ok (.aload_n 0, 1) := by decide +kernel
theorem dX8_whoMayHave_23 : decode cX8_whoMayHave 23 = .ok (.getfield 19, 3) := by decide +kernel
theorem dX8_whoMayHave_26 : decode cX8_whoMayHave 26 = .ok (.getfield 98, 3) := by decide +kernel
theorem dX8_whoMayHave_29 : decode cX8_whoMayHave 29 = .ok (.invokevirtual 347, 3) := by decide +kernel
theorem dX8_whoMayHave_32 : decode cX8_whoMayHave 32 = .ok (.ireturn, 1) := by decide +kernel
theorem dX8_mixed_0 : decode cX8_mixed 0 = .ok (.ldc2_w 351, 3) := by decide +kernel
theorem dX8_mixed_3 : decode cX8_mixed 3 = .ok (.lload_n 0, 1) := by decide +kernel
theorem dX8_mixed_4 : decode cX8_mixed 4 = .ok (.lmul, 1) := by decide +kernel
theorem dX8_mixed_5 : decode cX8_mixed 5 = .ok (.lload_n 2, 1) := by decide +kernel
theorem dX8_mixed_6 : decode cX8_mixed 6 = .ok (.ladd, 1) := by decide +kernel
theorem dX8_mixed_7 : decode cX8_mixed 7 = .ok (.lreturn, 1) := by decide +kernel
theorem dX8_within_0 : decode cX8_within 0 = .ok (.iload_n 0, 1) := by decide +kernel
theorem dX8_within_1 : decode cX8_within 1 = .ok (.iload_n 1, 1) := by decide +kernel
theorem dX8_within_2 : decode cX8_within 2 = .ok (.if_icmp .lt 12, 3) := by decide +kernel
theorem dX8_within_5 : decode cX8_within 5 = .ok (.iload_n 0, 1) := by decide +kernel
theorem dX8_within_6 : decode cX8_within 6 = .ok (.iload_n 2, 1) := by decide +kernel
theorem dX8_within_7 : decode cX8_within 7 = .ok (.if_icmp .gt 7, 3) := by decide +kernel
theorem dX8_within_10 : decode cX8_within 10 = .ok (.iconst 1, 1) := by decide +kernel
theorem dX8_within_11 : decode cX8_within 11 = .ok (.goto 4, 3) := by decide +kernel
theorem dX8_within_14 : decode cX8_within 14 = .ok (.iconst 0, 1) := by decide +kernel
theorem dX8_within_15 : decode cX8_within 15 = .ok (.ireturn, 1) := by decide +kernel
theorem dX8_pair_0 : decode cX8_pair 0 = .ok (.iload_n 0, 1) := by decide +kernel
theorem dX8_pair_1 : decode cX8_pair 1 = .ok (.bipush 8, 2) := by decide +kernel
theorem dX8_pair_3 : decode cX8_pair 3 = .ok (.imul, 1) := by decide +kernel
theorem dX8_pair_4 : decode cX8_pair 4 = .ok (.iload_n 1, 1) := by decide +kernel
theorem dX8_pair_5 : decode cX8_pair 5 = .ok (.iadd, 1) := by decide +kernel
theorem dX8_pair_6 : decode cX8_pair 6 = .ok (.ireturn, 1) := by decide +kernel
theorem dX8_bit_0 : decode cX8_bit 0 = .ok (.iload_n 0, 1) := by decide +kernel
theorem dX8_bit_1 : decode cX8_bit 1 = .ok (.iconst (-1), 1) := by decide +kernel
theorem dX8_bit_2 : decode cX8_bit 2 = .ok (.if_icmp .ne 7, 3) := by decide +kernel
theorem dX8_bit_5 : decode cX8_bit 5 = .ok (.iconst 0, 1) := by decide +kernel
theorem dX8_bit_6 : decode cX8_bit 6 = .ok (.goto 6, 3) := by decide +kernel
theorem dX8_bit_9 : decode cX8_bit 9 = .ok (.iconst 1, 1) := by decide +kernel
theorem dX8_bit_10 : decode cX8_bit 10 = .ok (.iload_n 0, 1) := by decide +kernel
theorem dX8_bit_11 : decode cX8_bit 11 = .ok (.ishl, 1) := by decide +kernel
theorem dX8_bit_12 : decode cX8_bit 12 = .ok (.ireturn, 1) := by decide +kernel
theorem dX8_greatestCommon_0 : decode cX8_greatestCommon 0 = .ok (.lload_n 0, 1) := by decide +kernel
theorem dX8_greatestCommon_1 : decode cX8_greatestCommon 1 = .ok (.lstore 4, 2) := by decide +kernel
theorem dX8_greatestCommon_3 : decode cX8_greatestCommon 3 = .ok (.lload_n 2, 1) := by decide +kernel
theorem dX8_greatestCommon_4 : decode cX8_greatestCommon 4 = .ok (.lstore 6, 2) := by decide +kernel
theorem dX8_greatestCommon_6 : decode cX8_greatestCommon 6 = .ok (.iconst 0, 1) := by decide +kernel
theorem dX8_greatestCommon_7 : decode cX8_greatestCommon 7 = .ok (.istore 8, 2) := by decide +kernel
theorem dX8_greatestCommon_9 : decode cX8_greatestCommon 9 = .ok (.iload 8, 2) := by decide +kernel
theorem dX8_greatestCommon_11 : decode cX8_greatestCommon 11 = .ok (.bipush 100, 2) := by decide +kernel
theorem dX8_greatestCommon_13 : decode cX8_greatestCommon 13 = .ok (.if_icmp .ge 31, 3) := by decide +kernel
theorem dX8_greatestCommon_16 : decode cX8_greatestCommon 16 = .ok (.lload 6, 2) := by decide +kernel
theorem dX8_greatestCommon_18 : decode cX8_greatestCommon 18 = .ok (.lconst 0, 1) := by decide +kernel
theorem dX8_greatestCommon_19 : decode cX8_greatestCommon 19 = .ok (.lcmp, 1) := by decide +kernel
theorem dX8_greatestCommon_20 : decode cX8_greatestCommon 20 = .ok (.ifCond .eq 24, 3) := by decide +kernel
theorem dX8_greatestCommon_23 : decode cX8_greatestCommon 23 = .ok (.lload 4, 2) := by decide +kernel
theorem dX8_greatestCommon_25 : decode cX8_greatestCommon 25 = .ok (.lload 6, 2) := by decide +kernel
theorem dX8_greatestCommon_27 : decode cX8_greatestCommon 27 = .ok (.lrem, 1) := by decide +kernel
theorem dX8_greatestCommon_28 : decode cX8_greatestCommon 28 = .ok (.lstore 9, 2) := by decide +kernel
theorem dX8_greatestCommon_30 : decode cX8_greatestCommon 30 = .ok (.lload 6, 2) := by decide +kernel
theorem dX8_greatestCommon_32 : decode cX8_greatestCommon 32 = .ok (.lstore 4, 2) := by decide +kernel
theorem dX8_greatestCommon_34 : decode cX8_greatestCommon 34 = .ok (.lload 9, 2) := by decide +kernel
theorem dX8_greatestCommon_36 : decode cX8_greatestCommon 36 = .ok (.lstore 6, 2) := by decide +kernel
theorem dX8_greatestCommon_38 : decode cX8_greatestCommon 38 = .ok (.iinc 8 1, 3) := by decide +kernel
theorem dX8_greatestCommon_41 : decode cX8_greatestCommon 41 = .ok (.goto (-32), 3) := by decide +kernel
theorem dX8_greatestCommon_44 : decode cX8_greatestCommon 44 = .ok (.lload 4, 2) := by decide +kernel
theorem dX8_greatestCommon_46 : decode cX8_greatestCommon 46 = .ok (.lreturn, 1) := by decide +kernel
theorem dJ6_bitCount_0f7a4_0 : decode cJ6_bitCount_0f7a4 0 = .ok (.iload_n 0, 1) := by decide +kernel
theorem dJ6_bitCount_0f7a4_1 : decode cJ6_bitCount_0f7a4 1 = .ok (.iload_n 0, 1) := by decide +kernel
theorem dJ6_bitCount_0f7a4_2 : decode cJ6_bitCount_0f7a4 2 = .ok (.iconst 1, 1) := by decide +kernel
theorem dJ6_bitCount_0f7a4_3 : decode cJ6_bitCount_0f7a4 3 = .ok (.iushr, 1) := by decide +kernel
theorem dJ6_bitCount_0f7a4_4 : decode cJ6_bitCount_0f7a4 4 = .ok (.ldc_w 265, 3) := by decide +kernel
theorem dJ6_bitCount_0f7a4_7 : decode cJ6_bitCount_0f7a4 7 = .ok (.iand, 1) := by decide +kernel
theorem dJ6_bitCount_0f7a4_8 : decode cJ6_bitCount_0f7a4 8 = .ok (.isub, 1) := by decide +kernel
theorem dJ6_bitCount_0f7a4_9 : decode cJ6_bitCount_0f7a4 9 = .ok (.istore_n 0, 1) := by decide +kernel
theorem dJ6_bitCount_0f7a4_10 : decode cJ6_bitCount_0f7a4 10 = .ok (.iload_n 0, 1) := by decide +kernel
theorem dJ6_bitCount_0f7a4_11 : decode cJ6_bitCount_0f7a4 11 = .ok (.ldc_w 266, 3) := by decide +kernel
theorem dJ6_bitCount_0f7a4_14 : decode cJ6_bitCount_0f7a4 14 = .ok (.iand, 1) := by decide +kernel
theorem dJ6_bitCount_0f7a4_15 : decode cJ6_bitCount_0f7a4 15 = .ok (.iload_n 0, 1) := by decide +kernel
theorem dJ6_bitCount_0f7a4_16 : decode cJ6_bitCount_0f7a4 16 = .ok (.iconst 2, 1) := by decide +kernel
theorem dJ6_bitCount_0f7a4_17 : decode cJ6_bitCount_0f7a4 17 = .ok (.iushr, 1) := by decide +kernel
theorem dJ6_bitCount_0f7a4_18 : decode cJ6_bitCount_0f7a4 18 = .ok (.ldc_w 266, 3) := by decide +kernel
theorem dJ6_bitCount_0f7a4_21 : decode cJ6_bitCount_0f7a4 21 = .ok (.iand, 1) := by decide +kernel
theorem dJ6_bitCount_0f7a4_22 : decode cJ6_bitCount_0f7a4 22 = .ok (.iadd, 1) := by decide +kernel
theorem dJ6_bitCount_0f7a4_23 : decode cJ6_bitCount_0f7a4 23 = .ok (.istore_n 0, 1) := by decide +kernel
theorem dJ6_bitCount_0f7a4_24 : decode cJ6_bitCount_0f7a4 24 = .ok (.iload_n 0, 1) := by decide +kernel
theorem dJ6_bitCount_0f7a4_25 : decode cJ6_bitCount_0f7a4 25 = .ok (.iload_n 0, 1) := by decide +kernel
theorem dJ6_bitCount_0f7a4_26 : decode cJ6_bitCount_0f7a4 26 = .ok (.iconst 4, 1) := by decide +kernel
theorem dJ6_bitCount_0f7a4_27 : decode cJ6_bitCount_0f7a4 27 = .ok (.iushr, 1) := by decide +kernel
theorem dJ6_bitCount_0f7a4_28 : decode cJ6_bitCount_0f7a4 28 = .ok (.iadd, 1) := by decide +kernel
theorem dJ6_bitCount_0f7a4_29 : decode cJ6_bitCount_0f7a4 29 = .ok (.ldc_w 267, 3) := by decide +kernel
theorem dJ6_bitCount_0f7a4_32 : decode cJ6_bitCount_0f7a4 32 = .ok (.iand, 1) := by decide +kernel
theorem dJ6_bitCount_0f7a4_33 : decode cJ6_bitCount_0f7a4 33 = .ok (.istore_n 0, 1) := by decide +kernel
theorem dJ6_bitCount_0f7a4_34 : decode cJ6_bitCount_0f7a4 34 = .ok (.iload_n 0, 1) := by decide +kernel
theorem dJ6_bitCount_0f7a4_35 : decode cJ6_bitCount_0f7a4 35 = .ok (.iload_n 0, 1) := by decide +kernel
theorem dJ6_bitCount_0f7a4_36 : decode cJ6_bitCount_0f7a4 36 = .ok (.bipush 8, 2) := by decide +kernel
theorem dJ6_bitCount_0f7a4_38 : decode cJ6_bitCount_0f7a4 38 = .ok (.iushr, 1) := by decide +kernel
theorem dJ6_bitCount_0f7a4_39 : decode cJ6_bitCount_0f7a4 39 = .ok (.iadd, 1) := by decide +kernel
theorem dJ6_bitCount_0f7a4_40 : decode cJ6_bitCount_0f7a4 40 = .ok (.istore_n 0, 1) := by decide +kernel
theorem dJ6_bitCount_0f7a4_41 : decode cJ6_bitCount_0f7a4 41 = .ok (.iload_n 0, 1) := by decide +kernel
theorem dJ6_bitCount_0f7a4_42 : decode cJ6_bitCount_0f7a4 42 = .ok (.iload_n 0, 1) := by decide +kernel
theorem dJ6_bitCount_0f7a4_43 : decode cJ6_bitCount_0f7a4 43 = .ok (.bipush 16, 2) := by decide +kernel
theorem dJ6_bitCount_0f7a4_45 : decode cJ6_bitCount_0f7a4 45 = .ok (.iushr, 1) := by decide +kernel
theorem dJ6_bitCount_0f7a4_46 : decode cJ6_bitCount_0f7a4 46 = .ok (.iadd, 1) := by decide +kernel
theorem dJ6_bitCount_0f7a4_47 : decode cJ6_bitCount_0f7a4 47 = .ok (.istore_n 0, 1) := by decide +kernel
theorem dJ6_bitCount_0f7a4_48 : decode cJ6_bitCount_0f7a4 48 = .ok (.iload_n 0, 1) := by decide +kernel
theorem dJ6_bitCount_0f7a4_49 : decode cJ6_bitCount_0f7a4 49 = .ok (.bipush 63, 2) := by decide +kernel
theorem dJ6_bitCount_0f7a4_51 : decode cJ6_bitCount_0f7a4 51 = .ok (.iand, 1) := by decide +kernel
theorem dJ6_bitCount_0f7a4_52 : decode cJ6_bitCount_0f7a4 52 = .ok (.ireturn, 1) := by decide +kernel
theorem dJ9_max_7cf53_0 : decode cJ9_max_7cf53 0 = .ok (.iload_n 0, 1) := by decide +kernel
theorem dJ9_max_7cf53_1 : decode cJ9_max_7cf53 1 = .ok (.iload_n 1, 1) := by decide +kernel
theorem dJ9_max_7cf53_2 : decode cJ9_max_7cf53 2 = .ok (.if_icmp .lt 7, 3) := by decide +kernel
theorem dJ9_max_7cf53_5 : decode cJ9_max_7cf53 5 = .ok (.iload_n 0, 1) := by decide +kernel
theorem dJ9_max_7cf53_6 : decode cJ9_max_7cf53 6 = .ok (.goto 4, 3) := by decide +kernel
theorem dJ9_max_7cf53_9 : decode cJ9_max_7cf53 9 = .ok (.iload_n 1, 1) := by decide +kernel
theorem dJ9_max_7cf53_10 : decode cJ9_max_7cf53 10 = .ok (.ireturn, 1) := by decide +kernel
theorem dJ9_min_7cf53_0 : decode cJ9_min_7cf53 0 = .ok (.iload_n 0, 1) := by decide +kernel
theorem dJ9_min_7cf53_1 : decode cJ9_min_7cf53 1 = .ok (.iload_n 1, 1) := by decide +kernel
theorem dJ9_min_7cf53_2 : decode cJ9_min_7cf53 2 = .ok (.if_icmp .gt 7, 3) := by decide +kernel
theorem dJ9_min_7cf53_5 : decode cJ9_min_7cf53 5 = .ok (.iload_n 0, 1) := by decide +kernel
theorem dJ9_min_7cf53_6 : decode cJ9_min_7cf53 6 = .ok (.goto 4, 3) := by decide +kernel
theorem dJ9_min_7cf53_9 : decode cJ9_min_7cf53 9 = .ok (.iload_n 1, 1) := by decide +kernel
theorem dJ9_min_7cf53_10 : decode cJ9_min_7cf53 10 = .ok (.ireturn, 1) := by decide +kernel
end
section
theorem dX0_init_0 : decode cX0_init 0 = .ok (.aload_n 0, 1) := by decide +kernel
theorem dX0_init_1 : decode cX0_init 1 = .ok (.invokespecial 3, 3) := by decide +kernel
theorem dX0_init_4 : decode cX0_init 4 = .ok (.aload_n 0, 1) := by decide +kernel
theorem dX0_init_5 : decode cX0_init 5 = .ok (.bipush 8, 2) := by decide +kernel
theorem dX0_init_7 : decode cX0_init 7 = .ok (.newarray .int, 2) := by decide +kernel
theorem dX0_init_9 : decode cX0_init 9 = .ok (.putfield 9, 3) := by decide +kernel
theorem dX0_init_12 : decode cX0_init 12 = .ok (.return_, 1) := by decide +kernel
theorem dX0_isOpen_0 : decode cX0_isOpen 0 = .ok (.aload_n 0, 1) := by decide +kernel
theorem dX0_isOpen_1 : decode cX0_isOpen 1 = .ok (.getfield 15, 3) := by decide +kernel
theorem dX0_isOpen_4 : decode cX0_isOpen 4 = .ok (.ifCond .le 7, 3) := by decide +kernel
theorem dX0_isOpen_7 : decode cX0_isOpen 7 = .ok (.iconst 1, 1) := by decide +kernel
theorem dX0_isOpen_8 : decode cX0_isOpen 8 = .ok (.goto 4, 3) := by decide +kernel
theorem dX0_isOpen_11 : decode cX0_isOpen 11 = .ok (.iconst 0, 1) := by decide +kernel
theorem dX0_isOpen_12 : decode cX0_isOpen 12 = .ok (.ireturn, 1) := by decide +kernel
theorem dX0_hasYear_0 : decode cX0_hasYear 0 = .ok (.iload_n 1, 1) := by decide +kernel
theorem dX0_hasYear_1 : decode cX0_hasYear 1 = .ok (.iconst 1, 1) := by decide +kernel
theorem dX0_hasYear_2 : decode cX0_hasYear 2 = .ok (.aload_n 0, 1) := by decide +kernel
theorem dX0_hasYear_3 : decode cX0_hasYear 3 = .ok (.getfield 15, 3) := by decide +kernel
theorem dX0_hasYear_6 : decode cX0_hasYear 6 = .ok (.invokestatic 19, 3) := by decide +kernel
theorem dX0_hasYear_9 : decode cX0_hasYear 9 = .ok (.ireturn, 1) := by decide +kernel
theorem dX0_begin_0 : decode cX0_begin 0 = .ok (.aload_n 0, 1) := by decide +kernel
theorem dX0_begin_1 : decode cX0_begin 1 = .ok (.iload_n 1, 1) := by decide +kernel
theorem dX0_begin_2 : decode cX0_begin 2 = .ok (.putfield 23, 3) := by decide +kernel
theorem dX0_begin_5 : decode cX0_begin 5 = .ok (.aload_n 0, 1) := by decide +kernel
theorem dX0_begin_6 : decode cX0_begin 6 = .ok (.iload_n 2, 1) := by decide +kernel
theorem dX0_begin_7 : decode cX0_begin 7 = .ok (.putfield 15, 3) := by decide +kernel
theorem dX0_begin_10 : decode cX0_begin 10 = .ok (.iconst 0, 1) := by decide +kernel
theorem dX0_begin_11 : decode cX0_begin 11 = .ok (.istore_n 3, 1) := by decide +kernel
theorem dX0_begin_12 : decode cX0_begin 12 = .ok (.iload_n 3, 1) := by decide +kernel
theorem dX0_begin_13 : decode cX0_begin 13 = .ok (.bipush 7, 2) := by decide +kernel
theorem dX0_begin_15 : decode cX0_begin 15 = .ok (.if_icmp .gt 16, 3) := by decide +kernel
theorem dX0_begin_18 : decode cX0_begin 18 = .ok (.aload_n 0, 1) := by decide +kernel
theorem dX0_begin_19 : decode cX0_begin 19 = .ok (.getfield 9, 3) := by decide +kernel
theorem dX0_begin_22 : decode cX0_begin 22 = .ok (.iload_n 3, 1) := by decide +kernel
theorem dX0_begin_23 : decode cX0_begin 23 = .ok (.iconst (-1), 1) := by decide +kernel
theorem dX0_begin_24 : decode cX0_begin 24 = .ok (.iastore, 1) := by decide +kernel
theorem dX0_begin_25 : decode cX0_begin 25 = .ok (.iinc 3 1, 3) := by decide +kernel
theorem dX0_begin_28 : decode cX0_begin 28 = .ok (.goto (-16), 3) := by decide +kernel
theorem dX0_begin_31 : decode cX0_begin 31 = .ok (.return_, 1) := by decide +kernel
theorem dX0_fillings_0 : decode cX0_fillings 0 = .ok (.aload_n 2, 1) := by decide +kernel
theorem dX0_fillings_1 : decode cX0_fillings 1 = .ok (.iconst (-1), 1) := by decide +kernel
theorem dX0_fillings_2 : decode cX0_fillings 2 = .ok (.aload_n 0, 1) := by decide +kernel
theorem dX0_fillings_3 : decode cX0_fillings 3 = .ok (.getfield 23, 3) := by decide +kernel
theorem dX0_fillings_6 : decode cX0_fillings 6 = .ok (.invokevirtual 26, 3) := by decide +kernel
theorem dX0_fillings_9 : decode cX0_fillings 9 = .ok (.iconst 1, 1) := by decide +kernel
theorem dX0_fillings_10 : decode cX0_fillings 10 = .ok (.istore_n 3, 1) := by decide +kernel
theorem dX0_fillings_11 : decode cX0_fillings 11 = .ok (.iload_n 3, 1) := by decide +kernel
theorem dX0_fillings_12 : decode cX0_fillings 12 = .ok (.aload_n 0, 1) := by decide +kernel
theorem dX0_fillings_13 : decode cX0_fillings 13 = .ok (.getfield 15, 3) := by decide +kernel
theorem dX0_fillings_16 : decode cX0_fillings 16 = .ok (.if_icmp .gt 41, 3) := by decide +kernel
theorem dX0_fillings_19 : decode cX0_fillings 19 = .ok (.aload_n 2, 1) := by decide +kernel
theorem dX0_fillings_20 : decode cX0_fillings 20 = .ok (.aload_n 1, 1) := by decide +kernel
theorem dX0_fillings_21 : decode cX0_fillings 21 = .ok (.iconst 0, 1) := by decide +kernel
theorem dX0_fillings_22 : decode cX0_fillings 22 = .ok (.aload_n 0, 1) := by decide +kernel
theorem dX0_fillings_23 : decode cX0_fillings 23 = .ok (.getfield 23, 3) := by decide +kernel
theorem dX0_fillings_26 : decode cX0_fillings 26 = .ok (.iconst 0, 1) := by decide +kernel
theorem dX0_fillings_27 : decode cX0_fillings 27 = .ok (.invokevirtual 32, 3) := by decide +kernel
theorem dX0_fillings_30 : decode cX0_fillings 30 = .ok (.pop2, 1) := by decide +kernel
theorem dX0_fillings_31 : decode cX0_fillings 31 = .ok (.aload_n 0, 1) := by decide +kernel
theorem dX0_fillings_32 : decode cX0_fillings 32 = .ok (.getfield 9, 3) := by decide +kernel
theorem dX0_fillings_35 : decode cX0_fillings 35 = .ok (.iload_n 3, 1) := by decide +kernel
theorem dX0_fillings_36 : decode cX0_fillings 36 = .ok (.iaload, 1) := by decide +kernel
theorem dX0_fillings_37 : decode cX0_fillings 37 = .ok (.iconst (-1), 1) := by decide +kernel
theorem dX0_fillings_38 : decode cX0_fillings 38 = .ok (.if_icmp .eq 13, 3) := by decide +kernel
theorem dX0_fillings_41 : decode cX0_fillings 41 = .ok (.aload_n 2, 1) := by decide +kernel
theorem dX0_fillings_42 : decode cX0_fillings 42 = .ok (.aload_n 0, 1) := by decide +kernel
theorem dX0_fillings_43 : decode cX0_fillings 43 = .ok (.getfield 9, 3) := by decide +kernel
theorem dX0_fillings_46 : decode cX0_fillings 46 = .ok (.iload_n 3, 1) := by decide +kernel
theorem dX0_fillings_47 : decode cX0_fillings 47 = .ok (.iaload, 1) := by decide +kernel
theorem dX0_fillings_48 : decode cX0_fillings 48 = .ok (.invokevirtual 36, 3) := by decide +kernel
theorem dX0_fillings_51 : decode cX0_fillings 51 = .ok (.iinc 3 1, 3) := by decide +kernel
theorem dX0_fillings_54 : decode cX0_fillings 54 = .ok (.goto (-43), 3) := by decide +kernel
theorem dX0_fillings_57 : decode cX0_fillings 57 = .ok (.aload_n 2, 1) := by decide +kernel
theorem dX0_fillings_58 : decode cX0_fillings 58 = .ok (.invokevirtual 40, 3) := by decide +kernel
theorem dX0_fillings_61 : decode cX0_fillings 61 = .ok (.l2i, 1) := by decide +kernel
theorem dX0_fillings_62 : decode cX0_fillings 62 = .ok (.ireturn, 1) := by decide +kernel
theorem dX0_onlyOneIn_0 : decode cX0_onlyOneIn 0 = .ok (.aload_n 0, 1) := by decide +kernel
theorem dX0_onlyOneIn_1 : decode cX0_onlyOneIn 1 = .ok (.getfield 9, 3) := by decide +kernel
theorem dX0_onlyOneIn_4 : decode cX0_onlyOneIn 4 = .ok (.iload_n 1, 1) := by decide +kernel
theorem dX0_onlyOneIn_5 : decode cX0_onlyOneIn 5 = .ok (.iaload, 1) := by decide +kernel
theorem dX0_onlyOneIn_6 : decode cX0_onlyOneIn 6 = .ok (.istore 4, 2) := by decide +kernel
theorem dX0_onlyOneIn_8 : decode cX0_onlyOneIn 8 = .ok (.iconst (-1), 1) := by decide +kernel
theorem dX0_onlyOneIn_9 : decode cX0_onlyOneIn 9 = .ok (.istore 5, 2) := by decide +kernel
theorem dX0_onlyOneIn_11 : decode cX0_onlyOneIn 11 = .ok (.iconst 0, 1) := by decide +kernel
theorem dX0_onlyOneIn_12 : decode cX0_onlyOneIn 12 = .ok (.istore 6, 2) := by decide +kernel
theorem dX0_onlyOneIn_14 : decode cX0_onlyOneIn 14 = .ok (.iconst 0, 1) := by decide +kernel
theorem dX0_onlyOneIn_15 : decode cX0_onlyOneIn 15 = .ok (.istore 7, 2) := by decide +kernel
theorem dX0_onlyOneIn_17 : decode cX0_onlyOneIn 17 = .ok (.iload 7, 2) := by decide +kernel
theorem dX0_onlyOneIn_19 : decode cX0_onlyOneIn 19 = .ok (.aload_n 2, 1) := by decide +kernel
theorem dX0_onlyOneIn_20 : decode cX0_onlyOneIn 20 = .ok (.getfield 44, 3) := by decide +kernel
theorem dX0_onlyOneIn_23 : decode cX0_onlyOneIn 23 = .ok (.if_icmp .ge 49, 3) := by decide +kernel
theorem dX0_onlyOneIn_26 : decode cX0_onlyOneIn 26 = .ok (.iload 4, 2) := by decide +kernel
theorem dX0_onlyOneIn_28 : decode cX0_onlyOneIn 28 = .ok (.iconst (-1), 1) := by decide +kernel
theorem dX0_onlyOneIn_29 : decode cX0_onlyOneIn 29 = .ok (.if_icmp .eq 13, 3) := by decide +kernel
theorem dX0_onlyOneIn_32 : decode cX0_onlyOneIn 32 = .ok (.iload 4, 2) := by decide +kernel
theorem dX0_onlyOneIn_34 : decode cX0_onlyOneIn 34 = .ok (.iload 7, 2) := by decide +kernel
theorem dX0_onlyOneIn_36 : decode cX0_onlyOneIn 36 = .ok (.if_icmp .eq 6, 3) := by decide +kernel
theorem dX0_onlyOneIn_39 : decode cX0_onlyOneIn 39 = .ok (.goto 27, 3) := by decide +kernel
theorem dX0_onlyOneIn_42 : decode cX0_onlyOneIn 42 = .ok (.aload_n 0, 1) := by decide +kernel
theorem dX0_onlyOneIn_43 : decode cX0_onlyOneIn 43 = .ok (.getfield 9, 3) := by decide +kernel
theorem dX0_onlyOneIn_46 : decode cX0_onlyOneIn 46 = .ok (.iload_n 1, 1) := by decide +kernel
theorem dX0_onlyOneIn_47 : decode cX0_onlyOneIn 47 = .ok (.iload 7, 2) := by decide +kernel
theorem dX0_onlyOneIn_49 : decode cX0_onlyOneIn 49 = .ok (.iastore, 1) := by decide +kernel
theorem dX0_onlyOneIn_50 : decode cX0_onlyOneIn 50 = .ok (.aload_n 0, 1) := by decide +kernel
theorem dX0_onlyOneIn_51 : decode cX0_onlyOneIn 51 = .ok (.aload_n 2, 1) := by decide +kernel
theorem dX0_onlyOneIn_52 : decode cX0_onlyOneIn 52 = .ok (.aload_n 3, 1) := by decide +kernel
theorem dX0_onlyOneIn_53 : decode cX0_onlyOneIn 53 = .ok (.invokevirtual 49, 3) := by decide +kernel
theorem dX0_onlyOneIn_56 : decode cX0_onlyOneIn 56 = .ok (.ifCond .le 10, 3) := by decide +kernel
theorem dX0_onlyOneIn_59 : decode cX0_onlyOneIn 59 = .ok (.iload 7, 2) := by decide +kernel
theorem dX0_onlyOneIn_61 : decode cX0_onlyOneIn 61 = .ok (.istore 5, 2) := by decide +kernel
theorem dX0_onlyOneIn_63 : decode cX0_onlyOneIn 63 = .ok (.iinc 6 1, 3) := by decide +kernel
theorem dX0_onlyOneIn_66 : decode cX0_onlyOneIn 66 = .ok (.iinc 7 1, 3) := by decide +kernel
theorem dX0_onlyOneIn_69 : decode cX0_onlyOneIn 69 = .ok (.goto (-52), 3) := by decide +kernel
theorem dX0_onlyOneIn_72 : decode cX0_onlyOneIn 72 = .ok (.aload_n 0, 1) := by decide +kernel
theorem dX0_onlyOneIn_73 : decode cX0_onlyOneIn 73 = .ok (.getfield 9, 3) := by decide +kernel
theorem dX0_onlyOneIn_76 : decode cX0_onlyOneIn 76 = .ok (.iload_n 1, 1) := by decide +kernel
theorem dX0_onlyOneIn_77 : decode cX0_onlyOneIn 77 = .ok (.iload 4, 2) := by decide +kernel
theorem dX0_onlyOneIn_79 : decode cX0_onlyOneIn 79 = .ok (.iastore, 1) := by decide +kernel
theorem dX0_onlyOneIn_80 : decode cX0_onlyOneIn 80 = .ok (.iload 6, 2) := by decide +kernel
theorem dX0_onlyOneIn_82 : decode cX0_onlyOneIn 82 = .ok (.iconst 1, 1) := by decide +kernel
theorem dX0_onlyOneIn_83 : decode cX0_onlyOneIn 83 = .ok (.if_icmp .ne 8, 3) := by decide +kernel
theorem dX0_onlyOneIn_86 : decode cX0_onlyOneIn 86 = .ok (.iload 5, 2) := by decide +kernel
theorem dX0_onlyOneIn_88 : decode cX0_onlyOneIn 88 = .ok (.goto 4, 3) := by decide +kernel
theorem dX0_onlyOneIn_91 : decode cX0_onlyOneIn 91 = .ok (.iconst (-1), 1) := by decide +kernel
theorem dX0_onlyOneIn_92 : decode cX0_onlyOneIn 92 = .ok (.ireturn, 1) := by decide +kernel
theorem dX1_init_0 : decode cX1_init 0 = .ok (.aload_n 0, 1) := by decide +kernel
theorem dX1_init_1 : decode cX1_init 1 = .ok (.invokespecial 3, 3) := by decide +kernel
theorem dX1_init_4 : decode cX1_init 4 = .ok (.aload_n 0, 1) := by decide +kernel
theorem dX1_init_5 : decode cX1_init 5 = .ok (.sipush 256, 3) := by decide +kernel
theorem dX1_init_8 : decode cX1_init 8 = .ok (.newarray .int, 2) := by decide +kernel
theorem dX1_init_10 : decode cX1_init 10 = .ok (.putfield 11, 3) := by decide +kernel
theorem dX1_init_13 : decode cX1_init 13 = .ok (.aload_n 0, 1) := by decide +kernel
theorem dX1_init_14 : decode cX1_init 14 = .ok (.bipush 8, 2) := by decide +kernel
theorem dX1_init_16 : decode cX1_init 16 = .ok (.newarray .int, 2) := by decide +kernel
theorem dX1_init_18 : decode cX1_init 18 = .ok (.putfield 15, 3) := by decide +kernel
theorem dX1_init_21 : decode cX1_init 21 = .ok (.return_, 1) := by decide +kernel
theorem dX1_find_0 : decode cX1_find 0 = .ok (.iconst 1, 1) := by decide +kernel
theorem dX1_find_1 : decode cX1_find 1 = .ok (.aload_n 1, 1) := by decide +kernel
theorem dX1_find_2 : decode cX1_find 2 = .ok (.getfield 18, 3) := by decide +kernel
theorem dX1_find_5 : decode cX1_find 5 = .ok (.ishl, 1) := by decide +kernel
theorem dX1_find_6 : decode cX1_find 6 = .ok (.iconst 1, 1) := by decide +kernel
theorem dX1_find_7 : decode cX1_find 7 = .ok (.isub, 1) := by decide +kernel
theorem dX1_find_8 : decode cX1_find 8 = .ok (.istore_n 2, 1) := by decide +kernel
theorem dX1_find_9 : decode cX1_find 9 = .ok (.aload_n 0, 1) := by decide +kernel
theorem dX1_find_10 : decode cX1_find 10 = .ok (.getfield 11, 3) := by decide +kernel
theorem dX1_find_13 : decode cX1_find 13 = .ok (.iload_n 2, 1) := by decide +kernel
theorem dX1_find_14 : decode cX1_find 14 = .ok (.iconst 0, 1) := by decide +kernel
theorem dX1_find_15 : decode cX1_find 15 = .ok (.iastore, 1) := by decide +kernel
theorem dX1_find_16 : decode cX1_find 16 = .ok (.iload_n 2, 1) := by decide +kernel
theorem dX1_find_17 : decode cX1_find 17 = .ok (.iconst 1, 1) := by decide +kernel
theorem dX1_find_18 : decode cX1_find 18 = .ok (.isub, 1) := by decide +kernel
theorem dX1_find_19 : decode cX1_find 19 = .ok (.istore_n 3, 1) := by decide +kernel
theorem dX1_find_20 : decode cX1_find 20 = .ok (.iload_n 3, 1) := by decide +kernel
theorem dX1_find_21 : decode cX1_find 21 = .ok (.ifCond .lt 21, 3) := by decide +kernel
theorem dX1_find_24 : decode cX1_find 24 = .ok (.aload_n 0, 1) := by decide +kernel
theorem dX1_find_25 : decode cX1_find 25 = .ok (.getfield 11, 3) := by decide +kernel
theorem dX1_find_28 : decode cX1_find 28 = .ok (.iload_n 3, 1) := by decide +kernel
theorem dX1_find_29 : decode cX1_find 29 = .ok (.aload_n 0, 1) := by decide +kernel
theorem dX1_find_30 : decode cX1_find 30 = .ok (.aload_n 1, 1) := by decide +kernel
theorem dX1_find_31 : decode cX1_find 31 = .ok (.iload_n 3, 1) := by decide +kernel
theorem dX1_find_32 : decode cX1_find 32 = .ok (.invokevirtual 24, 3) := by decide +kernel
theorem dX1_find_35 : decode cX1_find 35 = .ok (.iastore, 1) := by decide +kernel
theorem dX1_find_36 : decode cX1_find 36 = .ok (.iinc 3 (-1), 3) := by decide +kernel
theorem dX1_find_39 : decode cX1_find 39 = .ok (.goto (-19), 3) := by decide +kernel
theorem dX1_find_42 : decode cX1_find 42 = .ok (.iconst 0, 1) := by decide +kernel
theorem dX1_find_43 : decode cX1_find 43 = .ok (.istore_n 3, 1) := by decide +kernel
theorem dX1_find_44 : decode cX1_find 44 = .ok (.iconst 0, 1) := by decide +kernel
theorem dX1_find_45 : decode cX1_find 45 = .ok (.istore 4, 2) := by decide +kernel
theorem dX1_find_47 : decode cX1_find 47 = .ok (.iload 4, 2) := by decide +kernel
theorem dX1_find_49 : decode cX1_find 49 = .ok (.bipush 8, 2) := by decide +kernel
theorem dX1_find_51 : decode cX1_find 51 = .ok (.if_icmp .ge 48, 3) := by decide +kernel
theorem dX1_find_54 : decode cX1_find 54 = .ok (.aload_n 0, 1) := by decide +kernel
theorem dX1_find_55 : decode cX1_find 55 = .ok (.getfield 15, 3) := by decide +kernel
theorem dX1_find_58 : decode cX1_find 58 = .ok (.iload 4, 2) := by decide +kernel
theorem dX1_find_60 : decode cX1_find 60 = .ok (.iload 4, 2) := by decide +kernel
theorem dX1_find_62 : decode cX1_find 62 = .ok (.aload_n 1, 1) := by decide +kernel
theorem dX1_find_63 : decode cX1_find 63 = .ok (.getfield 18, 3) := by decide +kernel
theorem dX1_find_66 : decode cX1_find 66 = .ok (.if_icmp .ge 12, 3) := by decide +kernel
theorem dX1_find_69 : decode cX1_find 69 = .ok (.aload_n 0, 1) := by decide +kernel
theorem dX1_find_70 : decode cX1_find 70 = .ok (.aload_n 1, 1) := by decide +kernel
theorem dX1_find_71 : decode cX1_find 71 = .ok (.iload_n 3, 1) := by decide +kernel
theorem dX1_find_72 : decode cX1_find 72 = .ok (.invokevirtual 28, 3) := by decide +kernel
theorem dX1_find_75 : decode cX1_find 75 = .ok (.goto 4, 3) := by decide +kernel
theorem dX1_find_78 : decode cX1_find 78 = .ok (.iconst (-1), 1) := by decide +kernel
theorem dX1_find_79 : decode cX1_find 79 = .ok (.iastore, 1) := by decide +kernel
theorem dX1_find_80 : decode cX1_find 80 = .ok (.iload_n 3, 1) := by decide +kernel
theorem dX1_find_81 : decode cX1_find 81 = .ok (.aload_n 0, 1) := by decide +kernel
theorem dX1_find_82 : decode cX1_find 82 = .ok (.getfield 15, 3) := by decide +kernel
theorem dX1_find_85 : decode cX1_find 85 = .ok (.iload 4, 2) := by decide +kernel
theorem dX1_find_87 : decode cX1_find 87 = .ok (.iaload, 1) := by decide +kernel
theorem dX1_find_88 : decode cX1_find 88 = .ok (.invokestatic 31, 3) := by decide +kernel
theorem dX1_find_91 : decode cX1_find 91 = .ok (.ior, 1) := by decide +kernel
theorem dX1_find_92 : decode cX1_find 92 = .ok (.istore_n 3, 1) := by decide +kernel
theorem dX1_find_93 : decode cX1_find 93 = .ok (.iinc 4 1, 3) := by decide +kernel
theorem dX1_find_96 : decode cX1_find 96 = .ok (.goto (-49), 3) := by decide +kernel
theorem dX1_find_99 : decode cX1_find 99 = .ok (.return_, 1) := by decide +kernel
theorem dX1_mostBehind_0 : decode cX1_mostBehind 0 = .ok (.iconst (-1), 1) := by decide +kernel
theorem dX1_mostBehind_1 : decode cX1_mostBehind 1 = .ok (.istore_n 3, 1) := by decide +kernel
theorem dX1_mostBehind_2 : decode cX1_mostBehind 2 = .ok (.iconst 0, 1) := by decide +kernel
theorem dX1_mostBehind_3 : decode cX1_mostBehind 3 = .ok (.istore 4, 2) := by decide +kernel
theorem dX1_mostBehind_5 : decode cX1_mostBehind 5 = .ok (.iload 4, 2) := by decide +kernel
theorem dX1_mostBehind_7 : decode cX1_mostBehind 7 = .ok (.aload_n 1, 1) := by decide +kernel
theorem dX1_mostBehind_8 : decode cX1_mostBehind 8 = .ok (.getfield 18, 3) := by decide +kernel
theorem dX1_mostBehind_11 : decode cX1_mostBehind 11 = .ok (.if_icmp .ge 22, 3) := by decide +kernel
theorem dX1_mostBehind_14 : decode cX1_mostBehind 14 = .ok (.iload_n 3, 1) := by decide +kernel
theorem dX1_mostBehind_15 : decode cX1_mostBehind 15 = .ok (.aload_n 0, 1) := by decide +kernel
theorem dX1_mostBehind_16 : decode cX1_mostBehind 16 = .ok (.aload_n 1, 1) := by decide +kernel
theorem dX1_mostBehind_17 : decode cX1_mostBehind 17 = .ok (.iload_n 2, 1) := by decide +kernel
theorem dX1_mostBehind_18 : decode cX1_mostBehind 18 = .ok (.iload 4, 2) := by decide +kernel
theorem dX1_mostBehind_20 : decode cX1_mostBehind 20 = .ok (.invokevirtual 35, 3) := by decide +kernel
theorem dX1_mostBehind_23 : decode cX1_mostBehind 23 = .ok (.invokestatic 39, 3) := by decide +kernel
theorem dX1_mostBehind_26 : decode cX1_mostBehind 26 = .ok (.istore_n 3, 1) := by decide +kernel
theorem dX1_mostBehind_27 : decode cX1_mostBehind 27 = .ok (.iinc 4 1, 3) := by decide +kernel
theorem dX1_mostBehind_30 : decode cX1_mostBehind 30 = .ok (.goto (-25), 3) := by decide +kernel
theorem dX1_mostBehind_33 : decode cX1_mostBehind 33 = .ok (.iload_n 3, 1) := by decide +kernel
theorem dX1_mostBehind_34 : decode cX1_mostBehind 34 = .ok (.ireturn, 1) := by decide +kernel
theorem dX1_firstOfMost_0 : decode cX1_firstOfMost 0 = .ok (.aload_n 0, 1) := by decide +kernel
theorem dX1_firstOfMost_1 : decode cX1_firstOfMost 1 = .ok (.invokevirtual 45, 3) := by decide +kernel
theorem dX1_firstOfMost_4 : decode cX1_firstOfMost 4 = .ok (.ifCond .ne 5, 3) := by decide +kernel
theorem dX1_firstOfMost_7 : decode cX1_firstOfMost 7 = .ok (.iconst (-1), 1) := by decide +kernel
theorem dX1_firstOfMost_8 : decode cX1_firstOfMost 8 = .ok (.ireturn, 1) := by decide +kernel
theorem dX1_firstOfMost_9 : decode cX1_firstOfMost 9 = .ok (.iconst 0, 1) := by decide +kernel
theorem dX1_firstOfMost_10 : decode cX1_firstOfMost 10 = .ok (.istore_n 3, 1) := by decide +kernel
theorem dX1_firstOfMost_11 : decode cX1_firstOfMost 11 = .ok (.iload_n 3, 1) := by decide +kernel
theorem dX1_firstOfMost_12 : decode cX1_firstOfMost 12 = .ok (.aload_n 1, 1) := by decide +kernel
theorem dX1_firstOfMost_13 : decode cX1_firstOfMost 13 = .ok (.getfield 18, 3) := by decide +kernel
theorem dX1_firstOfMost_16 : decode cX1_firstOfMost 16 = .ok (.if_icmp .ge 37, 3) := by decide +kernel
theorem dX1_firstOfMost_19 : decode cX1_firstOfMost 19 = .ok (.aload_n 0, 1) := by decide +kernel
theorem dX1_firstOfMost_20 : decode cX1_firstOfMost 20 = .ok (.aload_n 1, 1) := by decide +kernel
theorem dX1_firstOfMost_21 : decode cX1_firstOfMost 21 = .ok (.iload_n 2, 1) := by decide +kernel
theorem dX1_firstOfMost_22 : decode cX1_firstOfMost 22 = .ok (.iload_n 3, 1) := by decide +kernel
theorem dX1_firstOfMost_23 : decode cX1_firstOfMost 23 = .ok (.invokevirtual 35, 3) := by decide +kernel
theorem dX1_firstOfMost_26 : decode cX1_firstOfMost 26 = .ok (.istore 4, 2) := by decide +kernel
theorem dX1_firstOfMost_28 : decode cX1_firstOfMost 28 = .ok (.iload 4, 2) := by decide +kernel
theorem dX1_firstOfMost_30 : decode cX1_firstOfMost 30 = .ok (.iconst (-1), 1) := by decide +kernel
theorem dX1_firstOfMost_31 : decode cX1_firstOfMost 31 = .ok (.if_icmp .eq 16, 3) := by decide +kernel
theorem dX1_firstOfMost_34 : decode cX1_firstOfMost 34 = .ok (.iload 4, 2) := by decide +kernel
theorem dX1_firstOfMost_36 : decode cX1_firstOfMost 36 = .ok (.aload_n 0, 1) := by decide +kernel
theorem dX1_firstOfMost_37 : decode cX1_firstOfMost 37 = .ok (.getfield 11, 3) := by decide +kernel
theorem dX1_firstOfMost_40 : decode cX1_firstOfMost 40 = .ok (.iload_n 2, 1) := by decide +kernel
theorem dX1_firstOfMost_41 : decode cX1_firstOfMost 41 = .ok (.iaload, 1) := by decide +kernel
theorem dX1_firstOfMost_42 : decode cX1_firstOfMost 42 = .ok (.if_icmp .ne 5, 3) := by decide +kernel
theorem dX1_firstOfMost_45 : decode cX1_firstOfMost 45 = .ok (.iload_n 3, 1) := by decide +kernel
theorem dX1_firstOfMost_46 : decode cX1_firstOfMost 46 = .ok (.ireturn, 1) := by decide +kernel
theorem dX1_firstOfMost_47 : decode cX1_firstOfMost 47 = .ok (.iinc 3 1, 3) := by decide +kernel
theorem dX1_firstOfMost_50 : decode cX1_firstOfMost 50 = .ok (.goto (-39), 3) := by decide +kernel
theorem dX1_firstOfMost_53 : decode cX1_firstOfMost 53 = .ok (.iconst (-1), 1) := by decide +kernel
theorem dX1_firstOfMost_54 : decode cX1_firstOfMost 54 = .ok (.ireturn, 1) := by decide +kernel
theorem dX1_mostBy_0 : decode cX1_mostBy 0 = .ok (.iload_n 2, 1) := by decide +kernel
theorem dX1_mostBy_1 : decode cX1_mostBy 1 = .ok (.invokestatic 49, 3) := by decide +kernel
theorem dX1_mostBy_4 : decode cX1_mostBy 4 = .ok (.istore 4, 2) := by decide +kernel
theorem dX1_mostBy_6 : decode cX1_mostBy 6 = .ok (.iload_n 2, 1) := by decide +kernel
theorem dX1_mostBy_7 : decode cX1_mostBy 7 = .ok (.iload_n 3, 1) := by decide +kernel
theorem dX1_mostBy_8 : decode cX1_mostBy 8 = .ok (.invokestatic 31, 3) := by decide +kernel
theorem dX1_mostBy_11 : decode cX1_mostBy 11 = .ok (.iand, 1) := by decide +kernel
theorem dX1_mostBy_12 : decode cX1_mostBy 12 = .ok (.ifCond .ne 13, 3) := by decide +kernel
theorem dX1_mostBy_15 : decode cX1_mostBy 15 = .ok (.aload_n 1, 1) := by decide +kernel
theorem dX1_mostBy_16 : decode cX1_mostBy 16 = .ok (.iload 4, 2) := by decide +kernel
theorem dX1_mostBy_18 : decode cX1_mostBy 18 = .ok (.iload_n 3, 1) := by decide +kernel
theorem dX1_mostBy_19 : decode cX1_mostBy 19 = .ok (.invokevirtual 54, 3) := by decide +kernel
theorem dX1_mostBy_22 : decode cX1_mostBy 22 = .ok (.ifCond .ne 5, 3) := by decide +kernel
theorem dX1_mostBy_25 : decode cX1_mostBy 25 = .ok (.iconst (-1), 1) := by decide +kernel
theorem dX1_mostBy_26 : decode cX1_mostBy 26 = .ok (.ireturn, 1) := by decide +kernel
theorem dX1_mostBy_27 : decode cX1_mostBy 27 = .ok (.aload_n 0, 1) := by decide +kernel
theorem dX1_mostBy_28 : decode cX1_mostBy 28 = .ok (.getfield 11, 3) := by decide +kernel
theorem dX1_mostBy_31 : decode cX1_mostBy 31 = .ok (.iload_n 2, 1) := by decide +kernel
theorem dX1_mostBy_32 : decode cX1_mostBy 32 = .ok (.iload_n 3, 1) := by decide +kernel
theorem dX1_mostBy_33 : decode cX1_mostBy 33 = .ok (.invokestatic 31, 3) := by decide +kernel
theorem dX1_mostBy_36 : decode cX1_mostBy 36 = .ok (.ior, 1) := by decide +kernel
theorem dX1_mostBy_37 : decode cX1_mostBy 37 = .ok (.iaload, 1) := by decide +kernel
theorem dX1_mostBy_38 : decode cX1_mostBy 38 = .ok (.istore 5, 2) := by decide +kernel
theorem dX1_mostBy_40 : decode cX1_mostBy 40 = .ok (.iload 5, 2) := by decide +kernel
theorem dX1_mostBy_42 : decode cX1_mostBy 42 = .ok (.iconst (-1), 1) := by decide +kernel
theorem dX1_mostBy_43 : decode cX1_mostBy 43 = .ok (.if_icmp .ne 7, 3) := by decide +kernel
theorem dX1_mostBy_46 : decode cX1_mostBy 46 = .ok (.iconst (-1), 1) := by decide +kernel
theorem dX1_mostBy_47 : decode cX1_mostBy 47 = .ok (.goto 17, 3) := by decide +kernel
theorem dX1_mostBy_50 : decode cX1_mostBy 50 = .ok (.iload 5, 2) := by decide +kernel
theorem dX1_mostBy_52 : decode cX1_mostBy 52 = .ok (.aload_n 1, 1) := by decide +kernel
theorem dX1_mostBy_53 : decode cX1_mostBy 53 = .ok (.getfield 58, 3) := by decide +kernel
theorem dX1_mostBy_56 : decode cX1_mostBy 56 = .ok (.iload 4, 2) := by decide +kernel
theorem dX1_mostBy_58 : decode cX1_mostBy 58 = .ok (.iload_n 3, 1) := by decide +kernel
theorem dX1_mostBy_59 : decode cX1_mostBy 59 = .ok (.invokestatic 61, 3) := by decide +kernel
theorem dX1_mostBy_62 : decode cX1_mostBy 62 = .ok (.iaload, 1) := by decide +kernel
theorem dX1_mostBy_63 : decode cX1_mostBy 63 = .ok (.iadd, 1) := by decide +kernel
theorem dX1_mostBy_64 : decode cX1_mostBy 64 = .ok (.ireturn, 1) := by decide +kernel
theorem dX1_isThere_0 : decode cX1_isThere 0 = .ok (.aload_n 0, 1) := by decide +kernel
theorem dX1_isThere_1 : decode cX1_isThere 1 = .ok (.getfield 11, 3) := by decide +kernel
theorem dX1_isThere_4 : decode cX1_isThere 4 = .ok (.iconst 0, 1) := by decide +kernel
theorem dX1_isThere_5 : decode cX1_isThere 5 = .ok (.iaload, 1) := by decide +kernel
theorem dX1_isThere_6 : decode cX1_isThere 6 = .ok (.iconst (-1), 1) := by decide +kernel
theorem dX1_isThere_7 : decode cX1_isThere 7 = .ok (.if_icmp .eq 7, 3) := by decide +kernel
theorem dX1_isThere_10 : decode cX1_isThere 10 = .ok (.iconst 1, 1) := by decide +kernel
theorem dX1_isThere_11 : decode cX1_isThere 11 = .ok (.goto 4, 3) := by decide +kernel
theorem dX1_isThere_14 : decode cX1_isThere 14 = .ok (.iconst 0, 1) := by decide +kernel
theorem dX1_isThere_15 : decode cX1_isThere 15 = .ok (.ireturn, 1) := by decide +kernel
theorem dX1_likingTogether_0 : decode cX1_likingTogether 0 = .ok (.aload_n 0, 1) := by decide +kernel
theorem dX1_likingTogether_1 : decode cX1_likingTogether 1 = .ok (.getfield 11, 3) := by decide +kernel
theorem dX1_likingTogether_4 : decode cX1_likingTogether 4 = .ok (.iconst 0, 1) := by decide +kernel
theorem dX1_likingTogether_5 : decode cX1_likingTogether 5 = .ok (.iaload, 1) := by decide +kernel
theorem dX1_likingTogether_6 : decode cX1_likingTogether 6 = .ok (.ireturn, 1) := by decide +kernel
theorem dX2_init_0 : decode cX2_init 0 = .ok (.aload_n 0, 1) := by decide +kernel
theorem dX2_init_1 : decode cX2_init 1 = .ok (.invokespecial 3, 3) := by decide +kernel
theorem dX2_init_4 : decode cX2_init 4 = .ok (.return_, 1) := by decide +kernel
theorem dX2_oneOf_0 : decode cX2_oneOf 0 = .ok (.iload_n 1, 1) := by decide +kernel
theorem dX2_oneOf_1 : decode cX2_oneOf 1 = .ok (.invokestatic 9, 3) := by decide +kernel
theorem dX2_oneOf_4 : decode cX2_oneOf 4 = .ok (.istore_n 2, 1) := by decide +kernel
theorem dX2_oneOf_5 : decode cX2_oneOf 5 = .ok (.iload_n 2, 1) := by decide +kernel
theorem dX2_oneOf_6 : decode cX2_oneOf 6 = .ok (.ifCond .ne 5, 3) := by decide +kernel
theorem dX2_oneOf_9 : decode cX2_oneOf 9 = .ok (.iconst (-1), 1) := by decide +kernel
theorem dX2_oneOf_10 : decode cX2_oneOf 10 = .ok (.ireturn, 1) := by decide +kernel
theorem dX2_oneOf_11 : decode cX2_oneOf 11 = .ok (.aload_n 0, 1) := by decide +kernel
theorem dX2_oneOf_12 : decode cX2_oneOf 12 = .ok (.ldc2_w 15, 3) := by decide +kernel
theorem dX2_oneOf_15 : decode cX2_oneOf 15 = .ok (.aload_n 0, 1) := by decide +kernel
theorem dX2_oneOf_16 : decode cX2_oneOf 16 = .ok (.getfield 17, 3) := by decide +kernel
theorem dX2_oneOf_19 : decode cX2_oneOf 19 = .ok (.lmul, 1) := by decide +kernel
theorem dX2_oneOf_20 : decode cX2_oneOf 20 = .ok (.ldc2_w 23, 3) := by decide +kernel
theorem dX2_oneOf_23 : decode cX2_oneOf 23 = .ok (.ladd, 1) := by decide +kernel
theorem dX2_oneOf_24 : decode cX2_oneOf 24 = .ok (.ldc2_w 25, 3) := by decide +kernel
theorem dX2_oneOf_27 : decode cX2_oneOf 27 = .ok (.land, 1) := by decide +kernel
theorem dX2_oneOf_28 : decode cX2_oneOf 28 = .ok (.putfield 17, 3) := by decide +kernel
theorem dX2_oneOf_31 : decode cX2_oneOf 31 = .ok (.aload_n 0, 1) := by decide +kernel
theorem dX2_oneOf_32 : decode cX2_oneOf 32 = .ok (.getfield 17, 3) := by decide +kernel
theorem dX2_oneOf_35 : decode cX2_oneOf 35 = .ok (.ldc2_w 27, 3) := by decide +kernel
theorem dX2_oneOf_38 : decode cX2_oneOf 38 = .ok (.ldiv, 1) := by decide +kernel
theorem dX2_oneOf_39 : decode cX2_oneOf 39 = .ok (.iload_n 2, 1) := by decide +kernel
theorem dX2_oneOf_40 : decode cX2_oneOf 40 = .ok (.i2l, 1) := by decide +kernel
theorem dX2_oneOf_41 : decode cX2_oneOf 41 = .ok (.lrem, 1) := by decide +kernel
theorem dX2_oneOf_42 : decode cX2_oneOf 42 = .ok (.l2i, 1) := by decide +kernel
theorem dX2_oneOf_43 : decode cX2_oneOf 43 = .ok (.istore_n 3, 1) := by decide +kernel
theorem dX2_oneOf_44 : decode cX2_oneOf 44 = .ok (.iconst 0, 1) := by decide +kernel
theorem dX2_oneOf_45 : decode cX2_oneOf 45 = .ok (.istore 4, 2) := by decide +kernel
theorem dX2_oneOf_47 : decode cX2_oneOf 47 = .ok (.iload 4, 2) := by decide +kernel
theorem dX2_oneOf_49 : decode cX2_oneOf 49 = .ok (.bipush 8, 2) := by decide +kernel
theorem dX2_oneOf_51 : decode cX2_oneOf 51 = .ok (.if_icmp .ge 32, 3) := by decide +kernel
theorem dX2_oneOf_54 : decode cX2_oneOf 54 = .ok (.iload_n 1, 1) := by decide +kernel
theorem dX2_oneOf_55 : decode cX2_oneOf 55 = .ok (.iload 4, 2) := by decide +kernel
theorem dX2_oneOf_57 : decode cX2_oneOf 57 = .ok (.invokestatic 29, 3) := by decide +kernel
theorem dX2_oneOf_60 : decode cX2_oneOf 60 = .ok (.iand, 1) := by decide +kernel
theorem dX2_oneOf_61 : decode cX2_oneOf 61 = .ok (.ifCond .ne 6, 3) := by decide +kernel
theorem dX2_oneOf_64 : decode cX2_oneOf 64 = .ok (.goto 13, 3) := by decide +kernel
theorem dX2_oneOf_67 : decode cX2_oneOf 67 = .ok (.iload_n 3, 1) := by decide +kernel
theorem dX2_oneOf_68 : decode cX2_oneOf 68 = .ok (.ifCond .ne 6, 3) := by decide +kernel
theorem dX2_oneOf_71 : decode cX2_oneOf 71 = .ok (.iload 4, 2) := by decide +kernel
theorem dX2_oneOf_73 : decode cX2_oneOf 73 = .ok (.ireturn, 1) := by decide +kernel
theorem dX2_oneOf_74 : decode cX2_oneOf 74 = .ok (.iinc 3 (-1), 3) := by decide +kernel
theorem dX2_oneOf_77 : decode cX2_oneOf 77 = .ok (.iinc 4 1, 3) := by decide +kernel
theorem dX2_oneOf_80 : decode cX2_oneOf 80 = .ok (.goto (-33), 3) := by decide +kernel
theorem dX2_oneOf_83 : decode cX2_oneOf 83 = .ok (.iconst (-1), 1) := by decide +kernel
theorem dX2_oneOf_84 : decode cX2_oneOf 84 = .ok (.ireturn, 1) := by decide +kernel
theorem dX3_init_0 : decode cX3_init 0 = .ok (.aload_n 0, 1) := by decide +kernel
theorem dX3_init_1 : decode cX3_init 1 = .ok (.invokespecial 3, 3) := by decide +kernel
theorem dX3_init_4 : decode cX3_init 4 = .ok (.return_, 1) := by decide +kernel
theorem dX3_begin_0 : decode cX3_begin 0 = .ok (.aload_n 0, 1) := by decide +kernel
theorem dX3_begin_1 : decode cX3_begin 1 = .ok (.iload_n 1, 1) := by decide +kernel
theorem dX3_begin_2 : decode cX3_begin 2 = .ok (.putfield 9, 3) := by decide +kernel
theorem dX3_begin_5 : decode cX3_begin 5 = .ok (.aload_n 0, 1) := by decide +kernel
theorem dX3_begin_6 : decode cX3_begin 6 = .ok (.iload_n 2, 1) := by decide +kernel
theorem dX3_begin_7 : decode cX3_begin 7 = .ok (.putfield 15, 3) := by decide +kernel
theorem dX3_begin_10 : decode cX3_begin 10 = .ok (.aload_n 0, 1) := by decide +kernel
theorem dX3_begin_11 : decode cX3_begin 11 = .ok (.iload_n 2, 1) := by decide +kernel
theorem dX3_begin_12 : decode cX3_begin 12 = .ok (.putfield 18, 3) := by decide +kernel
theorem dX3_begin_15 : decode cX3_begin 15 = .ok (.aload_n 0, 1) := by decide +kernel
theorem dX3_begin_16 : decode cX3_begin 16 = .ok (.iconst (-1), 1) := by decide +kernel
theorem dX3_begin_17 : decode cX3_begin 17 = .ok (.putfield 21, 3) := by decide +kernel
theorem dX3_begin_20 : decode cX3_begin 20 = .ok (.aload_n 0, 1) := by decide +kernel
theorem dX3_begin_21 : decode cX3_begin 21 = .ok (.iconst 0, 1) := by decide +kernel
theorem dX3_begin_22 : decode cX3_begin 22 = .ok (.putfield 24, 3) := by decide +kernel
theorem dX3_begin_25 : decode cX3_begin 25 = .ok (.aload_n 0, 1) := by decide +kernel
theorem dX3_begin_26 : decode cX3_begin 26 = .ok (.iconst 0, 1) := by decide +kernel
theorem dX3_begin_27 : decode cX3_begin 27 = .ok (.putfield 27, 3) := by decide +kernel
theorem dX3_begin_30 : decode cX3_begin 30 = .ok (.aload_n 0, 1) := by decide +kernel
theorem dX3_begin_31 : decode cX3_begin 31 = .ok (.iconst 0, 1) := by decide +kernel
theorem dX3_begin_32 : decode cX3_begin 32 = .ok (.putfield 30, 3) := by decide +kernel
theorem dX3_begin_35 : decode cX3_begin 35 = .ok (.aload_n 0, 1) := by decide +kernel
theorem dX3_begin_36 : decode cX3_begin 36 = .ok (.iconst 0, 1) := by decide +kernel
theorem dX3_begin_37 : decode cX3_begin 37 = .ok (.putfield 33, 3) := by decide +kernel
theorem dX3_begin_40 : decode cX3_begin 40 = .ok (.return_, 1) := by decide +kernel
theorem dX3_copyFrom_0 : decode cX3_copyFrom 0 = .ok (.aload_n 0, 1) := by decide +kernel
theorem dX3_copyFrom_1 : decode cX3_copyFrom 1 = .ok (.aload_n 1, 1) := by decide +kernel
theorem dX3_copyFrom_2 : decode cX3_copyFrom 2 = .ok (.getfield 9, 3) := by decide +kernel
theorem dX3_copyFrom_5 : decode cX3_copyFrom 5 = .ok (.putfield 9, 3) := by decide +kernel
theorem dX3_copyFrom_8 : decode cX3_copyFrom 8 = .ok (.aload_n 0, 1) := by decide +kernel
theorem dX3_copyFrom_9 : decode cX3_copyFrom 9 = .ok (.aload_n 1, 1) := by decide +kernel
theorem dX3_copyFrom_10 : decode cX3_copyFrom 10 = .ok (.getfield 15, 3) := by decide +kernel
theorem dX3_copyFrom_13 : decode cX3_copyFrom 13 = .ok (.putfield 15, 3) := by decide +kernel
theorem dX3_copyFrom_16 : decode cX3_copyFrom 16 = .ok (.aload_n 0, 1) := by decide +kernel
theorem dX3_copyFrom_17 : decode cX3_copyFrom 17 = .ok (.aload_n 1, 1) := by decide +kernel
theorem dX3_copyFrom_18 : decode cX3_copyFrom 18 = .ok (.getfield 18, 3) := by decide +kernel
theorem dX3_copyFrom_21 : decode cX3_copyFrom 21 = .ok (.putfield 18, 3) := by decide +kernel
theorem dX3_copyFrom_24 : decode cX3_copyFrom 24 = .ok (.aload_n 0, 1) := by decide +kernel
theorem dX3_copyFrom_25 : decode cX3_copyFrom 25 = .ok (.aload_n 1, 1) := by decide +kernel
theorem dX3_copyFrom_26 : decode cX3_copyFrom 26 = .ok (.getfield 21, 3) := by decide +kernel
theorem dX3_copyFrom_29 : decode cX3_copyFrom 29 = .ok (.putfield 21, 3) := by decide +kernel
theorem dX3_copyFrom_32 : decode cX3_copyFrom 32 = .ok (.aload_n 0, 1) := by decide +kernel
theorem dX3_copyFrom_33 : decode cX3_copyFrom 33 = .ok (.aload_n 1, 1) := by decide +kernel
theorem dX3_copyFrom_34 : decode cX3_copyFrom 34 = .ok (.getfield 24, 3) := by decide +kernel
theorem dX3_copyFrom_37 : decode cX3_copyFrom 37 = .ok (.putfield 24, 3) := by decide +kernel
theorem dX3_copyFrom_40 : decode cX3_copyFrom 40 = .ok (.aload_n 0, 1) := by decide +kernel
theorem dX3_copyFrom_41 : decode cX3_copyFrom 41 = .ok (.aload_n 1, 1) := by decide +kernel
theorem dX3_copyFrom_42 : decode cX3_copyFrom 42 = .ok (.getfield 27, 3) := by decide +kernel
theorem dX3_copyFrom_45 : decode cX3_copyFrom 45 = .ok (.putfield 27, 3) := by decide +kernel
theorem dX3_copyFrom_48 : decode cX3_copyFrom 48 = .ok (.aload_n 0, 1) := by decide +kernel
theorem dX3_copyFrom_49 : decode cX3_copyFrom 49 = .ok (.aload_n 1, 1) := by decide +kernel
theorem dX3_copyFrom_50 : decode cX3_copyFrom 50 = .ok (.getfield 30, 3) := by decide +kernel
theorem dX3_copyFrom_53 : decode cX3_copyFrom 53 = .ok (.putfield 30, 3) := by decide +kernel
theorem dX3_copyFrom_56 : decode cX3_copyFrom 56 = .ok (.aload_n 0, 1) := by decide +kernel
theorem dX3_copyFrom_57 : decode cX3_copyFrom 57 = .ok (.aload_n 1, 1) := by decide +kernel
theorem dX3_copyFrom_58 : decode cX3_copyFrom 58 = .ok (.getfield 33, 3) := by decide +kernel
theorem dX3_copyFrom_61 : decode cX3_copyFrom 61 = .ok (.putfield 33, 3) := by decide +kernel
theorem dX3_copyFrom_64 : decode cX3_copyFrom 64 = .ok (.return_, 1) := by decide +kernel
theorem dX3_lives_0 : decode cX3_lives 0 = .ok (.aload_n 0, 1) := by decide +kernel
theorem dX3_lives_1 : decode cX3_lives 1 = .ok (.getfield 30, 3) := by decide +kernel
theorem dX3_lives_4 : decode cX3_lives 4 = .ok (.ifCond .ne 7, 3) := by decide +kernel
theorem dX3_lives_7 : decode cX3_lives 7 = .ok (.iconst 1, 1) := by decide +kernel
theorem dX3_lives_8 : decode cX3_lives 8 = .ok (.goto 4, 3) := by decide +kernel
theorem dX3_lives_11 : decode cX3_lives 11 = .ok (.iconst 0, 1) := by decide +kernel
theorem dX3_lives_12 : decode cX3_lives 12 = .ok (.ireturn, 1) := by decide +kernel
theorem dX3_isOf_0 : decode cX3_isOf 0 = .ok (.iload_n 1, 1) := by decide +kernel
theorem dX3_isOf_1 : decode cX3_isOf 1 = .ok (.ifCond .eq 24, 3) := by decide +kernel
theorem dX3_isOf_4 : decode cX3_isOf 4 = .ok (.iload_n 1, 1) := by decide +kernel
theorem dX3_isOf_5 : decode cX3_isOf 5 = .ok (.aload_n 0, 1) := by decide +kernel
theorem dX3_isOf_6 : decode cX3_isOf 6 = .ok (.getfield 9, 3) := by decide +kernel
theorem dX3_isOf_9 : decode cX3_isOf 9 = .ok (.if_icmp .eq 16, 3) := by decide +kernel
theorem dX3_isOf_12 : decode cX3_isOf 12 = .ok (.iload_n 1, 1) := by decide +kernel
theorem dX3_isOf_13 : decode cX3_isOf 13 = .ok (.iconst 1, 1) := by decide +kernel
theorem dX3_isOf_14 : decode cX3_isOf 14 = .ok (.if_icmp .ne 15, 3) := by decide +kernel
theorem dX3_isOf_17 : decode cX3_isOf 17 = .ok (.aload_n 0, 1) := by decide +kernel
theorem dX3_isOf_18 : decode cX3_isOf 18 = .ok (.getfield 9, 3) := by decide +kernel
theorem dX3_isOf_21 : decode cX3_isOf 21 = .ok (.iconst 4, 1) := by decide +kernel
theorem dX3_isOf_22 : decode cX3_isOf 22 = .ok (.if_icmp .ne 7, 3) := by decide +kernel
theorem dX3_isOf_25 : decode cX3_isOf 25 = .ok (.iconst 1, 1) := by decide +kernel
theorem dX3_isOf_26 : decode cX3_isOf 26 = .ok (.goto 4, 3) := by decide +kernel
theorem dX3_isOf_29 : decode cX3_isOf 29 = .ok (.iconst 0, 1) := by decide +kernel
theorem dX3_isOf_30 : decode cX3_isOf 30 = .ok (.ireturn, 1) := by decide +kernel
theorem dX3_worth_0 : decode cX3_worth 0 = .ok (.iconst 1, 1) := by decide +kernel
theorem dX3_worth_1 : decode cX3_worth 1 = .ok (.bipush 10, 2) := by decide +kernel
theorem dX3_worth_3 : decode cX3_worth 3 = .ok (.aload_n 0, 1) := by decide +kernel
theorem dX3_worth_4 : decode cX3_worth 4 = .ok (.getfield 24, 3) := by decide +kernel
theorem dX3_worth_7 : decode cX3_worth 7 = .ok (.isub, 1) := by decide +kernel
theorem dX3_worth_8 : decode cX3_worth 8 = .ok (.invokestatic 36, 3) := by decide +kernel
theorem dX3_worth_11 : decode cX3_worth 11 = .ok (.istore_n 1, 1) := by decide +kernel
theorem dX3_worth_12 : decode cX3_worth 12 = .ok (.aload_n 0, 1) := by decide +kernel
theorem dX3_worth_13 : decode cX3_worth 13 = .ok (.getfield 9, 3) := by decide +kernel
theorem dX3_worth_16 : decode cX3_worth 16 = .ok (.iconst 2, 1) := by decide +kernel
theorem dX3_worth_17 : decode cX3_worth 17 = .ok (.if_icmp .ne 17, 3) := by decide +kernel
theorem dX3_worth_20 : decode cX3_worth 20 = .ok (.iload_n 1, 1) := by decide +kernel
theorem dX3_worth_21 : decode cX3_worth 21 = .ok (.aload_n 0, 1) := by decide +kernel
theorem dX3_worth_22 : decode cX3_worth 22 = .ok (.getfield 33, 3) := by decide +kernel
theorem dX3_worth_25 : decode cX3_worth 25 = .ok (.bipush 9, 2) := by decide +kernel
theorem dX3_worth_27 : decode cX3_worth 27 = .ok (.invokestatic 42, 3) := by decide +kernel
theorem dX3_worth_30 : decode cX3_worth 30 = .ok (.iadd, 1) := by decide +kernel
theorem dX3_worth_31 : decode cX3_worth 31 = .ok (.goto 4, 3) := by decide +kernel
theorem dX3_worth_34 : decode cX3_worth 34 = .ok (.iload_n 1, 1) := by decide +kernel
theorem dX3_worth_35 : decode cX3_worth 35 = .ok (.ireturn, 1) := by decide +kernel
theorem dX3_mustGo_0 : decode cX3_mustGo 0 = .ok (.aload_n 0, 1) := by decide +kernel
theorem dX3_mustGo_1 : decode cX3_mustGo 1 = .ok (.invokevirtual 45, 3) := by decide +kernel
theorem dX3_mustGo_4 : decode cX3_mustGo 4 = .ok (.ifCond .eq 29, 3) := by decide +kernel
theorem dX3_mustGo_7 : decode cX3_mustGo 7 = .ok (.aload_n 0, 1) := by decide +kernel
theorem dX3_mustGo_8 : decode cX3_mustGo 8 = .ok (.getfield 27, 3) := by decide +kernel
theorem dX3_mustGo_11 : decode cX3_mustGo 11 = .ok (.aload_n 0, 1) := by decide +kernel
theorem dX3_mustGo_12 : decode cX3_mustGo 12 = .ok (.getfield 9, 3) := by decide +kernel
theorem dX3_mustGo_15 : decode cX3_mustGo 15 = .ok (.iconst 3, 1) := by decide +kernel
theorem dX3_mustGo_16 : decode cX3_mustGo 16 = .ok (.if_icmp .ne 9, 3) := by decide +kernel
theorem dX3_mustGo_19 : decode cX3_mustGo 19 = .ok (.iload_n 1, 1) := by decide +kernel
theorem dX3_mustGo_20 : decode cX3_mustGo 20 = .ok (.iconst 1, 1) := by decide +kernel
theorem dX3_mustGo_21 : decode cX3_mustGo 21 = .ok (.iadd, 1) := by decide +kernel
theorem dX3_mustGo_22 : decode cX3_mustGo 22 = .ok (.goto 4, 3) := by decide +kernel
theorem dX3_mustGo_25 : decode cX3_mustGo 25 = .ok (.iload_n 1, 1) := by decide +kernel
theorem dX3_mustGo_26 : decode cX3_mustGo 26 = .ok (.if_icmp .lt 7, 3) := by decide +kernel
theorem dX3_mustGo_29 : decode cX3_mustGo 29 = .ok (.iconst 1, 1) := by decide +kernel
theorem dX3_mustGo_30 : decode cX3_mustGo 30 = .ok (.goto 4, 3) := by decide +kernel
theorem dX3_mustGo_33 : decode cX3_mustGo 33 = .ok (.iconst 0, 1) := by decide +kernel
theorem dX3_mustGo_34 : decode cX3_mustGo 34 = .ok (.ireturn, 1) := by decide +kernel
theorem dX3_moveTo_0 : decode cX3_moveTo 0 = .ok (.aload_n 0, 1) := by decide +kernel
theorem dX3_moveTo_1 : decode cX3_moveTo 1 = .ok (.aload_n 0, 1) := by decide +kernel
theorem dX3_moveTo_2 : decode cX3_moveTo 2 = .ok (.getfield 18, 3) := by decide +kernel
theorem dX3_moveTo_5 : decode cX3_moveTo 5 = .ok (.putfield 21, 3) := by decide +kernel
theorem dX3_moveTo_8 : decode cX3_moveTo 8 = .ok (.aload_n 0, 1) := by decide +kernel
theorem dX3_moveTo_9 : decode cX3_moveTo 9 = .ok (.iload_n 1, 1) := by decide +kernel
theorem dX3_moveTo_10 : decode cX3_moveTo 10 = .ok (.putfield 18, 3) := by decide +kernel
theorem dX3_moveTo_13 : decode cX3_moveTo 13 = .ok (.aload_n 0, 1) := by decide +kernel
theorem dX3_moveTo_14 : decode cX3_moveTo 14 = .ok (.iconst 0, 1) := by decide +kernel
theorem dX3_moveTo_15 : decode cX3_moveTo 15 = .ok (.putfield 27, 3) := by decide +kernel
theorem dX3_moveTo_18 : decode cX3_moveTo 18 = .ok (.aload_n 0, 1) := by decide +kernel
theorem dX3_moveTo_19 : decode cX3_moveTo 19 = .ok (.dup, 1) := by decide +kernel
theorem dX3_moveTo_20 : decode cX3_moveTo 20 = .ok (.getfield 33, 3) := by decide +kernel
theorem dX3_moveTo_23 : decode cX3_moveTo 23 = .ok (.iconst 1, 1) := by decide +kernel
theorem dX3_moveTo_24 : decode cX3_moveTo 24 = .ok (.iadd, 1) := by decide +kernel
theorem dX3_moveTo_25 : decode cX3_moveTo 25 = .ok (.putfield 33, 3) := by decide +kernel
theorem dX3_moveTo_28 : decode cX3_moveTo 28 = .ok (.aload_n 0, 1) := by decide +kernel
theorem dX3_moveTo_29 : decode cX3_moveTo 29 = .ok (.getfield 9, 3) := by decide +kernel
theorem dX3_moveTo_32 : decode cX3_moveTo 32 = .ok (.iconst 4, 1) := by decide +kernel
theorem dX3_moveTo_33 : decode cX3_moveTo 33 = .ok (.if_icmp .ne 16, 3) := by decide +kernel
theorem dX3_moveTo_36 : decode cX3_moveTo 36 = .ok (.aload_n 0, 1) := by decide +kernel
theorem dX3_moveTo_37 : decode cX3_moveTo 37 = .ok (.dup, 1) := by decide +kernel
theorem dX3_moveTo_38 : decode cX3_moveTo 38 = .ok (.getfield 24, 3) := by decide +kernel
theorem dX3_moveTo_41 : decode cX3_moveTo 41 = .ok (.iconst 2, 1) := by decide +kernel
theorem dX3_moveTo_42 : decode cX3_moveTo 42 = .ok (.iadd, 1) := by decide +kernel
theorem dX3_moveTo_43 : decode cX3_moveTo 43 = .ok (.putfield 24, 3) := by decide +kernel
theorem dX3_moveTo_46 : decode cX3_moveTo 46 = .ok (.goto 21, 3) := by decide +kernel
theorem dX3_moveTo_49 : decode cX3_moveTo 49 = .ok (.aload_n 0, 1) := by decide +kernel
theorem dX3_moveTo_50 : decode cX3_moveTo 50 = .ok (.getfield 9, 3) := by decide +kernel
theorem dX3_moveTo_53 : decode cX3_moveTo 53 = .ok (.iconst 2, 1) := by decide +kernel
theorem dX3_moveTo_54 : decode cX3_moveTo 54 = .ok (.if_icmp .eq 13, 3) := by decide +kernel
theorem dX3_moveTo_57 : decode cX3_moveTo 57 = .ok (.aload_n 0, 1) := by decide +kernel
theorem dX3_moveTo_58 : decode cX3_moveTo 58 = .ok (.dup, 1) := by decide +kernel
theorem dX3_moveTo_59 : decode cX3_moveTo 59 = .ok (.getfield 24, 3) := by decide +kernel
theorem dX3_moveTo_62 : decode cX3_moveTo 62 = .ok (.iconst 1, 1) := by decide +kernel
theorem dX3_moveTo_63 : decode cX3_moveTo 63 = .ok (.iadd, 1) := by decide +kernel
theorem dX3_moveTo_64 : decode cX3_moveTo 64 = .ok (.putfield 24, 3) := by decide +kernel
theorem dX3_moveTo_67 : decode cX3_moveTo 67 = .ok (.aload_n 0, 1) := by decide +kernel
theorem dX3_moveTo_68 : decode cX3_moveTo 68 = .ok (.iconst 1, 1) := by decide +kernel
theorem dX3_moveTo_69 : decode cX3_moveTo 69 = .ok (.invokevirtual 49, 3) := by decide +kernel
theorem dX3_moveTo_72 : decode cX3_moveTo 72 = .ok (.ifCond .eq 19, 3) := by decide +kernel
theorem dX3_moveTo_75 : decode cX3_moveTo 75 = .ok (.aload_n 0, 1) := by decide +kernel
theorem dX3_moveTo_76 : decode cX3_moveTo 76 = .ok (.getfield 24, 3) := by decide +kernel
theorem dX3_moveTo_79 : decode cX3_moveTo 79 = .ok (.iload_n 2, 1) := by decide +kernel
theorem dX3_moveTo_80 : decode cX3_moveTo 80 = .ok (.if_icmp .lt 11, 3) := by decide +kernel
theorem dX3_moveTo_83 : decode cX3_moveTo 83 = .ok (.aload_n 0, 1) := by decide +kernel
theorem dX3_moveTo_84 : decode cX3_moveTo 84 = .ok (.iconst 2, 1) := by decide +kernel
theorem dX3_moveTo_85 : decode cX3_moveTo 85 = .ok (.putfield 30, 3) := by decide +kernel
theorem dX3_moveTo_88 : decode cX3_moveTo 88 = .ok (.goto 19, 3) := by decide +kernel
theorem dX3_moveTo_91 : decode cX3_moveTo 91 = .ok (.aload_n 0, 1) := by decide +kernel
theorem dX3_moveTo_92 : decode cX3_moveTo 92 = .ok (.getfield 18, 3) := by decide +kernel
theorem dX3_moveTo_95 : decode cX3_moveTo 95 = .ok (.aload_n 0, 1) := by decide +kernel
theorem dX3_moveTo_96 : decode cX3_moveTo 96 = .ok (.getfield 15, 3) := by decide +kernel
theorem dX3_moveTo_99 : decode cX3_moveTo 99 = .ok (.if_icmp .ne 8, 3) := by decide +kernel
theorem dX3_moveTo_102 : decode cX3_moveTo 102 = .ok (.aload_n 0, 1) := by decide +kernel
theorem dX3_moveTo_103 : decode cX3_moveTo 103 = .ok (.iconst 1, 1) := by decide +kernel
theorem dX3_moveTo_104 : decode cX3_moveTo 104 = .ok (.putfield 30, 3) := by decide +kernel
theorem dX3_moveTo_107 : decode cX3_moveTo 107 = .ok (.return_, 1) := by decide +kernel
theorem dX4_init_0 : decode cX4_init 0 = .ok (.aload_n 0, 1) := by decide +kernel
theorem dX4_init_1 : decode cX4_init 1 = .ok (.invokespecial 3, 3) := by decide +kernel
theorem dX4_init_4 : decode cX4_init 4 = .ok (.aload_n 0, 1) := by decide +kernel
theorem dX4_init_5 : decode cX4_init 5 = .ok (.iconst 1, 1) := by decide +kernel
theorem dX4_init_6 : decode cX4_init 6 = .ok (.putfield 11, 3) := by decide +kernel
theorem dX4_init_9 : decode cX4_init 9 = .ok (.aload_n 0, 1) := by decide +kernel
theorem dX4_init_10 : decode cX4_init 10 = .ok (.iconst 3, 1) := by decide +kernel
theorem dX4_init_11 : decode cX4_init 11 = .ok (.putfield 15, 3) := by decide +kernel
theorem dX4_init_14 : decode cX4_init 14 = .ok (.return_, 1) := by decide +kernel
theorem dX4_readFrom_0 : decode cX4_readFrom 0 = .ok (.aload_n 0, 1) := by decide +kernel
theorem dX4_readFrom_1 : decode cX4_readFrom 1 = .ok (.iconst 1, 1) := by decide +kernel
theorem dX4_readFrom_2 : decode cX4_readFrom 2 = .ok (.putfield 11, 3) := by decide +kernel
theorem dX4_readFrom_5 : decode cX4_readFrom 5 = .ok (.aload_n 0, 1) := by decide +kernel
theorem dX4_readFrom_6 : decode cX4_readFrom 6 = .ok (.iconst 0, 1) := by decide +kernel
theorem dX4_readFrom_7 : decode cX4_readFrom 7 = .ok (.putfield 18, 3) := by decide +kernel
theorem dX4_readFrom_10 : decode cX4_readFrom 10 = .ok (.aload_n 0, 1) := by decide +kernel
theorem dX4_readFrom_11 : decode cX4_readFrom 11 = .ok (.iconst 0, 1) := by decide +kernel
theorem dX4_readFrom_12 : decode cX4_readFrom 12 = .ok (.putfield 22, 3) := by decide +kernel
theorem dX4_readFrom_15 : decode cX4_readFrom 15 = .ok (.aload_n 0, 1) := by decide +kernel
theorem dX4_readFrom_16 : decode cX4_readFrom 16 = .ok (.iconst 3, 1) := by decide +kernel
theorem dX4_readFrom_17 : decode cX4_readFrom 17 = .ok (.putfield 15, 3) := by decide +kernel
theorem dX4_readFrom_20 : decode cX4_readFrom 20 = .ok (.iconst 0, 1) := by decide +kernel
theorem dX4_readFrom_21 : decode cX4_readFrom 21 = .ok (.istore_n 2, 1) := by decide +kernel
theorem dX4_readFrom_22 : decode cX4_readFrom 22 = .ok (.iconst 0, 1) := by decide +kernel
theorem dX4_readFrom_23 : decode cX4_readFrom 23 = .ok (.istore_n 3, 1) := by decide +kernel
theorem dX4_readFrom_24 : decode cX4_readFrom 24 = .ok (.iload_n 3, 1) := by decide +kernel
theorem dX4_readFrom_25 : decode cX4_readFrom 25 = .ok (.aload_n 1, 1) := by decide +kernel
theorem dX4_readFrom_26 : decode cX4_readFrom 26 = .ok (.getfield 25, 3) := by decide +kernel
theorem dX4_readFrom_29 : decode cX4_readFrom 29 = .ok (.if_icmp .ge 89, 3) := by decide +kernel
theorem dX4_readFrom_32 : decode cX4_readFrom 32 = .ok (.iload_n 3, 1) := by decide +kernel
theorem dX4_readFrom_33 : decode cX4_readFrom 33 = .ok (.bipush 16, 2) := by decide +kernel
theorem dX4_readFrom_35 : decode cX4_readFrom 35 = .ok (.if_icmp .ge 83, 3) := by decide +kernel
theorem dX4_readFrom_38 : decode cX4_readFrom 38 = .ok (.aload_n 1, 1) := by decide +kernel
theorem dX4_readFrom_39 : decode cX4_readFrom 39 = .ok (.getfield 30, 3) := by decide +kernel
theorem dX4_readFrom_42 : decode cX4_readFrom 42 = .ok (.iload_n 3, 1) := by decide +kernel
theorem dX4_readFrom_43 : decode cX4_readFrom 43 = .ok (.iaload, 1) := by decide +kernel
theorem dX4_readFrom_44 : decode cX4_readFrom 44 = .ok (.istore 4, 2) := by decide +kernel
theorem dX4_readFrom_46 : decode cX4_readFrom 46 = .ok (.iload_n 2, 1) := by decide +kernel
theorem dX4_readFrom_47 : decode cX4_readFrom 47 = .ok (.bipush 107, 2) := by decide +kernel
theorem dX4_readFrom_49 : decode cX4_readFrom 49 = .ok (.if_icmp .ne 15, 3) := by decide +kernel
theorem dX4_readFrom_52 : decode cX4_readFrom 52 = .ok (.aload_n 0, 1) := by decide +kernel
theorem dX4_readFrom_53 : decode cX4_readFrom 53 = .ok (.iload 4, 2) := by decide +kernel
theorem dX4_readFrom_55 : decode cX4_readFrom 55 = .ok (.bipush 48, 2) := by decide +kernel
theorem dX4_readFrom_57 : decode cX4_readFrom 57 = .ok (.isub, 1) := by decide +kernel
theorem dX4_readFrom_58 : decode cX4_readFrom 58 = .ok (.putfield 11, 3) := by decide +kernel
theorem dX4_readFrom_61 : decode cX4_readFrom 61 = .ok (.goto 48, 3) := by decide +kernel
theorem dX4_readFrom_64 : decode cX4_readFrom 64 = .ok (.iload_n 2, 1) := by decide +kernel
theorem dX4_readFrom_65 : decode cX4_readFrom 65 = .ok (.bipush 119, 2) := by decide +kernel
theorem dX4_readFrom_67 : decode cX4_readFrom 67 = .ok (.if_icmp .ne 15, 3) := by decide +kernel
theorem dX4_readFrom_70 : decode cX4_readFrom 70 = .ok (.aload_n 0, 1) := by decide +kernel
theorem dX4_readFrom_71 : decode cX4_readFrom 71 = .ok (.iload 4, 2) := by decide +kernel
theorem dX4_readFrom_73 : decode cX4_readFrom 73 = .ok (.bipush 48, 2) := by decide +kernel
theorem dX4_readFrom_75 : decode cX4_readFrom 75 = .ok (.isub, 1) := by decide +kernel
theorem dX4_readFrom_76 : decode cX4_readFrom 76 = .ok (.putfield 15, 3) := by decide +kernel
theorem dX4_readFrom_79 : decode cX4_readFrom 79 = .ok (.goto 30, 3) := by decide +kernel
theorem dX4_readFrom_82 : decode cX4_readFrom 82 = .ok (.iload 4, 2) := by decide +kernel
theorem dX4_readFrom_84 : decode cX4_readFrom 84 = .ok (.bipush 98, 2) := by decide +kernel
theorem dX4_readFrom_86 : decode cX4_readFrom 86 = .ok (.if_icmp .ne 11, 3) := by decide +kernel
theorem dX4_readFrom_89 : decode cX4_readFrom 89 = .ok (.aload_n 0, 1) := by decide +kernel
theorem dX4_readFrom_90 : decode cX4_readFrom 90 = .ok (.iconst 1, 1) := by decide +kernel
theorem dX4_readFrom_91 : decode cX4_readFrom 91 = .ok (.putfield 18, 3) := by decide +kernel
theorem dX4_readFrom_94 : decode cX4_readFrom 94 = .ok (.goto 15, 3) := by decide +kernel
theorem dX4_readFrom_97 : decode cX4_readFrom 97 = .ok (.iload 4, 2) := by decide +kernel
theorem dX4_readFrom_99 : decode cX4_readFrom 99 = .ok (.bipush 111, 2) := by decide +kernel
theorem dX4_readFrom_101 : decode cX4_readFrom 101 = .ok (.if_icmp .ne 8, 3) := by decide +kernel
theorem dX4_readFrom_104 : decode cX4_readFrom 104 = .ok (.aload_n 0, 1) := by decide +kernel
theorem dX4_readFrom_105 : decode cX4_readFrom 105 = .ok (.iconst 1, 1) := by decide +kernel
theorem dX4_readFrom_106 : decode cX4_readFrom 106 = .ok (.putfield 22, 3) := by decide +kernel
theorem dX4_readFrom_109 : decode cX4_readFrom 109 = .ok (.iload 4, 2) := by decide +kernel
theorem dX4_readFrom_111 : decode cX4_readFrom 111 = .ok (.istore_n 2, 1) := by decide +kernel
theorem dX4_readFrom_112 : decode cX4_readFrom 112 = .ok (.iinc 3 1, 3) := by decide +kernel
theorem dX4_readFrom_115 : decode cX4_readFrom 115 = .ok (.goto (-91), 3) := by decide +kernel
theorem dX4_readFrom_118 : decode cX4_readFrom 118 = .ok (.return_, 1) := by decide +kernel
theorem dX5_init_0 : decode cX5_init 0 = .ok (.aload_n 0, 1) := by decide +kernel
theorem dX5_init_1 : decode cX5_init 1 = .ok (.invokespecial 3, 3) := by decide +kernel
theorem dX5_init_4 : decode cX5_init 4 = .ok (.aload_n 0, 1) := by decide +kernel
theorem dX5_init_5 : decode cX5_init 5 = .ok (.bipush 16, 2) := by decide +kernel
theorem dX5_init_7 : decode cX5_init 7 = .ok (.newarray .int, 2) := by decide +kernel
theorem dX5_init_9 : decode cX5_init 9 = .ok (.putfield 9, 3) := by decide +kernel
theorem dX5_init_12 : decode cX5_init 12 = .ok (.return_, 1) := by decide +kernel
theorem dX5_lettersIn_0 : decode cX5_lettersIn 0 = .ok (.iconst 0, 1) := by decide +kernel
theorem dX5_lettersIn_1 : decode cX5_lettersIn 1 = .ok (.istore_n 2, 1) := by decide +kernel
theorem dX5_lettersIn_2 : decode cX5_lettersIn 2 = .ok (.iconst 0, 1) := by decide +kernel
theorem dX5_lettersIn_3 : decode cX5_lettersIn 3 = .ok (.istore_n 3, 1) := by decide +kernel
theorem dX5_lettersIn_4 : decode cX5_lettersIn 4 = .ok (.iconst 0, 1) := by decide +kernel
theorem dX5_lettersIn_5 : decode cX5_lettersIn 5 = .ok (.istore 4, 2) := by decide +kernel
theorem dX5_lettersIn_7 : decode cX5_lettersIn 7 = .ok (.iload 4, 2) := by decide +kernel
theorem dX5_lettersIn_9 : decode cX5_lettersIn 9 = .ok (.bipush 8, 2) := by decide +kernel
theorem dX5_lettersIn_11 : decode cX5_lettersIn 11 = .ok (.if_icmp .ge 48, 3) := by decide +kernel
theorem dX5_lettersIn_14 : decode cX5_lettersIn 14 = .ok (.lload_n 0, 1) := by decide +kernel
theorem dX5_lettersIn_15 : decode cX5_lettersIn 15 = .ok (.iload 4, 2) := by decide +kernel
theorem dX5_lettersIn_17 : decode cX5_lettersIn 17 = .ok (.invokestatic 15, 3) := by decide +kernel
theorem dX5_lettersIn_20 : decode cX5_lettersIn 20 = .ok (.istore 5, 2) := by decide +kernel
theorem dX5_lettersIn_22 : decode cX5_lettersIn 22 = .ok (.iload 5, 2) := by decide +kernel
theorem dX5_lettersIn_24 : decode cX5_lettersIn 24 = .ok (.bipush 126, 2) := by decide +kernel
theorem dX5_lettersIn_26 : decode cX5_lettersIn 26 = .ok (.if_icmp .gt 12, 3) := by decide +kernel
theorem dX5_lettersIn_29 : decode cX5_lettersIn 29 = .ok (.iload_n 3, 1) := by decide +kernel
theorem dX5_lettersIn_30 : decode cX5_lettersIn 30 = .ok (.ifCond .eq 10, 3) := by decide +kernel
theorem dX5_lettersIn_33 : decode cX5_lettersIn 33 = .ok (.iload 5, 2) := by decide +kernel
theorem dX5_lettersIn_35 : decode cX5_lettersIn 35 = .ok (.ifCond .eq 5, 3) := by decide +kernel
theorem dX5_lettersIn_38 : decode cX5_lettersIn 38 = .ok (.iconst (-1), 1) := by decide +kernel
theorem dX5_lettersIn_39 : decode cX5_lettersIn 39 = .ok (.ireturn, 1) := by decide +kernel
theorem dX5_lettersIn_40 : decode cX5_lettersIn 40 = .ok (.iload 5, 2) := by decide +kernel
theorem dX5_lettersIn_42 : decode cX5_lettersIn 42 = .ok (.ifCond .ne 8, 3) := by decide +kernel
theorem dX5_lettersIn_45 : decode cX5_lettersIn 45 = .ok (.iconst 1, 1) := by decide +kernel
theorem dX5_lettersIn_46 : decode cX5_lettersIn 46 = .ok (.istore_n 3, 1) := by decide +kernel
theorem dX5_lettersIn_47 : decode cX5_lettersIn 47 = .ok (.goto 6, 3) := by decide +kernel
theorem dX5_lettersIn_50 : decode cX5_lettersIn 50 = .ok (.iinc 2 1, 3) := by decide +kernel
theorem dX5_lettersIn_53 : decode cX5_lettersIn 53 = .ok (.iinc 4 1, 3) := by decide +kernel
theorem dX5_lettersIn_56 : decode cX5_lettersIn 56 = .ok (.goto (-49), 3) := by decide +kernel
theorem dX5_lettersIn_59 : decode cX5_lettersIn 59 = .ok (.iload_n 2, 1) := by decide +kernel
theorem dX5_lettersIn_60 : decode cX5_lettersIn 60 = .ok (.ireturn, 1) := by decide +kernel
theorem dX5_byteOf_0 : decode cX5_byteOf 0 = .ok (.lload_n 0, 1) := by decide +kernel
theorem dX5_byteOf_1 : decode cX5_byteOf 1 = .ok (.bipush 8, 2) := by decide +kernel
theorem dX5_byteOf_3 : decode cX5_byteOf 3 = .ok (.iload_n 2, 1) := by decide +kernel
theorem dX5_byteOf_4 : decode cX5_byteOf 4 = .ok (.imul, 1) := by decide +kernel
theorem dX5_byteOf_5 : decode cX5_byteOf 5 = .ok (.lushr, 1) := by decide +kernel
theorem dX5_byteOf_6 : decode cX5_byteOf 6 = .ok (.ldc2_w 19, 3) := by decide +kernel
theorem dX5_byteOf_9 : decode cX5_byteOf 9 = .ok (.land, 1) := by decide +kernel
theorem dX5_byteOf_10 : decode cX5_byteOf 10 = .ok (.l2i, 1) := by decide +kernel
theorem dX5_byteOf_11 : decode cX5_byteOf 11 = .ok (.ireturn, 1) := by decide +kernel
theorem dX5_append_0 : decode cX5_append 0 = .ok (.iconst 0, 1) := by decide +kernel
theorem dX5_append_1 : decode cX5_append 1 = .ok (.istore 4, 2) := by decide +kernel
theorem dX5_append_3 : decode cX5_append 3 = .ok (.iload 4, 2) := by decide +kernel
theorem dX5_append_5 : decode cX5_append 5 = .ok (.iload_n 3, 1) := by decide +kernel
theorem dX5_append_6 : decode cX5_append 6 = .ok (.if_icmp .ge 43, 3) := by decide +kernel
theorem dX5_append_9 : decode cX5_append 9 = .ok (.aload_n 0, 1) := by decide +kernel
theorem dX5_append_10 : decode cX5_append 10 = .ok (.getfield 21, 3) := by decide +kernel
theorem dX5_append_13 : decode cX5_append 13 = .ok (.bipush 16, 2) := by decide +kernel
theorem dX5_append_15 : decode cX5_append 15 = .ok (.if_icmp .ge 34, 3) := by decide +kernel
theorem dX5_append_18 : decode cX5_append 18 = .ok (.aload_n 0, 1) := by decide +kernel
theorem dX5_append_19 : decode cX5_append 19 = .ok (.getfield 9, 3) := by decide +kernel
theorem dX5_append_22 : decode cX5_append 22 = .ok (.aload_n 0, 1) := by decide +kernel
theorem dX5_append_23 : decode cX5_append 23 = .ok (.getfield 21, 3) := by decide +kernel
theorem dX5_append_26 : decode cX5_append 26 = .ok (.lload_n 1, 1) := by decide +kernel
theorem dX5_append_27 : decode cX5_append 27 = .ok (.iload 4, 2) := by decide +kernel
theorem dX5_append_29 : decode cX5_append 29 = .ok (.invokestatic 15, 3) := by decide +kernel
theorem dX5_append_32 : decode cX5_append 32 = .ok (.iastore, 1) := by decide +kernel
theorem dX5_append_33 : decode cX5_append 33 = .ok (.aload_n 0, 1) := by decide +kernel
theorem dX5_append_34 : decode cX5_append 34 = .ok (.dup, 1) := by decide +kernel
theorem dX5_append_35 : decode cX5_append 35 = .ok (.getfield 21, 3) := by decide +kernel
theorem dX5_append_38 : decode cX5_append 38 = .ok (.iconst 1, 1) := by decide +kernel
theorem dX5_append_39 : decode cX5_append 39 = .ok (.iadd, 1) := by decide +kernel
theorem dX5_append_40 : decode cX5_append 40 = .ok (.putfield 21, 3) := by decide +kernel
theorem dX5_append_43 : decode cX5_append 43 = .ok (.iinc 4 1, 3) := by decide +kernel
theorem dX5_append_46 : decode cX5_append 46 = .ok (.goto (-43), 3) := by decide +kernel
theorem dX5_append_49 : decode cX5_append 49 = .ok (.return_, 1) := by decide +kernel
theorem dX5_firstFault_0 : decode cX5_firstFault 0 = .ok (.iconst 0, 1) := by decide +kernel
theorem dX5_firstFault_1 : decode cX5_firstFault 1 = .ok (.istore_n 1, 1) := by decide +kernel
theorem dX5_firstFault_2 : decode cX5_firstFault 2 = .ok (.iconst 0, 1) := by decide +kernel
theorem dX5_firstFault_3 : decode cX5_firstFault 3 = .ok (.istore_n 2, 1) := by decide +kernel
theorem dX5_firstFault_4 : decode cX5_firstFault 4 = .ok (.iload_n 2, 1) := by decide +kernel
theorem dX5_firstFault_5 : decode cX5_firstFault 5 = .ok (.aload_n 0, 1) := by decide +kernel
theorem dX5_firstFault_6 : decode cX5_firstFault 6 = .ok (.getfield 21, 3) := by decide +kernel
theorem dX5_firstFault_9 : decode cX5_firstFault 9 = .ok (.if_icmp .ge 33, 3) := by decide +kernel
theorem dX5_firstFault_12 : decode cX5_firstFault 12 = .ok (.iload_n 2, 1) := by decide +kernel
theorem dX5_firstFault_13 : decode cX5_firstFault 13 = .ok (.bipush 16, 2) := by decide +kernel
theorem dX5_firstFault_15 : decode cX5_firstFault 15 = .ok (.if_icmp .ge 27, 3) := by decide +kernel
theorem dX5_firstFault_18 : decode cX5_firstFault 18 = .ok (.iload_n 1, 1) := by decide +kernel
theorem dX5_firstFault_19 : decode cX5_firstFault 19 = .ok (.aload_n 0, 1) := by decide +kernel
theorem dX5_firstFault_20 : decode cX5_firstFault 20 = .ok (.getfield 9, 3) := by decide +kernel
theorem dX5_firstFault_23 : decode cX5_firstFault 23 = .ok (.iload_n 2, 1) := by decide +kernel
theorem dX5_firstFault_24 : decode cX5_firstFault 24 = .ok (.iaload, 1) := by decide +kernel
theorem dX5_firstFault_25 : decode cX5_firstFault 25 = .ok (.invokestatic 25, 3) := by decide +kernel
theorem dX5_firstFault_28 : decode cX5_firstFault 28 = .ok (.istore_n 1, 1) := by decide +kernel
theorem dX5_firstFault_29 : decode cX5_firstFault 29 = .ok (.iload_n 1, 1) := by decide +kernel
theorem dX5_firstFault_30 : decode cX5_firstFault 30 = .ok (.iconst (-1), 1) := by decide +kernel
theorem dX5_firstFault_31 : decode cX5_firstFault 31 = .ok (.if_icmp .ne 5, 3) := by decide +kernel
theorem dX5_firstFault_34 : decode cX5_firstFault 34 = .ok (.iload_n 2, 1) := by decide +kernel
theorem dX5_firstFault_35 : decode cX5_firstFault 35 = .ok (.ireturn, 1) := by decide +kernel
theorem dX5_firstFault_36 : decode cX5_firstFault 36 = .ok (.iinc 2 1, 3) := by decide +kernel
theorem dX5_firstFault_39 : decode cX5_firstFault 39 = .ok (.goto (-35), 3) := by decide +kernel
theorem dX5_firstFault_42 : decode cX5_firstFault 42 = .ok (.aload_n 0, 1) := by decide +kernel
theorem dX5_firstFault_43 : decode cX5_firstFault 43 = .ok (.getfield 21, 3) := by decide +kernel
theorem dX5_firstFault_46 : decode cX5_firstFault 46 = .ok (.ireturn, 1) := by decide +kernel
theorem dX5_isLaw_0 : decode cX5_isLaw 0 = .ok (.iconst 0, 1) := by decide +kernel
theorem dX5_isLaw_1 : decode cX5_isLaw 1 = .ok (.istore_n 1, 1) := by decide +kernel
theorem dX5_isLaw_2 : decode cX5_isLaw 2 = .ok (.iconst 0, 1) := by decide +kernel
theorem dX5_isLaw_3 : decode cX5_isLaw 3 = .ok (.istore_n 2, 1) := by decide +kernel
theorem dX5_isLaw_4 : decode cX5_isLaw 4 = .ok (.iload_n 2, 1) := by decide +kernel
theorem dX5_isLaw_5 : decode cX5_isLaw 5 = .ok (.aload_n 0, 1) := by decide +kernel
theorem dX5_isLaw_6 : decode cX5_isLaw 6 = .ok (.getfield 21, 3) := by decide +kernel
theorem dX5_isLaw_9 : decode cX5_isLaw 9 = .ok (.if_icmp .ge 31, 3) := by decide +kernel
theorem dX5_isLaw_12 : decode cX5_isLaw 12 = .ok (.iload_n 2, 1) := by decide +kernel
theorem dX5_isLaw_13 : decode cX5_isLaw 13 = .ok (.bipush 16, 2) := by decide +kernel
theorem dX5_isLaw_15 : decode cX5_isLaw 15 = .ok (.if_icmp .ge 25, 3) := by decide +kernel
theorem dX5_isLaw_18 : decode cX5_isLaw 18 = .ok (.iload_n 1, 1) := by decide +kernel
theorem dX5_isLaw_19 : decode cX5_isLaw 19 = .ok (.iconst (-1), 1) := by decide +kernel
theorem dX5_isLaw_20 : decode cX5_isLaw 20 = .ok (.if_icmp .eq 20, 3) := by decide +kernel
theorem dX5_isLaw_23 : decode cX5_isLaw 23 = .ok (.iload_n 1, 1) := by decide +kernel
theorem dX5_isLaw_24 : decode cX5_isLaw 24 = .ok (.aload_n 0, 1) := by decide +kernel
theorem dX5_isLaw_25 : decode cX5_isLaw 25 = .ok (.getfield 9, 3) := by decide +kernel
theorem dX5_isLaw_28 : decode cX5_isLaw 28 = .ok (.iload_n 2, 1) := by decide +kernel
theorem dX5_isLaw_29 : decode cX5_isLaw 29 = .ok (.iaload, 1) := by decide +kernel
theorem dX5_isLaw_30 : decode cX5_isLaw 30 = .ok (.invokestatic 25, 3) := by decide +kernel
theorem dX5_isLaw_33 : decode cX5_isLaw 33 = .ok (.istore_n 1, 1) := by decide +kernel
theorem dX5_isLaw_34 : decode cX5_isLaw 34 = .ok (.iinc 2 1, 3) := by decide +kernel
theorem dX5_isLaw_37 : decode cX5_isLaw 37 = .ok (.goto (-33), 3) := by decide +kernel
theorem dX5_isLaw_40 : decode cX5_isLaw 40 = .ok (.iload_n 1, 1) := by decide +kernel
theorem dX5_isLaw_41 : decode cX5_isLaw 41 = .ok (.iconst (-1), 1) := by decide +kernel
theorem dX5_isLaw_42 : decode cX5_isLaw 42 = .ok (.if_icmp .eq 17, 3) := by decide +kernel
theorem dX5_isLaw_45 : decode cX5_isLaw 45 = .ok (.iload_n 1, 1) := by decide +kernel
theorem dX5_isLaw_46 : decode cX5_isLaw 46 = .ok (.iconst 1, 1) := by decide +kernel
theorem dX5_isLaw_47 : decode cX5_isLaw 47 = .ok (.if_icmp .eq 12, 3) := by decide +kernel
theorem dX5_isLaw_50 : decode cX5_isLaw 50 = .ok (.iload_n 1, 1) := by decide +kernel
theorem dX5_isLaw_51 : decode cX5_isLaw 51 = .ok (.iconst 5, 1) := by decide +kernel
theorem dX5_isLaw_52 : decode cX5_isLaw 52 = .ok (.if_icmp .eq 7, 3) := by decide +kernel
theorem dX5_isLaw_55 : decode cX5_isLaw 55 = .ok (.iconst 1, 1) := by decide +kernel
theorem dX5_isLaw_56 : decode cX5_isLaw 56 = .ok (.goto 4, 3) := by decide +kernel
theorem dX5_isLaw_59 : decode cX5_isLaw 59 = .ok (.iconst 0, 1) := by decide +kernel
theorem dX5_isLaw_60 : decode cX5_isLaw 60 = .ok (.ireturn, 1) := by decide +kernel
theorem dX5_behind_0 : decode cX5_behind 0 = .ok (.iload_n 0, 1) := by decide +kernel
theorem dX5_behind_1 : decode cX5_behind 1 = .ok (.iconst 1, 1) := by decide +kernel
theorem dX5_behind_2 : decode cX5_behind 2 = .ok (.if_icmp .ne 20, 3) := by decide +kernel
theorem dX5_behind_5 : decode cX5_behind 5 = .ok (.iload_n 1, 1) := by decide +kernel
theorem dX5_behind_6 : decode cX5_behind 6 = .ok (.bipush 49, 2) := by decide +kernel
theorem dX5_behind_8 : decode cX5_behind 8 = .ok (.bipush 51, 2) := by decide +kernel
theorem dX5_behind_10 : decode cX5_behind 10 = .ok (.invokestatic 29, 3) := by decide +kernel
theorem dX5_behind_13 : decode cX5_behind 13 = .ok (.ifCond .eq 7, 3) := by decide +kernel
theorem dX5_behind_16 : decode cX5_behind 16 = .ok (.iconst 2, 1) := by decide +kernel
theorem dX5_behind_17 : decode cX5_behind 17 = .ok (.goto 4, 3) := by decide +kernel
theorem dX5_behind_20 : decode cX5_behind 20 = .ok (.iconst (-1), 1) := by decide +kernel
theorem dX5_behind_21 : decode cX5_behind 21 = .ok (.ireturn, 1) := by decide +kernel
theorem dX5_behind_22 : decode cX5_behind 22 = .ok (.iload_n 0, 1) := by decide +kernel
theorem dX5_behind_23 : decode cX5_behind 23 = .ok (.iconst 5, 1) := by decide +kernel
theorem dX5_behind_24 : decode cX5_behind 24 = .ok (.if_icmp .ne 21, 3) := by decide +kernel
theorem dX5_behind_27 : decode cX5_behind 27 = .ok (.iload_n 1, 1) := by decide +kernel
theorem dX5_behind_28 : decode cX5_behind 28 = .ok (.bipush 49, 2) := by decide +kernel
theorem dX5_behind_30 : decode cX5_behind 30 = .ok (.bipush 57, 2) := by decide +kernel
theorem dX5_behind_32 : decode cX5_behind 32 = .ok (.invokestatic 29, 3) := by decide +kernel
theorem dX5_behind_35 : decode cX5_behind 35 = .ok (.ifCond .eq 8, 3) := by decide +kernel
theorem dX5_behind_38 : decode cX5_behind 38 = .ok (.bipush 6, 2) := by decide +kernel
theorem dX5_behind_40 : decode cX5_behind 40 = .ok (.goto 4, 3) := by decide +kernel
theorem dX5_behind_43 : decode cX5_behind 43 = .ok (.iconst (-1), 1) := by decide +kernel
theorem dX5_behind_44 : decode cX5_behind 44 = .ok (.ireturn, 1) := by decide +kernel
theorem dX5_behind_45 : decode cX5_behind 45 = .ok (.iload_n 1, 1) := by decide +kernel
theorem dX5_behind_46 : decode cX5_behind 46 = .ok (.bipush 107, 2) := by decide +kernel
theorem dX5_behind_48 : decode cX5_behind 48 = .ok (.if_icmp .ne 9, 3) := by decide +kernel
theorem dX5_behind_51 : decode cX5_behind 51 = .ok (.iload_n 0, 1) := by decide +kernel
theorem dX5_behind_52 : decode cX5_behind 52 = .ok (.ifCond .ne 5, 3) := by decide +kernel
theorem dX5_behind_55 : decode cX5_behind 55 = .ok (.iconst 1, 1) := by decide +kernel
theorem dX5_behind_56 : decode cX5_behind 56 = .ok (.ireturn, 1) := by decide +kernel
theorem dX5_behind_57 : decode cX5_behind 57 = .ok (.iload_n 1, 1) := by decide +kernel
theorem dX5_behind_58 : decode cX5_behind 58 = .ok (.bipush 98, 2) := by decide +kernel
theorem dX5_behind_60 : decode cX5_behind 60 = .ok (.if_icmp .ne 10, 3) := by decide +kernel
theorem dX5_behind_63 : decode cX5_behind 63 = .ok (.iload_n 0, 1) := by decide +kernel
theorem dX5_behind_64 : decode cX5_behind 64 = .ok (.iconst 3, 1) := by decide +kernel
theorem dX5_behind_65 : decode cX5_behind 65 = .ok (.if_icmp .ge 5, 3) := by decide +kernel
theorem dX5_behind_68 : decode cX5_behind 68 = .ok (.iconst 3, 1) := by decide +kernel
theorem dX5_behind_69 : decode cX5_behind 69 = .ok (.ireturn, 1) := by decide +kernel
theorem dX5_behind_70 : decode cX5_behind 70 = .ok (.iload_n 1, 1) := by decide +kernel
theorem dX5_behind_71 : decode cX5_behind 71 = .ok (.bipush 111, 2) := by decide +kernel
theorem dX5_behind_73 : decode cX5_behind 73 = .ok (.if_icmp .ne 10, 3) := by decide +kernel
theorem dX5_behind_76 : decode cX5_behind 76 = .ok (.iload_n 0, 1) := by decide +kernel
theorem dX5_behind_77 : decode cX5_behind 77 = .ok (.iconst 4, 1) := by decide +kernel
theorem dX5_behind_78 : decode cX5_behind 78 = .ok (.if_icmp .ge 5, 3) := by decide +kernel
theorem dX5_behind_81 : decode cX5_behind 81 = .ok (.iconst 4, 1) := by decide +kernel
theorem dX5_behind_82 : decode cX5_behind 82 = .ok (.ireturn, 1) := by decide +kernel
theorem dX5_behind_83 : decode cX5_behind 83 = .ok (.iload_n 1, 1) := by decide +kernel
theorem dX5_behind_84 : decode cX5_behind 84 = .ok (.bipush 119, 2) := by decide +kernel
theorem dX5_behind_86 : decode cX5_behind 86 = .ok (.if_icmp .ne 10, 3) := by decide +kernel
theorem dX5_behind_89 : decode cX5_behind 89 = .ok (.iload_n 0, 1) := by decide +kernel
theorem dX5_behind_90 : decode cX5_behind 90 = .ok (.iconst 5, 1) := by decide +kernel
theorem dX5_behind_91 : decode cX5_behind 91 = .ok (.if_icmp .ge 5, 3) := by decide +kernel
theorem dX5_behind_94 : decode cX5_behind 94 = .ok (.iconst 5, 1) := by decide +kernel
theorem dX5_behind_95 : decode cX5_behind 95 = .ok (.ireturn, 1) := by decide +kernel
theorem dX5_behind_96 : decode cX5_behind 96 = .ok (.iconst (-1), 1) := by decide +kernel
theorem dX5_behind_97 : decode cX5_behind 97 = .ok (.ireturn, 1) := by decide +kernel
theorem dX6_init_0 : decode cX6_init 0 = .ok (.aload_n 0, 1) := by decide +kernel
theorem dX6_init_1 : decode cX6_init 1 = .ok (.invokespecial 3, 3) := by decide +kernel
theorem dX6_init_4 : decode cX6_init 4 = .ok (.aload_n 0, 1) := by decide +kernel
theorem dX6_init_5 : decode cX6_init 5 = .ok (.bipush 72, 2) := by decide +kernel
theorem dX6_init_7 : decode cX6_init 7 = .ok (.newarray .long, 2) := by decide +kernel
theorem dX6_init_9 : decode cX6_init 9 = .ok (.putfield 11, 3) := by decide +kernel
theorem dX6_init_12 : decode cX6_init 12 = .ok (.aload_n 0, 1) := by decide +kernel
theorem dX6_init_13 : decode cX6_init 13 = .ok (.bipush 72, 2) := by decide +kernel
theorem dX6_init_15 : decode cX6_init 15 = .ok (.newarray .long, 2) := by decide +kernel
theorem dX6_init_17 : decode cX6_init 17 = .ok (.putfield 15, 3) := by decide +kernel
theorem dX6_init_20 : decode cX6_init 20 = .ok (.return_, 1) := by decide +kernel
theorem dX6_begin_0 : decode cX6_begin 0 = .ok (.aload_n 0, 1) := by decide +kernel
theorem dX6_begin_1 : decode cX6_begin 1 = .ok (.getfield 11, 3) := by decide +kernel
theorem dX6_begin_4 : decode cX6_begin 4 = .ok (.invokestatic 18, 3) := by decide +kernel
theorem dX6_begin_7 : decode cX6_begin 7 = .ok (.aload_n 0, 1) := by decide +kernel
theorem dX6_begin_8 : decode cX6_begin 8 = .ok (.getfield 11, 3) := by decide +kernel
theorem dX6_begin_11 : decode cX6_begin 11 = .ok (.iload_n 1, 1) := by decide +kernel
theorem dX6_begin_12 : decode cX6_begin 12 = .ok (.iload_n 2, 1) := by decide +kernel
theorem dX6_begin_13 : decode cX6_begin 13 = .ok (.invokestatic 22, 3) := by decide +kernel
theorem dX6_begin_16 : decode cX6_begin 16 = .ok (.lconst 1, 1) := by decide +kernel
theorem dX6_begin_17 : decode cX6_begin 17 = .ok (.lastore, 1) := by decide +kernel
theorem dX6_begin_18 : decode cX6_begin 18 = .ok (.return_, 1) := by decide +kernel
theorem dX6_goOn_0 : decode cX6_goOn 0 = .ok (.aload_n 0, 1) := by decide +kernel
theorem dX6_goOn_1 : decode cX6_goOn 1 = .ok (.getfield 15, 3) := by decide +kernel
theorem dX6_goOn_4 : decode cX6_goOn 4 = .ok (.invokestatic 18, 3) := by decide +kernel
theorem dX6_goOn_7 : decode cX6_goOn 7 = .ok (.lconst 0, 1) := by decide +kernel
theorem dX6_goOn_8 : decode cX6_goOn 8 = .ok (.lstore 5, 2) := by decide +kernel
theorem dX6_goOn_10 : decode cX6_goOn 10 = .ok (.iconst (-1), 1) := by decide +kernel
theorem dX6_goOn_11 : decode cX6_goOn 11 = .ok (.istore 7, 2) := by decide +kernel
theorem dX6_goOn_13 : decode cX6_goOn 13 = .ok (.iload 7, 2) := by decide +kernel
theorem dX6_goOn_15 : decode cX6_goOn 15 = .ok (.aload_n 1, 1) := by decide +kernel
theorem dX6_goOn_16 : decode cX6_goOn 16 = .ok (.getfield 26, 3) := by decide +kernel
theorem dX6_goOn_19 : decode cX6_goOn 19 = .ok (.if_icmp .ge 130, 3) := by decide +kernel
theorem dX6_goOn_22 : decode cX6_goOn 22 = .ok (.iconst 0, 1) := by decide +kernel
theorem dX6_goOn_23 : decode cX6_goOn 23 = .ok (.istore 8, 2) := by decide +kernel
theorem dX6_goOn_25 : decode cX6_goOn 25 = .ok (.iload 8, 2) := by decide +kernel
theorem dX6_goOn_27 : decode cX6_goOn 27 = .ok (.aload_n 1, 1) := by decide +kernel
theorem dX6_goOn_28 : decode cX6_goOn 28 = .ok (.getfield 26, 3) := by decide +kernel
theorem dX6_goOn_31 : decode cX6_goOn 31 = .ok (.if_icmp .ge 112, 3) := by decide +kernel
theorem dX6_goOn_34 : decode cX6_goOn 34 = .ok (.aload_n 0, 1) := by decide +kernel
theorem dX6_goOn_35 : decode cX6_goOn 35 = .ok (.getfield 11, 3) := by decide +kernel
theorem dX6_goOn_38 : decode cX6_goOn 38 = .ok (.iload 7, 2) := by decide +kernel
theorem dX6_goOn_40 : decode cX6_goOn 40 = .ok (.iload 8, 2) := by decide +kernel
theorem dX6_goOn_42 : decode cX6_goOn 42 = .ok (.invokestatic 22, 3) := by decide +kernel
theorem dX6_goOn_45 : decode cX6_goOn 45 = .ok (.laload, 1) := by decide +kernel
theorem dX6_goOn_46 : decode cX6_goOn 46 = .ok (.lstore 9, 2) := by decide +kernel
theorem dX6_goOn_48 : decode cX6_goOn 48 = .ok (.lload 9, 2) := by decide +kernel
theorem dX6_goOn_50 : decode cX6_goOn 50 = .ok (.lconst 0, 1) := by decide +kernel
theorem dX6_goOn_51 : decode cX6_goOn 51 = .ok (.lcmp, 1) := by decide +kernel
theorem dX6_goOn_52 : decode cX6_goOn 52 = .ok (.ifCond .ne 7, 3) := by decide +kernel
theorem dX6_goOn_55 : decode cX6_goOn 55 = .ok (.iconst 0, 1) := by decide +kernel
theorem dX6_goOn_56 : decode cX6_goOn 56 = .ok (.goto 12, 3) := by decide +kernel
theorem dX6_goOn_59 : decode cX6_goOn 59 = .ok (.aload_n 1, 1) := by decide +kernel
theorem dX6_goOn_60 : decode cX6_goOn 60 = .ok (.iload 7, 2) := by decide +kernel
theorem dX6_goOn_62 : decode cX6_goOn 62 = .ok (.iload 8, 2) := by decide +kernel
theorem dX6_goOn_64 : decode cX6_goOn 64 = .ok (.iload_n 2, 1) := by decide +kernel
theorem dX6_goOn_65 : decode cX6_goOn 65 = .ok (.invokevirtual 32, 3) := by decide +kernel
theorem dX6_goOn_68 : decode cX6_goOn 68 = .ok (.istore 11, 2) := by decide +kernel
theorem dX6_goOn_70 : decode cX6_goOn 70 = .ok (.iload 11, 2) := by decide +kernel
theorem dX6_goOn_72 : decode cX6_goOn 72 = .ok (.ifCond .ne 6, 3) := by decide +kernel
theorem dX6_goOn_75 : decode cX6_goOn 75 = .ok (.goto 62, 3) := by decide +kernel
theorem dX6_goOn_78 : decode cX6_goOn 78 = .ok (.iload 4, 2) := by decide +kernel
theorem dX6_goOn_80 : decode cX6_goOn 80 = .ok (.ifCond .eq 19, 3) := by decide +kernel
theorem dX6_goOn_83 : decode cX6_goOn 83 = .ok (.lload 9, 2) := by decide +kernel
theorem dX6_goOn_85 : decode cX6_goOn 85 = .ok (.ldc2_w 36, 3) := by decide +kernel
theorem dX6_goOn_88 : decode cX6_goOn 88 = .ok (.iload 11, 2) := by decide +kernel
theorem dX6_goOn_90 : decode cX6_goOn 90 = .ok (.invokestatic 38, 3) := by decide +kernel
theorem dX6_goOn_93 : decode cX6_goOn 93 = .ok (.i2l, 1) := by decide +kernel
theorem dX6_goOn_94 : decode cX6_goOn 94 = .ok (.ldiv, 1) := by decide +kernel
theorem dX6_goOn_95 : decode cX6_goOn 95 = .ok (.lmul, 1) := by decide +kernel
theorem dX6_goOn_96 : decode cX6_goOn 96 = .ok (.goto 5, 3) := by decide +kernel
theorem dX6_goOn_99 : decode cX6_goOn 99 = .ok (.lload 9, 2) := by decide +kernel
theorem dX6_goOn_101 : decode cX6_goOn 101 = .ok (.lstore 12, 2) := by decide +kernel
theorem dX6_goOn_103 : decode cX6_goOn 103 = .ok (.iload 11, 2) := by decide +kernel
theorem dX6_goOn_105 : decode cX6_goOn 105 = .ok (.iload_n 3, 1) := by decide +kernel
theorem dX6_goOn_106 : decode cX6_goOn 106 = .ok (.invokestatic 44, 3) := by decide +kernel
theorem dX6_goOn_109 : decode cX6_goOn 109 = .ok (.iand, 1) := by decide +kernel
theorem dX6_goOn_110 : decode cX6_goOn 110 = .ok (.ifCond .eq 10, 3) := by decide +kernel
theorem dX6_goOn_113 : decode cX6_goOn 113 = .ok (.lload 5, 2) := by decide +kernel
theorem dX6_goOn_115 : decode cX6_goOn 115 = .ok (.lload 12, 2) := by decide +kernel
theorem dX6_goOn_117 : decode cX6_goOn 117 = .ok (.ladd, 1) := by decide +kernel
theorem dX6_goOn_118 : decode cX6_goOn 118 = .ok (.lstore 5, 2) := by decide +kernel
theorem dX6_goOn_120 : decode cX6_goOn 120 = .ok (.aload_n 0, 1) := by decide +kernel
theorem dX6_goOn_121 : decode cX6_goOn 121 = .ok (.lload 12, 2) := by decide +kernel
theorem dX6_goOn_123 : decode cX6_goOn 123 = .ok (.iload 8, 2) := by decide +kernel
theorem dX6_goOn_125 : decode cX6_goOn 125 = .ok (.iload 11, 2) := by decide +kernel
theorem dX6_goOn_127 : decode cX6_goOn 127 = .ok (.iload_n 3, 1) := by decide +kernel
theorem dX6_goOn_128 : decode cX6_goOn 128 = .ok (.invokestatic 44, 3) := by decide +kernel
theorem dX6_goOn_131 : decode cX6_goOn 131 = .ok (.iconst (-1), 1) := by decide +kernel
theorem dX6_goOn_132 : decode cX6_goOn 132 = .ok (.ixor, 1) := by decide +kernel
theorem dX6_goOn_133 : decode cX6_goOn 133 = .ok (.iand, 1) := by decide +kernel
theorem dX6_goOn_134 : decode cX6_goOn 134 = .ok (.invokevirtual 47, 3) := by decide +kernel
theorem dX6_goOn_137 : decode cX6_goOn 137 = .ok (.iinc 8 1, 3) := by decide +kernel
theorem dX6_goOn_140 : decode cX6_goOn 140 = .ok (.goto (-115), 3) := by decide +kernel
theorem dX6_goOn_143 : decode cX6_goOn 143 = .ok (.iinc 7 1, 3) := by decide +kernel
theorem dX6_goOn_146 : decode cX6_goOn 146 = .ok (.goto (-133), 3) := by decide +kernel
theorem dX6_goOn_149 : decode cX6_goOn 149 = .ok (.aload_n 0, 1) := by decide +kernel
theorem dX6_goOn_150 : decode cX6_goOn 150 = .ok (.getfield 15, 3) := by decide +kernel
theorem dX6_goOn_153 : decode cX6_goOn 153 = .ok (.iconst 0, 1) := by decide +kernel
theorem dX6_goOn_154 : decode cX6_goOn 154 = .ok (.aload_n 0, 1) := by decide +kernel
theorem dX6_goOn_155 : decode cX6_goOn 155 = .ok (.getfield 11, 3) := by decide +kernel
theorem dX6_goOn_158 : decode cX6_goOn 158 = .ok (.iconst 0, 1) := by decide +kernel
theorem dX6_goOn_159 : decode cX6_goOn 159 = .ok (.bipush 72, 2) := by decide +kernel
theorem dX6_goOn_161 : decode cX6_goOn 161 = .ok (.invokestatic 51, 3) := by decide +kernel
theorem dX6_goOn_164 : decode cX6_goOn 164 = .ok (.lload 5, 2) := by decide +kernel
theorem dX6_goOn_166 : decode cX6_goOn 166 = .ok (.lreturn, 1) := by decide +kernel
theorem dX6_spread_0 : decode cX6_spread 0 = .ok (.iconst 0, 1) := by decide +kernel
theorem dX6_spread_1 : decode cX6_spread 1 = .ok (.istore 5, 2) := by decide +kernel
theorem dX6_spread_3 : decode cX6_spread 3 = .ok (.iload 5, 2) := by decide +kernel
theorem dX6_spread_5 : decode cX6_spread 5 = .ok (.bipush 8, 2) := by decide +kernel
theorem dX6_spread_7 : decode cX6_spread 7 = .ok (.if_icmp .ge 35, 3) := by decide +kernel
theorem dX6_spread_10 : decode cX6_spread 10 = .ok (.iload 4, 2) := by decide +kernel
theorem dX6_spread_12 : decode cX6_spread 12 = .ok (.iload 5, 2) := by decide +kernel
theorem dX6_spread_14 : decode cX6_spread 14 = .ok (.invokestatic 44, 3) := by decide +kernel
theorem dX6_spread_17 : decode cX6_spread 17 = .ok (.iand, 1) := by decide +kernel
theorem dX6_spread_18 : decode cX6_spread 18 = .ok (.ifCond .eq 18, 3) := by decide +kernel
theorem dX6_spread_21 : decode cX6_spread 21 = .ok (.aload_n 0, 1) := by decide +kernel
theorem dX6_spread_22 : decode cX6_spread 22 = .ok (.getfield 15, 3) := by decide +kernel
theorem dX6_spread_25 : decode cX6_spread 25 = .ok (.iload_n 3, 1) := by decide +kernel
theorem dX6_spread_26 : decode cX6_spread 26 = .ok (.iload 5, 2) := by decide +kernel
theorem dX6_spread_28 : decode cX6_spread 28 = .ok (.invokestatic 22, 3) := by decide +kernel
theorem dX6_spread_31 : decode cX6_spread 31 = .ok (.dup2, 1) := by decide +kernel
theorem dX6_spread_32 : decode cX6_spread 32 = .ok (.laload, 1) := by decide +kernel
theorem dX6_spread_33 : decode cX6_spread 33 = .ok (.lload_n 1, 1) := by decide +kernel
theorem dX6_spread_34 : decode cX6_spread 34 = .ok (.ladd, 1) := by decide +kernel
theorem dX6_spread_35 : decode cX6_spread 35 = .ok (.lastore, 1) := by decide +kernel
theorem dX6_spread_36 : decode cX6_spread 36 = .ok (.iinc 5 1, 3) := by decide +kernel
theorem dX6_spread_39 : decode cX6_spread 39 = .ok (.goto (-36), 3) := by decide +kernel
theorem dX6_spread_42 : decode cX6_spread 42 = .ok (.return_, 1) := by decide +kernel
theorem dX6_keepOnly_0 : decode cX6_keepOnly 0 = .ok (.iconst 0, 1) := by decide +kernel
theorem dX6_keepOnly_1 : decode cX6_keepOnly 1 = .ok (.istore_n 2, 1) := by decide +kernel
theorem dX6_keepOnly_2 : decode cX6_keepOnly 2 = .ok (.iload_n 2, 1) := by decide +kernel
theorem dX6_keepOnly_3 : decode cX6_keepOnly 3 = .ok (.bipush 72, 2) := by decide +kernel
theorem dX6_keepOnly_5 : decode cX6_keepOnly 5 = .ok (.if_icmp .ge 24, 3) := by decide +kernel
theorem dX6_keepOnly_8 : decode cX6_keepOnly 8 = .ok (.iload_n 2, 1) := by decide +kernel
theorem dX6_keepOnly_9 : decode cX6_keepOnly 9 = .ok (.bipush 8, 2) := by decide +kernel
theorem dX6_keepOnly_11 : decode cX6_keepOnly 11 = .ok (.irem, 1) := by decide +kernel
theorem dX6_keepOnly_12 : decode cX6_keepOnly 12 = .ok (.iload_n 1, 1) := by decide +kernel
theorem dX6_keepOnly_13 : decode cX6_keepOnly 13 = .ok (.if_icmp .eq 10, 3) := by decide +kernel
theorem dX6_keepOnly_16 : decode cX6_keepOnly 16 = .ok (.aload_n 0, 1) := by decide +kernel
theorem dX6_keepOnly_17 : decode cX6_keepOnly 17 = .ok (.getfield 11, 3) := by decide +kernel
theorem dX6_keepOnly_20 : decode cX6_keepOnly 20 = .ok (.iload_n 2, 1) := by decide +kernel
theorem dX6_keepOnly_21 : decode cX6_keepOnly 21 = .ok (.lconst 0, 1) := by decide +kernel
theorem dX6_keepOnly_22 : decode cX6_keepOnly 22 = .ok (.lastore, 1) := by decide +kernel
theorem dX6_keepOnly_23 : decode cX6_keepOnly 23 = .ok (.iinc 2 1, 3) := by decide +kernel
theorem dX6_keepOnly_26 : decode cX6_keepOnly 26 = .ok (.goto (-24), 3) := by decide +kernel
theorem dX6_keepOnly_29 : decode cX6_keepOnly 29 = .ok (.return_, 1) := by decide +kernel
theorem dX6_sum_0 : decode cX6_sum 0 = .ok (.lconst 0, 1) := by decide +kernel
theorem dX6_sum_1 : decode cX6_sum 1 = .ok (.lstore_n 1, 1) := by decide +kernel
theorem dX6_sum_2 : decode cX6_sum 2 = .ok (.iconst 0, 1) := by decide +kernel
theorem dX6_sum_3 : decode cX6_sum 3 = .ok (.istore_n 3, 1) := by decide +kernel
theorem dX6_sum_4 : decode cX6_sum 4 = .ok (.iload_n 3, 1) := by decide +kernel
theorem dX6_sum_5 : decode cX6_sum 5 = .ok (.bipush 72, 2) := by decide +kernel
theorem dX6_sum_7 : decode cX6_sum 7 = .ok (.if_icmp .ge 18, 3) := by decide +kernel
theorem dX6_sum_10 : decode cX6_sum 10 = .ok (.lload_n 1, 1) := by decide +kernel
theorem dX6_sum_11 : decode cX6_sum 11 = .ok (.aload_n 0, 1) := by decide +kernel
theorem dX6_sum_12 : decode cX6_sum 12 = .ok (.getfield 11, 3) := by decide +kernel
theorem dX6_sum_15 : decode cX6_sum 15 = .ok (.iload_n 3, 1) := by decide +kernel
theorem dX6_sum_16 : decode cX6_sum 16 = .ok (.laload, 1) := by decide +kernel
theorem dX6_sum_17 : decode cX6_sum 17 = .ok (.ladd, 1) := by decide +kernel
theorem dX6_sum_18 : decode cX6_sum 18 = .ok (.lstore_n 1, 1) := by decide +kernel
theorem dX6_sum_19 : decode cX6_sum 19 = .ok (.iinc 3 1, 3) := by decide +kernel
theorem dX6_sum_22 : decode cX6_sum 22 = .ok (.goto (-18), 3) := by decide +kernel
theorem dX6_sum_25 : decode cX6_sum 25 = .ok (.lload_n 1, 1) := by decide +kernel
theorem dX6_sum_26 : decode cX6_sum 26 = .ok (.lreturn, 1) := by decide +kernel
theorem dX6_spot_0 : decode cX6_spot 0 = .ok (.iload_n 0, 1) := by decide +kernel
theorem dX6_spot_1 : decode cX6_spot 1 = .ok (.iconst 1, 1) := by decide +kernel
theorem dX6_spot_2 : decode cX6_spot 2 = .ok (.iadd, 1) := by decide +kernel
theorem dX6_spot_3 : decode cX6_spot 3 = .ok (.bipush 8, 2) := by decide +kernel
theorem dX6_spot_5 : decode cX6_spot 5 = .ok (.imul, 1) := by decide +kernel
theorem dX6_spot_6 : decode cX6_spot 6 = .ok (.iload_n 1, 1) := by decide +kernel
theorem dX6_spot_7 : decode cX6_spot 7 = .ok (.iadd, 1) := by decide +kernel
theorem dX6_spot_8 : decode cX6_spot 8 = .ok (.ireturn, 1) := by decide +kernel
theorem dX6_clear_0 : decode cX6_clear 0 = .ok (.iconst 0, 1) := by decide +kernel
theorem dX6_clear_1 : decode cX6_clear 1 = .ok (.istore_n 1, 1) := by decide +kernel
theorem dX6_clear_2 : decode cX6_clear 2 = .ok (.iload_n 1, 1) := by decide +kernel
theorem dX6_clear_3 : decode cX6_clear 3 = .ok (.aload_n 0, 1) := by decide +kernel
theorem dX6_clear_4 : decode cX6_clear 4 = .ok (.arraylength, 1) := by decide +kernel
theorem dX6_clear_5 : decode cX6_clear 5 = .ok (.if_icmp .ge 13, 3) := by decide +kernel
theorem dX6_clear_8 : decode cX6_clear 8 = .ok (.aload_n 0, 1) := by decide +kernel
theorem dX6_clear_9 : decode cX6_clear 9 = .ok (.iload_n 1, 1) := by decide +kernel
theorem dX6_clear_10 : decode cX6_clear 10 = .ok (.lconst 0, 1) := by decide +kernel
theorem dX6_clear_11 : decode cX6_clear 11 = .ok (.lastore, 1) := by decide +kernel
theorem dX6_clear_12 : decode cX6_clear 12 = .ok (.iinc 1 1, 3) := by decide +kernel
theorem dX6_clear_15 : decode cX6_clear 15 = .ok (.goto (-13), 3) := by decide +kernel
theorem dX6_clear_18 : decode cX6_clear 18 = .ok (.return_, 1) := by decide +kernel
theorem dX7_init_0 : decode cX7_init 0 = .ok (.aload_n 0, 1) := by decide +kernel
theorem dX7_init_1 : decode cX7_init 1 = .ok (.invokespecial 3, 3) := by decide +kernel
theorem dX7_init_4 : decode cX7_init 4 = .ok (.aload_n 0, 1) := by decide +kernel
theorem dX7_init_5 : decode cX7_init 5 = .ok (.bipush 8, 2) := by decide +kernel
theorem dX7_init_7 : decode cX7_init 7 = .ok (.newarray .int, 2) := by decide +kernel
theorem dX7_init_9 : decode cX7_init 9 = .ok (.putfield 9, 3) := by decide +kernel
theorem dX7_init_12 : decode cX7_init 12 = .ok (.aload_n 0, 1) := by decide +kernel
theorem dX7_init_13 : decode cX7_init 13 = .ok (.bipush 8, 2) := by decide +kernel
theorem dX7_init_15 : decode cX7_init 15 = .ok (.newarray .int, 2) := by decide +kernel
theorem dX7_init_17 : decode cX7_init 17 = .ok (.putfield 15, 3) := by decide +kernel
theorem dX7_init_20 : decode cX7_init 20 = .ok (.aload_n 0, 1) := by decide +kernel
theorem dX7_init_21 : decode cX7_init 21 = .ok (.bipush 8, 2) := by decide +kernel
theorem dX7_init_23 : decode cX7_init 23 = .ok (.newarray .int, 2) := by decide +kernel
theorem dX7_init_25 : decode cX7_init 25 = .ok (.putfield 18, 3) := by decide +kernel
theorem dX7_init_28 : decode cX7_init 28 = .ok (.aload_n 0, 1) := by decide +kernel
theorem dX7_init_29 : decode cX7_init 29 = .ok (.bipush 64, 2) := by decide +kernel
theorem dX7_init_31 : decode cX7_init 31 = .ok (.newarray .int, 2) := by decide +kernel
theorem dX7_init_33 : decode cX7_init 33 = .ok (.putfield 21, 3) := by decide +kernel
theorem dX7_init_36 : decode cX7_init 36 = .ok (.aload_n 0, 1) := by decide +kernel
theorem dX7_init_37 : decode cX7_init 37 = .ok (.bipush 64, 2) := by decide +kernel
theorem dX7_init_39 : decode cX7_init 39 = .ok (.newarray .int, 2) := by decide +kernel
theorem dX7_init_41 : decode cX7_init 41 = .ok (.putfield 24, 3) := by decide +kernel
theorem dX7_init_44 : decode cX7_init 44 = .ok (.aload_n 0, 1) := by decide +kernel
theorem dX7_init_45 : decode cX7_init 45 = .ok (.bipush 8, 2) := by decide +kernel
theorem dX7_init_47 : decode cX7_init 47 = .ok (.anewarray 27, 3) := by decide +kernel
theorem dX7_init_50 : decode cX7_init 50 = .ok (.putfield 29, 3) := by decide +kernel
theorem dX7_init_53 : decode cX7_init 53 = .ok (.iconst 0, 1) := by decide +kernel
theorem dX7_init_54 : decode cX7_init 54 = .ok (.istore_n 1, 1) := by decide +kernel
theorem dX7_init_55 : decode cX7_init 55 = .ok (.iload_n 1, 1) := by decide +kernel
theorem dX7_init_56 : decode cX7_init 56 = .ok (.bipush 8, 2) := by decide +kernel
theorem dX7_init_58 : decode cX7_init 58 = .ok (.if_icmp .ge 22, 3) := by decide +kernel
theorem dX7_init_61 : decode cX7_init 61 = .ok (.aload_n 0, 1) := by decide +kernel
theorem dX7_init_62 : decode cX7_init 62 = .ok (.getfield 29, 3) := by decide +kernel
theorem dX7_init_65 : decode cX7_init 65 = .ok (.iload_n 1, 1) := by decide +kernel
theorem dX7_init_66 : decode cX7_init 66 = .ok (.new 27, 3) := by decide +kernel
theorem dX7_init_69 : decode cX7_init 69 = .ok (.dup, 1) := by decide +kernel
theorem dX7_init_70 : decode cX7_init 70 = .ok (.invokespecial 33, 3) := by decide +kernel
theorem dX7_init_73 : decode cX7_init 73 = .ok (.aastore, 1) := by decide +kernel
theorem dX7_init_74 : decode cX7_init 74 = .ok (.iinc 1 1, 3) := by decide +kernel
theorem dX7_init_77 : decode cX7_init 77 = .ok (.goto (-22), 3) := by decide +kernel
theorem dX7_init_80 : decode cX7_init 80 = .ok (.return_, 1) := by decide +kernel
theorem dX7_copyFrom_0 : decode cX7_copyFrom 0 = .ok (.aload_n 0, 1) := by decide +kernel
theorem dX7_copyFrom_1 : decode cX7_copyFrom 1 = .ok (.aload_n 1, 1) := by decide +kernel
theorem dX7_copyFrom_2 : decode cX7_copyFrom 2 = .ok (.getfield 34, 3) := by decide +kernel
theorem dX7_copyFrom_5 : decode cX7_copyFrom 5 = .ok (.putfield 34, 3) := by decide +kernel
theorem dX7_copyFrom_8 : decode cX7_copyFrom 8 = .ok (.aload_n 1, 1) := by decide +kernel
theorem dX7_copyFrom_9 : decode cX7_copyFrom 9 = .ok (.getfield 9, 3) := by decide +kernel
theorem dX7_copyFrom_12 : decode cX7_copyFrom 12 = .ok (.iconst 0, 1) := by decide +kernel
theorem dX7_copyFrom_13 : decode cX7_copyFrom 13 = .ok (.aload_n 0, 1) := by decide +kernel
theorem dX7_copyFrom_14 : decode cX7_copyFrom 14 = .ok (.getfield 9, 3) := by decide +kernel
theorem dX7_copyFrom_17 : decode cX7_copyFrom 17 = .ok (.iconst 0, 1) := by decide +kernel
theorem dX7_copyFrom_18 : decode cX7_copyFrom 18 = .ok (.bipush 8, 2) := by decide +kernel
theorem dX7_copyFrom_20 : decode cX7_copyFrom 20 = .ok (.invokestatic 38, 3) := by decide +kernel
theorem dX7_copyFrom_23 : decode cX7_copyFrom 23 = .ok (.aload_n 1, 1) := by decide +kernel
theorem dX7_copyFrom_24 : decode cX7_copyFrom 24 = .ok (.getfield 15, 3) := by decide +kernel
theorem dX7_copyFrom_27 : decode cX7_copyFrom 27 = .ok (.iconst 0, 1) := by decide +kernel
theorem dX7_copyFrom_28 : decode cX7_copyFrom 28 = .ok (.aload_n 0, 1) := by decide +kernel
theorem dX7_copyFrom_29 : decode cX7_copyFrom 29 = .ok (.getfield 15, 3) := by decide +kernel
theorem dX7_copyFrom_32 : decode cX7_copyFrom 32 = .ok (.iconst 0, 1) := by decide +kernel
theorem dX7_copyFrom_33 : decode cX7_copyFrom 33 = .ok (.bipush 8, 2) := by decide +kernel
theorem dX7_copyFrom_35 : decode cX7_copyFrom 35 = .ok (.invokestatic 38, 3) := by decide +kernel
theorem dX7_copyFrom_38 : decode cX7_copyFrom 38 = .ok (.aload_n 1, 1) := by decide +kernel
theorem dX7_copyFrom_39 : decode cX7_copyFrom 39 = .ok (.getfield 18, 3) := by decide +kernel
theorem dX7_copyFrom_42 : decode cX7_copyFrom 42 = .ok (.iconst 0, 1) := by decide +kernel
theorem dX7_copyFrom_43 : decode cX7_copyFrom 43 = .ok (.aload_n 0, 1) := by decide +kernel
theorem dX7_copyFrom_44 : decode cX7_copyFrom 44 = .ok (.getfield 18, 3) := by decide +kernel
theorem dX7_copyFrom_47 : decode cX7_copyFrom 47 = .ok (.iconst 0, 1) := by decide +kernel
theorem dX7_copyFrom_48 : decode cX7_copyFrom 48 = .ok (.bipush 8, 2) := by decide +kernel
theorem dX7_copyFrom_50 : decode cX7_copyFrom 50 = .ok (.invokestatic 38, 3) := by decide +kernel
theorem dX7_copyFrom_53 : decode cX7_copyFrom 53 = .ok (.aload_n 1, 1) := by decide +kernel
theorem dX7_copyFrom_54 : decode cX7_copyFrom 54 = .ok (.getfield 21, 3) := by decide +kernel
theorem dX7_copyFrom_57 : decode cX7_copyFrom 57 = .ok (.iconst 0, 1) := by decide +kernel
theorem dX7_copyFrom_58 : decode cX7_copyFrom 58 = .ok (.aload_n 0, 1) := by decide +kernel
theorem dX7_copyFrom_59 : decode cX7_copyFrom 59 = .ok (.getfield 21, 3) := by decide +kernel
theorem dX7_copyFrom_62 : decode cX7_copyFrom 62 = .ok (.iconst 0, 1) := by decide +kernel
theorem dX7_copyFrom_63 : decode cX7_copyFrom 63 = .ok (.bipush 64, 2) := by decide +kernel
theorem dX7_copyFrom_65 : decode cX7_copyFrom 65 = .ok (.invokestatic 38, 3) := by decide +kernel
theorem dX7_copyFrom_68 : decode cX7_copyFrom 68 = .ok (.aload_n 1, 1) := by decide +kernel
theorem dX7_copyFrom_69 : decode cX7_copyFrom 69 = .ok (.getfield 24, 3) := by decide +kernel
theorem dX7_copyFrom_72 : decode cX7_copyFrom 72 = .ok (.iconst 0, 1) := by decide +kernel
theorem dX7_copyFrom_73 : decode cX7_copyFrom 73 = .ok (.aload_n 0, 1) := by decide +kernel
theorem dX7_copyFrom_74 : decode cX7_copyFrom 74 = .ok (.getfield 24, 3) := by decide +kernel
theorem dX7_copyFrom_77 : decode cX7_copyFrom 77 = .ok (.iconst 0, 1) := by decide +kernel
theorem dX7_copyFrom_78 : decode cX7_copyFrom 78 = .ok (.bipush 64, 2) := by decide +kernel
theorem dX7_copyFrom_80 : decode cX7_copyFrom 80 = .ok (.invokestatic 38, 3) := by decide +kernel
theorem dX7_copyFrom_83 : decode cX7_copyFrom 83 = .ok (.aload_n 0, 1) := by decide +kernel
theorem dX7_copyFrom_84 : decode cX7_copyFrom 84 = .ok (.aload_n 1, 1) := by decide +kernel
theorem dX7_copyFrom_85 : decode cX7_copyFrom 85 = .ok (.getfield 44, 3) := by decide +kernel
theorem dX7_copyFrom_88 : decode cX7_copyFrom 88 = .ok (.putfield 44, 3) := by decide +kernel
theorem dX7_copyFrom_91 : decode cX7_copyFrom 91 = .ok (.iconst 0, 1) := by decide +kernel
theorem dX7_copyFrom_92 : decode cX7_copyFrom 92 = .ok (.istore_n 2, 1) := by decide +kernel
theorem dX7_copyFrom_93 : decode cX7_copyFrom 93 = .ok (.iload_n 2, 1) := by decide +kernel
theorem dX7_copyFrom_94 : decode cX7_copyFrom 94 = .ok (.bipush 8, 2) := by decide +kernel
theorem dX7_copyFrom_96 : decode cX7_copyFrom 96 = .ok (.if_icmp .ge 24, 3) := by decide +kernel
theorem dX7_copyFrom_99 : decode cX7_copyFrom 99 = .ok (.aload_n 0, 1) := by decide +kernel
theorem dX7_copyFrom_100 : decode cX7_copyFrom 100 = .ok (.getfield 29, 3) := by decide +kernel
theorem dX7_copyFrom_103 : decode cX7_copyFrom 103 = .ok (.iload_n 2, 1) := by decide +kernel
theorem dX7_copyFrom_104 : decode cX7_copyFrom 104 = .ok (.aaload, 1) := by decide +kernel
theorem dX7_copyFrom_105 : decode cX7_copyFrom 105 = .ok (.aload_n 1, 1) := by decide +kernel
theorem dX7_copyFrom_106 : decode cX7_copyFrom 106 = .ok (.getfield 29, 3) := by decide +kernel
theorem dX7_copyFrom_109 : decode cX7_copyFrom 109 = .ok (.iload_n 2, 1) := by decide +kernel
theorem dX7_copyFrom_110 : decode cX7_copyFrom 110 = .ok (.aaload, 1) := by decide +kernel
theorem dX7_copyFrom_111 : decode cX7_copyFrom 111 = .ok (.invokevirtual 47, 3) := by decide +kernel
theorem dX7_copyFrom_114 : decode cX7_copyFrom 114 = .ok (.iinc 2 1, 3) := by decide +kernel
theorem dX7_copyFrom_117 : decode cX7_copyFrom 117 = .ok (.goto (-24), 3) := by decide +kernel
theorem dX7_copyFrom_120 : decode cX7_copyFrom 120 = .ok (.aload_n 0, 1) := by decide +kernel
theorem dX7_copyFrom_121 : decode cX7_copyFrom 121 = .ok (.aload_n 1, 1) := by decide +kernel
theorem dX7_copyFrom_122 : decode cX7_copyFrom 122 = .ok (.getfield 51, 3) := by decide +kernel
theorem dX7_copyFrom_125 : decode cX7_copyFrom 125 = .ok (.putfield 51, 3) := by decide +kernel
theorem dX7_copyFrom_128 : decode cX7_copyFrom 128 = .ok (.return_, 1) := by decide +kernel
theorem dX7_addPerson_0 : decode cX7_addPerson 0 = .ok (.aload_n 0, 1) := by decide +kernel
theorem dX7_addPerson_1 : decode cX7_addPerson 1 = .ok (.getfield 9, 3) := by decide +kernel
theorem dX7_addPerson_4 : decode cX7_addPerson 4 = .ok (.aload_n 0, 1) := by decide +kernel
theorem dX7_addPerson_5 : decode cX7_addPerson 5 = .ok (.getfield 34, 3) := by decide +kernel
theorem dX7_addPerson_8 : decode cX7_addPerson 8 = .ok (.iload_n 1, 1) := by decide +kernel
theorem dX7_addPerson_9 : decode cX7_addPerson 9 = .ok (.iastore, 1) := by decide +kernel
theorem dX7_addPerson_10 : decode cX7_addPerson 10 = .ok (.aload_n 0, 1) := by decide +kernel
theorem dX7_addPerson_11 : decode cX7_addPerson 11 = .ok (.dup, 1) := by decide +kernel
theorem dX7_addPerson_12 : decode cX7_addPerson 12 = .ok (.getfield 34, 3) := by decide +kernel
theorem dX7_addPerson_15 : decode cX7_addPerson 15 = .ok (.iconst 1, 1) := by decide +kernel
theorem dX7_addPerson_16 : decode cX7_addPerson 16 = .ok (.iadd, 1) := by decide +kernel
theorem dX7_addPerson_17 : decode cX7_addPerson 17 = .ok (.putfield 34, 3) := by decide +kernel
theorem dX7_addPerson_20 : decode cX7_addPerson 20 = .ok (.aload_n 0, 1) := by decide +kernel
theorem dX7_addPerson_21 : decode cX7_addPerson 21 = .ok (.getfield 34, 3) := by decide +kernel
theorem dX7_addPerson_24 : decode cX7_addPerson 24 = .ok (.iconst 1, 1) := by decide +kernel
theorem dX7_addPerson_25 : decode cX7_addPerson 25 = .ok (.isub, 1) := by decide +kernel
theorem dX7_addPerson_26 : decode cX7_addPerson 26 = .ok (.ireturn, 1) := by decide +kernel
theorem dX7_addGift_0 : decode cX7_addGift 0 = .ok (.aload_n 0, 1) := by decide +kernel
theorem dX7_addGift_1 : decode cX7_addGift 1 = .ok (.getfield 29, 3) := by decide +kernel
theorem dX7_addGift_4 : decode cX7_addGift 4 = .ok (.aload_n 0, 1) := by decide +kernel
theorem dX7_addGift_5 : decode cX7_addGift 5 = .ok (.getfield 44, 3) := by decide +kernel
theorem dX7_addGift_8 : decode cX7_addGift 8 = .ok (.aaload, 1) := by decide +kernel
theorem dX7_addGift_9 : decode cX7_addGift 9 = .ok (.iload_n 1, 1) := by decide +kernel
theorem dX7_addGift_10 : decode cX7_addGift 10 = .ok (.iload_n 2, 1) := by decide +kernel
theorem dX7_addGift_11 : decode cX7_addGift 11 = .ok (.invokevirtual 54, 3) := by decide +kernel
theorem dX7_addGift_14 : decode cX7_addGift 14 = .ok (.aload_n 0, 1) := by decide +kernel
theorem dX7_addGift_15 : decode cX7_addGift 15 = .ok (.dup, 1) := by decide +kernel
theorem dX7_addGift_16 : decode cX7_addGift 16 = .ok (.getfield 44, 3) := by decide +kernel
theorem dX7_addGift_19 : decode cX7_addGift 19 = .ok (.iconst 1, 1) := by decide +kernel
theorem dX7_addGift_20 : decode cX7_addGift 20 = .ok (.iadd, 1) := by decide +kernel
theorem dX7_addGift_21 : decode cX7_addGift 21 = .ok (.putfield 44, 3) := by decide +kernel
theorem dX7_addGift_24 : decode cX7_addGift 24 = .ok (.aload_n 0, 1) := by decide +kernel
theorem dX7_addGift_25 : decode cX7_addGift 25 = .ok (.getfield 44, 3) := by decide +kernel
theorem dX7_addGift_28 : decode cX7_addGift 28 = .ok (.iconst 1, 1) := by decide +kernel
theorem dX7_addGift_29 : decode cX7_addGift 29 = .ok (.isub, 1) := by decide +kernel
theorem dX7_addGift_30 : decode cX7_addGift 30 = .ok (.ireturn, 1) := by decide +kernel
theorem dX7_knows_0 : decode cX7_knows 0 = .ok (.aload_n 0, 1) := by decide +kernel
theorem dX7_knows_1 : decode cX7_knows 1 = .ok (.getfield 15, 3) := by decide +kernel
theorem dX7_knows_4 : decode cX7_knows 4 = .ok (.iload_n 1, 1) := by decide +kernel
theorem dX7_knows_5 : decode cX7_knows 5 = .ok (.iaload, 1) := by decide +kernel
theorem dX7_knows_6 : decode cX7_knows 6 = .ok (.iload_n 2, 1) := by decide +kernel
theorem dX7_knows_7 : decode cX7_knows 7 = .ok (.invokestatic 58, 3) := by decide +kernel
theorem dX7_knows_10 : decode cX7_knows 10 = .ok (.iand, 1) := by decide +kernel
theorem dX7_knows_11 : decode cX7_knows 11 = .ok (.ifCond .eq 7, 3) := by decide +kernel
theorem dX7_knows_14 : decode cX7_knows 14 = .ok (.iconst 1, 1) := by decide +kernel
theorem dX7_knows_15 : decode cX7_knows 15 = .ok (.goto 4, 3) := by decide +kernel
theorem dX7_knows_18 : decode cX7_knows 18 = .ok (.iconst 0, 1) := by decide +kernel
theorem dX7_knows_19 : decode cX7_knows 19 = .ok (.ireturn, 1) := by decide +kernel
theorem dX7_setKnown_0 : decode cX7_setKnown 0 = .ok (.aload_n 0, 1) := by decide +kernel
theorem dX7_setKnown_1 : decode cX7_setKnown 1 = .ok (.getfield 15, 3) := by decide +kernel
theorem dX7_setKnown_4 : decode cX7_setKnown 4 = .ok (.iload_n 1, 1) := by decide +kernel
theorem dX7_setKnown_5 : decode cX7_setKnown 5 = .ok (.iload_n 3, 1) := by decide +kernel
theorem dX7_setKnown_6 : decode cX7_setKnown 6 = .ok (.ifCond .eq 17, 3) := by decide +kernel
theorem dX7_setKnown_9 : decode cX7_setKnown 9 = .ok (.aload_n 0, 1) := by decide +kernel
theorem dX7_setKnown_10 : decode cX7_setKnown 10 = .ok (.getfield 15, 3) := by decide +kernel
theorem dX7_setKnown_13 : decode cX7_setKnown 13 = .ok (.iload_n 1, 1) := by decide +kernel
theorem dX7_setKnown_14 : decode cX7_setKnown 14 = .ok (.iaload, 1) := by decide +kernel
theorem dX7_setKnown_15 : decode cX7_setKnown 15 = .ok (.iload_n 2, 1) := by decide +kernel
theorem dX7_setKnown_16 : decode cX7_setKnown 16 = .ok (.invokestatic 58, 3) := by decide +kernel
theorem dX7_setKnown_19 : decode cX7_setKnown 19 = .ok (.ior, 1) := by decide +kernel
theorem dX7_setKnown_20 : decode cX7_setKnown 20 = .ok (.goto 16, 3) := by decide +kernel
theorem dX7_setKnown_23 : decode cX7_setKnown 23 = .ok (.aload_n 0, 1) := by decide +kernel
theorem dX7_setKnown_24 : decode cX7_setKnown 24 = .ok (.getfield 15, 3) := by decide +kernel
theorem dX7_setKnown_27 : decode cX7_setKnown 27 = .ok (.iload_n 1, 1) := by decide +kernel
theorem dX7_setKnown_28 : decode cX7_setKnown 28 = .ok (.iaload, 1) := by decide +kernel
theorem dX7_setKnown_29 : decode cX7_setKnown 29 = .ok (.iload_n 2, 1) := by decide +kernel
theorem dX7_setKnown_30 : decode cX7_setKnown 30 = .ok (.invokestatic 58, 3) := by decide +kernel
theorem dX7_setKnown_33 : decode cX7_setKnown 33 = .ok (.iconst (-1), 1) := by decide +kernel
theorem dX7_setKnown_34 : decode cX7_setKnown 34 = .ok (.ixor, 1) := by decide +kernel
theorem dX7_setKnown_35 : decode cX7_setKnown 35 = .ok (.iand, 1) := by decide +kernel
theorem dX7_setKnown_36 : decode cX7_setKnown 36 = .ok (.iastore, 1) := by decide +kernel
theorem dX7_setKnown_37 : decode cX7_setKnown 37 = .ok (.aload_n 0, 1) := by decide +kernel
theorem dX7_setKnown_38 : decode cX7_setKnown 38 = .ok (.getfield 15, 3) := by decide +kernel
theorem dX7_setKnown_41 : decode cX7_setKnown 41 = .ok (.iload_n 2, 1) := by decide +kernel
theorem dX7_setKnown_42 : decode cX7_setKnown 42 = .ok (.iload_n 3, 1) := by decide +kernel
theorem dX7_setKnown_43 : decode cX7_setKnown 43 = .ok (.ifCond .eq 17, 3) := by decide +kernel
theorem dX7_setKnown_46 : decode cX7_setKnown 46 = .ok (.aload_n 0, 1) := by decide +kernel
theorem dX7_setKnown_47 : decode cX7_setKnown 47 = .ok (.getfield 15, 3) := by decide +kernel
theorem dX7_setKnown_50 : decode cX7_setKnown 50 = .ok (.iload_n 2, 1) := by decide +kernel
theorem dX7_setKnown_51 : decode cX7_setKnown 51 = .ok (.iaload, 1) := by decide +kernel
theorem dX7_setKnown_52 : decode cX7_setKnown 52 = .ok (.iload_n 1, 1) := by decide +kernel
theorem dX7_setKnown_53 : decode cX7_setKnown 53 = .ok (.invokestatic 58, 3) := by decide +kernel
theorem dX7_setKnown_56 : decode cX7_setKnown 56 = .ok (.ior, 1) := by decide +kernel
theorem dX7_setKnown_57 : decode cX7_setKnown 57 = .ok (.goto 16, 3) := by decide +kernel
theorem dX7_setKnown_60 : decode cX7_setKnown 60 = .ok (.aload_n 0, 1) := by decide +kernel
theorem dX7_setKnown_61 : decode cX7_setKnown 61 = .ok (.getfield 15, 3) := by decide +kernel
theorem dX7_setKnown_64 : decode cX7_setKnown 64 = .ok (.iload_n 2, 1) := by decide +kernel
theorem dX7_setKnown_65 : decode cX7_setKnown 65 = .ok (.iaload, 1) := by decide +kernel
theorem dX7_setKnown_66 : decode cX7_setKnown 66 = .ok (.iload_n 1, 1) := by decide +kernel
theorem dX7_setKnown_67 : decode cX7_setKnown 67 = .ok (.invokestatic 58, 3) := by decide +kernel
theorem dX7_setKnown_70 : decode cX7_setKnown 70 = .ok (.iconst (-1), 1) := by decide +kernel
theorem dX7_setKnown_71 : decode cX7_setKnown 71 = .ok (.ixor, 1) := by decide +kernel
theorem dX7_setKnown_72 : decode cX7_setKnown 72 = .ok (.iand, 1) := by decide +kernel
theorem dX7_setKnown_73 : decode cX7_setKnown 73 = .ok (.iastore, 1) := by decide +kernel
theorem dX7_setKnown_74 : decode cX7_setKnown 74 = .ok (.return_, 1) := by decide +kernel
theorem dX7_heldBy_0 : decode cX7_heldBy 0 = .ok (.iconst 0, 1) := by decide +kernel
theorem dX7_heldBy_1 : decode cX7_heldBy 1 = .ok (.istore_n 2, 1) := by decide +kernel
theorem dX7_heldBy_2 : decode cX7_heldBy 2 = .ok (.iconst 0, 1) := by decide +kernel
theorem dX7_heldBy_3 : decode cX7_heldBy 3 = .ok (.istore_n 3, 1) := by decide +kernel
theorem dX7_heldBy_4 : decode cX7_heldBy 4 = .ok (.iload_n 3, 1) := by decide +kernel
theorem dX7_heldBy_5 : decode cX7_heldBy 5 = .ok (.aload_n 0, 1) := by decide +kernel
theorem dX7_heldBy_6 : decode cX7_heldBy 6 = .ok (.getfield 44, 3) := by decide +kernel
theorem dX7_heldBy_9 : decode cX7_heldBy 9 = .ok (.if_icmp .ge 37, 3) := by decide +kernel
theorem dX7_heldBy_12 : decode cX7_heldBy 12 = .ok (.aload_n 0, 1) := by decide +kernel
theorem dX7_heldBy_13 : decode cX7_heldBy 13 = .ok (.getfield 29, 3) := by decide +kernel
theorem dX7_heldBy_16 : decode cX7_heldBy 16 = .ok (.iload_n 3, 1) := by decide +kernel
theorem dX7_heldBy_17 : decode cX7_heldBy 17 = .ok (.aaload, 1) := by decide +kernel
theorem dX7_heldBy_18 : decode cX7_heldBy 18 = .ok (.invokevirtual 62, 3) := by decide +kernel
theorem dX7_heldBy_21 : decode cX7_heldBy 21 = .ok (.ifCond .eq 19, 3) := by decide +kernel
theorem dX7_heldBy_24 : decode cX7_heldBy 24 = .ok (.aload_n 0, 1) := by decide +kernel
theorem dX7_heldBy_25 : decode cX7_heldBy 25 = .ok (.getfield 29, 3) := by decide +kernel
theorem dX7_heldBy_28 : decode cX7_heldBy 28 = .ok (.iload_n 3, 1) := by decide +kernel
theorem dX7_heldBy_29 : decode cX7_heldBy 29 = .ok (.aaload, 1) := by decide +kernel
theorem dX7_heldBy_30 : decode cX7_heldBy 30 = .ok (.getfield 66, 3) := by decide +kernel
theorem dX7_heldBy_33 : decode cX7_heldBy 33 = .ok (.iload_n 1, 1) := by decide +kernel
theorem dX7_heldBy_34 : decode cX7_heldBy 34 = .ok (.if_icmp .ne 6, 3) := by decide +kernel
theorem dX7_heldBy_37 : decode cX7_heldBy 37 = .ok (.iinc 2 1, 3) := by decide +kernel
theorem dX7_heldBy_40 : decode cX7_heldBy 40 = .ok (.iinc 3 1, 3) := by decide +kernel
theorem dX7_heldBy_43 : decode cX7_heldBy 43 = .ok (.goto (-39), 3) := by decide +kernel
theorem dX7_heldBy_46 : decode cX7_heldBy 46 = .ok (.iload_n 2, 1) := by decide +kernel
theorem dX7_heldBy_47 : decode cX7_heldBy 47 = .ok (.ireturn, 1) := by decide +kernel
theorem dX7_living_0 : decode cX7_living 0 = .ok (.iconst 0, 1) := by decide +kernel
theorem dX7_living_1 : decode cX7_living 1 = .ok (.istore_n 1, 1) := by decide +kernel
theorem dX7_living_2 : decode cX7_living 2 = .ok (.iconst 0, 1) := by decide +kernel
theorem dX7_living_3 : decode cX7_living 3 = .ok (.istore_n 2, 1) := by decide +kernel
theorem dX7_living_4 : decode cX7_living 4 = .ok (.iload_n 2, 1) := by decide +kernel
theorem dX7_living_5 : decode cX7_living 5 = .ok (.aload_n 0, 1) := by decide +kernel
theorem dX7_living_6 : decode cX7_living 6 = .ok (.getfield 44, 3) := by decide +kernel
theorem dX7_living_9 : decode cX7_living 9 = .ok (.if_icmp .ge 24, 3) := by decide +kernel
theorem dX7_living_12 : decode cX7_living 12 = .ok (.aload_n 0, 1) := by decide +kernel
theorem dX7_living_13 : decode cX7_living 13 = .ok (.getfield 29, 3) := by decide +kernel
theorem dX7_living_16 : decode cX7_living 16 = .ok (.iload_n 2, 1) := by decide +kernel
theorem dX7_living_17 : decode cX7_living 17 = .ok (.aaload, 1) := by decide +kernel
theorem dX7_living_18 : decode cX7_living 18 = .ok (.invokevirtual 62, 3) := by decide +kernel
theorem dX7_living_21 : decode cX7_living 21 = .ok (.ifCond .eq 6, 3) := by decide +kernel
theorem dX7_living_24 : decode cX7_living 24 = .ok (.iinc 1 1, 3) := by decide +kernel
theorem dX7_living_27 : decode cX7_living 27 = .ok (.iinc 2 1, 3) := by decide +kernel
theorem dX7_living_30 : decode cX7_living 30 = .ok (.goto (-26), 3) := by decide +kernel
theorem dX7_living_33 : decode cX7_living 33 = .ok (.iload_n 1, 1) := by decide +kernel
theorem dX7_living_34 : decode cX7_living 34 = .ok (.ireturn, 1) := by decide +kernel
theorem dX7_allFeasts_0 : decode cX7_allFeasts 0 = .ok (.iconst 0, 1) := by decide +kernel
theorem dX7_allFeasts_1 : decode cX7_allFeasts 1 = .ok (.istore_n 1, 1) := by decide +kernel
theorem dX7_allFeasts_2 : decode cX7_allFeasts 2 = .ok (.iconst 0, 1) := by decide +kernel
theorem dX7_allFeasts_3 : decode cX7_allFeasts 3 = .ok (.istore_n 2, 1) := by decide +kernel
theorem dX7_allFeasts_4 : decode cX7_allFeasts 4 = .ok (.iload_n 2, 1) := by decide +kernel
theorem dX7_allFeasts_5 : decode cX7_allFeasts 5 = .ok (.aload_n 0, 1) := by decide +kernel
theorem dX7_allFeasts_6 : decode cX7_allFeasts 6 = .ok (.getfield 34, 3) := by decide +kernel
theorem dX7_allFeasts_9 : decode cX7_allFeasts 9 = .ok (.if_icmp .ge 18, 3) := by decide +kernel
theorem dX7_allFeasts_12 : decode cX7_allFeasts 12 = .ok (.iload_n 1, 1) := by decide +kernel
theorem dX7_allFeasts_13 : decode cX7_allFeasts 13 = .ok (.aload_n 0, 1) := by decide +kernel
theorem dX7_allFeasts_14 : decode cX7_allFeasts 14 = .ok (.getfield 18, 3) := by decide +kernel
theorem dX7_allFeasts_17 : decode cX7_allFeasts 17 = .ok (.iload_n 2, 1) := by decide +kernel
theorem dX7_allFeasts_18 : decode cX7_allFeasts 18 = .ok (.iaload, 1) := by decide +kernel
theorem dX7_allFeasts_19 : decode cX7_allFeasts 19 = .ok (.iadd, 1) := by decide +kernel
theorem dX7_allFeasts_20 : decode cX7_allFeasts 20 = .ok (.istore_n 1, 1) := by decide +kernel
theorem dX7_allFeasts_21 : decode cX7_allFeasts 21 = .ok (.iinc 2 1, 3) := by decide +kernel
theorem dX7_allFeasts_24 : decode cX7_allFeasts 24 = .ok (.goto (-20), 3) := by decide +kernel
theorem dX7_allFeasts_27 : decode cX7_allFeasts 27 = .ok (.iload_n 1, 1) := by decide +kernel
theorem dX7_allFeasts_28 : decode cX7_allFeasts 28 = .ok (.ireturn, 1) := by decide +kernel
theorem dX7_balance_0 : decode cX7_balance 0 = .ok (.iconst 0, 1) := by decide +kernel
theorem dX7_balance_1 : decode cX7_balance 1 = .ok (.istore_n 2, 1) := by decide +kernel
theorem dX7_balance_2 : decode cX7_balance 2 = .ok (.iconst 0, 1) := by decide +kernel
theorem dX7_balance_3 : decode cX7_balance 3 = .ok (.istore_n 3, 1) := by decide +kernel
theorem dX7_balance_4 : decode cX7_balance 4 = .ok (.iload_n 3, 1) := by decide +kernel
theorem dX7_balance_5 : decode cX7_balance 5 = .ok (.aload_n 0, 1) := by decide +kernel
theorem dX7_balance_6 : decode cX7_balance 6 = .ok (.getfield 34, 3) := by decide +kernel
theorem dX7_balance_9 : decode cX7_balance 9 = .ok (.if_icmp .ge 33, 3) := by decide +kernel
theorem dX7_balance_12 : decode cX7_balance 12 = .ok (.iload_n 2, 1) := by decide +kernel
theorem dX7_balance_13 : decode cX7_balance 13 = .ok (.aload_n 0, 1) := by decide +kernel
theorem dX7_balance_14 : decode cX7_balance 14 = .ok (.getfield 24, 3) := by decide +kernel
theorem dX7_balance_17 : decode cX7_balance 17 = .ok (.iload_n 3, 1) := by decide +kernel
theorem dX7_balance_18 : decode cX7_balance 18 = .ok (.iload_n 1, 1) := by decide +kernel
theorem dX7_balance_19 : decode cX7_balance 19 = .ok (.invokestatic 69, 3) := by decide +kernel
theorem dX7_balance_22 : decode cX7_balance 22 = .ok (.iaload, 1) := by decide +kernel
theorem dX7_balance_23 : decode cX7_balance 23 = .ok (.aload_n 0, 1) := by decide +kernel
theorem dX7_balance_24 : decode cX7_balance 24 = .ok (.getfield 24, 3) := by decide +kernel
theorem dX7_balance_27 : decode cX7_balance 27 = .ok (.iload_n 1, 1) := by decide +kernel
theorem dX7_balance_28 : decode cX7_balance 28 = .ok (.iload_n 3, 1) := by decide +kernel
theorem dX7_balance_29 : decode cX7_balance 29 = .ok (.invokestatic 69, 3) := by decide +kernel
theorem dX7_balance_32 : decode cX7_balance 32 = .ok (.iaload, 1) := by decide +kernel
theorem dX7_balance_33 : decode cX7_balance 33 = .ok (.isub, 1) := by decide +kernel
theorem dX7_balance_34 : decode cX7_balance 34 = .ok (.iadd, 1) := by decide +kernel
theorem dX7_balance_35 : decode cX7_balance 35 = .ok (.istore_n 2, 1) := by decide +kernel
theorem dX7_balance_36 : decode cX7_balance 36 = .ok (.iinc 3 1, 3) := by decide +kernel
theorem dX7_balance_39 : decode cX7_balance 39 = .ok (.goto (-35), 3) := by decide +kernel
theorem dX7_balance_42 : decode cX7_balance 42 = .ok (.iload_n 2, 1) := by decide +kernel
theorem dX7_balance_43 : decode cX7_balance 43 = .ok (.ireturn, 1) := by decide +kernel
theorem dX7_mayHave_0 : decode cX7_mayHave 0 = .ok (.aload_n 0, 1) := by decide +kernel
theorem dX7_mayHave_1 : decode cX7_mayHave 1 = .ok (.getfield 15, 3) := by decide +kernel
theorem dX7_mayHave_4 : decode cX7_mayHave 4 = .ok (.iload_n 2, 1) := by decide +kernel
theorem dX7_mayHave_5 : decode cX7_mayHave 5 = .ok (.iaload, 1) := by decide +kernel
theorem dX7_mayHave_6 : decode cX7_mayHave 6 = .ok (.iload_n 1, 1) := by decide +kernel
theorem dX7_mayHave_7 : decode cX7_mayHave 7 = .ok (.invokestatic 58, 3) := by decide +kernel
theorem dX7_mayHave_10 : decode cX7_mayHave 10 = .ok (.iconst (-1), 1) := by decide +kernel
theorem dX7_mayHave_11 : decode cX7_mayHave 11 = .ok (.ixor, 1) := by decide +kernel
theorem dX7_mayHave_12 : decode cX7_mayHave 12 = .ok (.iand, 1) := by decide +kernel
theorem dX7_mayHave_13 : decode cX7_mayHave 13 = .ok (.istore 4, 2) := by decide +kernel
theorem dX7_mayHave_15 : decode cX7_mayHave 15 = .ok (.iload 4, 2) := by decide +kernel
theorem dX7_mayHave_17 : decode cX7_mayHave 17 = .ok (.ifCond .ne 7, 3) := by decide +kernel
theorem dX7_mayHave_20 : decode cX7_mayHave 20 = .ok (.iload_n 3, 1) := by decide +kernel
theorem dX7_mayHave_21 : decode cX7_mayHave 21 = .ok (.ifCond .ne 6, 3) := by decide +kernel
theorem dX7_mayHave_24 : decode cX7_mayHave 24 = .ok (.iload 4, 2) := by decide +kernel
theorem dX7_mayHave_26 : decode cX7_mayHave 26 = .ok (.ireturn, 1) := by decide +kernel
theorem dX7_mayHave_27 : decode cX7_mayHave 27 = .ok (.aload_n 0, 1) := by decide +kernel
theorem dX7_mayHave_28 : decode cX7_mayHave 28 = .ok (.getfield 15, 3) := by decide +kernel
theorem dX7_mayHave_31 : decode cX7_mayHave 31 = .ok (.iload_n 2, 1) := by decide +kernel
theorem dX7_mayHave_32 : decode cX7_mayHave 32 = .ok (.iaload, 1) := by decide +kernel
theorem dX7_mayHave_33 : decode cX7_mayHave 33 = .ok (.iload_n 1, 1) := by decide +kernel
theorem dX7_mayHave_34 : decode cX7_mayHave 34 = .ok (.invokestatic 58, 3) := by decide +kernel
theorem dX7_mayHave_37 : decode cX7_mayHave 37 = .ok (.iand, 1) := by decide +kernel
theorem dX7_mayHave_38 : decode cX7_mayHave 38 = .ok (.ireturn, 1) := by decide +kernel
theorem dX7_handOn_0 : decode cX7_handOn 0 = .ok (.aload_n 0, 1) := by decide +kernel
theorem dX7_handOn_1 : decode cX7_handOn 1 = .ok (.getfield 24, 3) := by decide +kernel
theorem dX7_handOn_4 : decode cX7_handOn 4 = .ok (.iload_n 2, 1) := by decide +kernel
theorem dX7_handOn_5 : decode cX7_handOn 5 = .ok (.aload_n 1, 1) := by decide +kernel
theorem dX7_handOn_6 : decode cX7_handOn 6 = .ok (.getfield 66, 3) := by decide +kernel
theorem dX7_handOn_9 : decode cX7_handOn 9 = .ok (.invokestatic 69, 3) := by decide +kernel
theorem dX7_handOn_12 : decode cX7_handOn 12 = .ok (.dup2, 1) := by decide +kernel
theorem dX7_handOn_13 : decode cX7_handOn 13 = .ok (.iaload, 1) := by decide +kernel
theorem dX7_handOn_14 : decode cX7_handOn 14 = .ok (.aload_n 1, 1) := by decide +kernel
theorem dX7_handOn_15 : decode cX7_handOn 15 = .ok (.invokevirtual 73, 3) := by decide +kernel
theorem dX7_handOn_18 : decode cX7_handOn 18 = .ok (.iadd, 1) := by decide +kernel
theorem dX7_handOn_19 : decode cX7_handOn 19 = .ok (.iastore, 1) := by decide +kernel
theorem dX7_handOn_20 : decode cX7_handOn 20 = .ok (.aload_n 1, 1) := by decide +kernel
theorem dX7_handOn_21 : decode cX7_handOn 21 = .ok (.iload_n 2, 1) := by decide +kernel
theorem dX7_handOn_22 : decode cX7_handOn 22 = .ok (.iload_n 3, 1) := by decide +kernel
theorem dX7_handOn_23 : decode cX7_handOn 23 = .ok (.invokevirtual 77, 3) := by decide +kernel
theorem dX7_handOn_26 : decode cX7_handOn 26 = .ok (.aload_n 1, 1) := by decide +kernel
theorem dX7_handOn_27 : decode cX7_handOn 27 = .ok (.getfield 80, 3) := by decide +kernel
theorem dX7_handOn_30 : decode cX7_handOn 30 = .ok (.iconst 1, 1) := by decide +kernel
theorem dX7_handOn_31 : decode cX7_handOn 31 = .ok (.if_icmp .ne 13, 3) := by decide +kernel
theorem dX7_handOn_34 : decode cX7_handOn 34 = .ok (.aload_n 0, 1) := by decide +kernel
theorem dX7_handOn_35 : decode cX7_handOn 35 = .ok (.getfield 18, 3) := by decide +kernel
theorem dX7_handOn_38 : decode cX7_handOn 38 = .ok (.iload_n 2, 1) := by decide +kernel
theorem dX7_handOn_39 : decode cX7_handOn 39 = .ok (.dup2, 1) := by decide +kernel
theorem dX7_handOn_40 : decode cX7_handOn 40 = .ok (.iaload, 1) := by decide +kernel
theorem dX7_handOn_41 : decode cX7_handOn 41 = .ok (.iconst 1, 1) := by decide +kernel
theorem dX7_handOn_42 : decode cX7_handOn 42 = .ok (.iadd, 1) := by decide +kernel
theorem dX7_handOn_43 : decode cX7_handOn 43 = .ok (.iastore, 1) := by decide +kernel
theorem dX7_handOn_44 : decode cX7_handOn 44 = .ok (.return_, 1) := by decide +kernel
theorem dX7_passYear_0 : decode cX7_passYear 0 = .ok (.aload_n 0, 1) := by decide +kernel
theorem dX7_passYear_1 : decode cX7_passYear 1 = .ok (.dup, 1) := by decide +kernel
theorem dX7_passYear_2 : decode cX7_passYear 2 = .ok (.getfield 51, 3) := by decide +kernel
theorem dX7_passYear_5 : decode cX7_passYear 5 = .ok (.iconst 1, 1) := by decide +kernel
theorem dX7_passYear_6 : decode cX7_passYear 6 = .ok (.iadd, 1) := by decide +kernel
theorem dX7_passYear_7 : decode cX7_passYear 7 = .ok (.putfield 51, 3) := by decide +kernel
theorem dX7_passYear_10 : decode cX7_passYear 10 = .ok (.iconst 0, 1) := by decide +kernel
theorem dX7_passYear_11 : decode cX7_passYear 11 = .ok (.istore_n 3, 1) := by decide +kernel
theorem dX7_passYear_12 : decode cX7_passYear 12 = .ok (.iload_n 3, 1) := by decide +kernel
theorem dX7_passYear_13 : decode cX7_passYear 13 = .ok (.aload_n 0, 1) := by decide +kernel
theorem dX7_passYear_14 : decode cX7_passYear 14 = .ok (.getfield 44, 3) := by decide +kernel
theorem dX7_passYear_17 : decode cX7_passYear 17 = .ok (.if_icmp .ge 36, 3) := by decide +kernel
theorem dX7_passYear_20 : decode cX7_passYear 20 = .ok (.aload_n 0, 1) := by decide +kernel
theorem dX7_passYear_21 : decode cX7_passYear 21 = .ok (.getfield 29, 3) := by decide +kernel
theorem dX7_passYear_24 : decode cX7_passYear 24 = .ok (.iload_n 3, 1) := by decide +kernel
theorem dX7_passYear_25 : decode cX7_passYear 25 = .ok (.aaload, 1) := by decide +kernel
theorem dX7_passYear_26 : decode cX7_passYear 26 = .ok (.invokevirtual 62, 3) := by decide +kernel
theorem dX7_passYear_29 : decode cX7_passYear 29 = .ok (.ifCond .eq 18, 3) := by decide +kernel
theorem dX7_passYear_32 : decode cX7_passYear 32 = .ok (.aload_n 0, 1) := by decide +kernel
theorem dX7_passYear_33 : decode cX7_passYear 33 = .ok (.getfield 29, 3) := by decide +kernel
theorem dX7_passYear_36 : decode cX7_passYear 36 = .ok (.iload_n 3, 1) := by decide +kernel
theorem dX7_passYear_37 : decode cX7_passYear 37 = .ok (.aaload, 1) := by decide +kernel
theorem dX7_passYear_38 : decode cX7_passYear 38 = .ok (.dup, 1) := by decide +kernel
theorem dX7_passYear_39 : decode cX7_passYear 39 = .ok (.getfield 83, 3) := by decide +kernel
theorem dX7_passYear_42 : decode cX7_passYear 42 = .ok (.iconst 1, 1) := by decide +kernel
theorem dX7_passYear_43 : decode cX7_passYear 43 = .ok (.iadd, 1) := by decide +kernel
theorem dX7_passYear_44 : decode cX7_passYear 44 = .ok (.putfield 83, 3) := by decide +kernel
theorem dX7_passYear_47 : decode cX7_passYear 47 = .ok (.iinc 3 1, 3) := by decide +kernel
theorem dX7_passYear_50 : decode cX7_passYear 50 = .ok (.goto (-38), 3) := by decide +kernel
theorem dX7_passYear_53 : decode cX7_passYear 53 = .ok (.iconst 0, 1) := by decide +kernel
theorem dX7_passYear_54 : decode cX7_passYear 54 = .ok (.istore_n 3, 1) := by decide +kernel
theorem dX7_passYear_55 : decode cX7_passYear 55 = .ok (.iconst 0, 1) := by decide +kernel
theorem dX7_passYear_56 : decode cX7_passYear 56 = .ok (.istore 4, 2) := by decide +kernel
theorem dX7_passYear_58 : decode cX7_passYear 58 = .ok (.iconst 0, 1) := by decide +kernel
theorem dX7_passYear_59 : decode cX7_passYear 59 = .ok (.istore 5, 2) := by decide +kernel
theorem dX7_passYear_61 : decode cX7_passYear 61 = .ok (.iload 5, 2) := by decide +kernel
theorem dX7_passYear_63 : decode cX7_passYear 63 = .ok (.aload_n 0, 1) := by decide +kernel
theorem dX7_passYear_64 : decode cX7_passYear 64 = .ok (.getfield 44, 3) := by decide +kernel
theorem dX7_passYear_67 : decode cX7_passYear 67 = .ok (.if_icmp .ge 154, 3) := by decide +kernel
theorem dX7_passYear_70 : decode cX7_passYear 70 = .ok (.aload_n 0, 1) := by decide +kernel
theorem dX7_passYear_71 : decode cX7_passYear 71 = .ok (.getfield 29, 3) := by decide +kernel
theorem dX7_passYear_74 : decode cX7_passYear 74 = .ok (.iload 5, 2) := by decide +kernel
theorem dX7_passYear_76 : decode cX7_passYear 76 = .ok (.aaload, 1) := by decide +kernel
theorem dX7_passYear_77 : decode cX7_passYear 77 = .ok (.getfield 66, 3) := by decide +kernel
theorem dX7_passYear_80 : decode cX7_passYear 80 = .ok (.istore 6, 2) := by decide +kernel
theorem dX7_passYear_82 : decode cX7_passYear 82 = .ok (.aload_n 0, 1) := by decide +kernel
theorem dX7_passYear_83 : decode cX7_passYear 83 = .ok (.getfield 29, 3) := by decide +kernel
theorem dX7_passYear_86 : decode cX7_passYear 86 = .ok (.iload 5, 2) := by decide +kernel
theorem dX7_passYear_88 : decode cX7_passYear 88 = .ok (.aaload, 1) := by decide +kernel
theorem dX7_passYear_89 : decode cX7_passYear 89 = .ok (.aload_n 1, 1) := by decide +kernel
theorem dX7_passYear_90 : decode cX7_passYear 90 = .ok (.getfield 86, 3) := by decide +kernel
theorem dX7_passYear_93 : decode cX7_passYear 93 = .ok (.invokevirtual 91, 3) := by decide +kernel
theorem dX7_passYear_96 : decode cX7_passYear 96 = .ok (.ifCond .ne 6, 3) := by decide +kernel
theorem dX7_passYear_99 : decode cX7_passYear 99 = .ok (.goto 116, 3) := by decide +kernel
theorem dX7_passYear_102 : decode cX7_passYear 102 = .ok (.aload_n 1, 1) := by decide +kernel
theorem dX7_passYear_103 : decode cX7_passYear 103 = .ok (.getfield 95, 3) := by decide +kernel
theorem dX7_passYear_106 : decode cX7_passYear 106 = .ok (.ifCond .eq 17, 3) := by decide +kernel
theorem dX7_passYear_109 : decode cX7_passYear 109 = .ok (.iload 4, 2) := by decide +kernel
theorem dX7_passYear_111 : decode cX7_passYear 111 = .ok (.iload 6, 2) := by decide +kernel
theorem dX7_passYear_113 : decode cX7_passYear 113 = .ok (.invokestatic 58, 3) := by decide +kernel
theorem dX7_passYear_116 : decode cX7_passYear 116 = .ok (.iand, 1) := by decide +kernel
theorem dX7_passYear_117 : decode cX7_passYear 117 = .ok (.ifCond .eq 6, 3) := by decide +kernel
theorem dX7_passYear_120 : decode cX7_passYear 120 = .ok (.goto 95, 3) := by decide +kernel
theorem dX7_passYear_123 : decode cX7_passYear 123 = .ok (.aload_n 0, 1) := by decide +kernel
theorem dX7_passYear_124 : decode cX7_passYear 124 = .ok (.aload_n 0, 1) := by decide +kernel
theorem dX7_passYear_125 : decode cX7_passYear 125 = .ok (.getfield 29, 3) := by decide +kernel
theorem dX7_passYear_128 : decode cX7_passYear 128 = .ok (.iload 5, 2) := by decide +kernel
theorem dX7_passYear_130 : decode cX7_passYear 130 = .ok (.aaload, 1) := by decide +kernel
theorem dX7_passYear_131 : decode cX7_passYear 131 = .ok (.getfield 99, 3) := by decide +kernel
theorem dX7_passYear_134 : decode cX7_passYear 134 = .ok (.iload 6, 2) := by decide +kernel
theorem dX7_passYear_136 : decode cX7_passYear 136 = .ok (.aload_n 1, 1) := by decide +kernel
theorem dX7_passYear_137 : decode cX7_passYear 137 = .ok (.getfield 102, 3) := by decide +kernel
theorem dX7_passYear_140 : decode cX7_passYear 140 = .ok (.invokevirtual 105, 3) := by decide +kernel
theorem dX7_passYear_143 : decode cX7_passYear 143 = .ok (.istore 7, 2) := by decide +kernel
theorem dX7_passYear_145 : decode cX7_passYear 145 = .ok (.iload 7, 2) := by decide +kernel
theorem dX7_passYear_147 : decode cX7_passYear 147 = .ok (.ifCond .ne 6, 3) := by decide +kernel
theorem dX7_passYear_150 : decode cX7_passYear 150 = .ok (.goto 65, 3) := by decide +kernel
theorem dX7_passYear_153 : decode cX7_passYear 153 = .ok (.aload_n 2, 1) := by decide +kernel
theorem dX7_passYear_154 : decode cX7_passYear 154 = .ok (.ifnonnull 14, 3) := by decide +kernel
theorem dX7_passYear_157 : decode cX7_passYear 157 = .ok (.aload_n 0, 1) := by decide +kernel
theorem dX7_passYear_158 : decode cX7_passYear 158 = .ok (.iload 6, 2) := by decide +kernel
theorem dX7_passYear_160 : decode cX7_passYear 160 = .ok (.iload 7, 2) := by decide +kernel
theorem dX7_passYear_162 : decode cX7_passYear 162 = .ok (.invokevirtual 109, 3) := by decide +kernel
theorem dX7_passYear_165 : decode cX7_passYear 165 = .ok (.goto 9, 3) := by decide +kernel
theorem dX7_passYear_168 : decode cX7_passYear 168 = .ok (.aload_n 2, 1) := by decide +kernel
theorem dX7_passYear_169 : decode cX7_passYear 169 = .ok (.iload 7, 2) := by decide +kernel
theorem dX7_passYear_171 : decode cX7_passYear 171 = .ok (.invokevirtual 112, 3) := by decide +kernel
theorem dX7_passYear_174 : decode cX7_passYear 174 = .ok (.istore 8, 2) := by decide +kernel
theorem dX7_passYear_176 : decode cX7_passYear 176 = .ok (.iload 8, 2) := by decide +kernel
theorem dX7_passYear_178 : decode cX7_passYear 178 = .ok (.iconst (-1), 1) := by decide +kernel
theorem dX7_passYear_179 : decode cX7_passYear 179 = .ok (.if_icmp .ne 6, 3) := by decide +kernel
theorem dX7_passYear_182 : decode cX7_passYear 182 = .ok (.goto 33, 3) := by decide +kernel
theorem dX7_passYear_185 : decode cX7_passYear 185 = .ok (.aload_n 0, 1) := by decide +kernel
theorem dX7_passYear_186 : decode cX7_passYear 186 = .ok (.aload_n 0, 1) := by decide +kernel
theorem dX7_passYear_187 : decode cX7_passYear 187 = .ok (.getfield 29, 3) := by decide +kernel
theorem dX7_passYear_190 : decode cX7_passYear 190 = .ok (.iload 5, 2) := by decide +kernel
theorem dX7_passYear_192 : decode cX7_passYear 192 = .ok (.aaload, 1) := by decide +kernel
theorem dX7_passYear_193 : decode cX7_passYear 193 = .ok (.iload 8, 2) := by decide +kernel
theorem dX7_passYear_195 : decode cX7_passYear 195 = .ok (.aload_n 1, 1) := by decide +kernel
theorem dX7_passYear_196 : decode cX7_passYear 196 = .ok (.getfield 117, 3) := by decide +kernel
theorem dX7_passYear_199 : decode cX7_passYear 199 = .ok (.invokevirtual 120, 3) := by decide +kernel
theorem dX7_passYear_202 : decode cX7_passYear 202 = .ok (.iload 4, 2) := by decide +kernel
theorem dX7_passYear_204 : decode cX7_passYear 204 = .ok (.iload 6, 2) := by decide +kernel
theorem dX7_passYear_206 : decode cX7_passYear 206 = .ok (.invokestatic 58, 3) := by decide +kernel
theorem dX7_passYear_209 : decode cX7_passYear 209 = .ok (.ior, 1) := by decide +kernel
theorem dX7_passYear_210 : decode cX7_passYear 210 = .ok (.istore 4, 2) := by decide +kernel
theorem dX7_passYear_212 : decode cX7_passYear 212 = .ok (.iinc 3 1, 3) := by decide +kernel
theorem dX7_passYear_215 : decode cX7_passYear 215 = .ok (.iinc 5 1, 3) := by decide +kernel
theorem dX7_passYear_218 : decode cX7_passYear 218 = .ok (.goto (-157), 3) := by decide +kernel
theorem dX7_passYear_221 : decode cX7_passYear 221 = .ok (.iload_n 3, 1) := by decide +kernel
theorem dX7_passYear_222 : decode cX7_passYear 222 = .ok (.ireturn, 1) := by decide +kernel
theorem dX7_chosenBy_0 : decode cX7_chosenBy 0 = .ok (.iconst (-1), 1) := by decide +kernel
theorem dX7_chosenBy_1 : decode cX7_chosenBy 1 = .ok (.istore_n 3, 1) := by decide +kernel
theorem dX7_chosenBy_2 : decode cX7_chosenBy 2 = .ok (.iconst 0, 1) := by decide +kernel
theorem dX7_chosenBy_3 : decode cX7_chosenBy 3 = .ok (.istore 4, 2) := by decide +kernel
theorem dX7_chosenBy_5 : decode cX7_chosenBy 5 = .ok (.iconst 0, 1) := by decide +kernel
theorem dX7_chosenBy_6 : decode cX7_chosenBy 6 = .ok (.istore 5, 2) := by decide +kernel
theorem dX7_chosenBy_8 : decode cX7_chosenBy 8 = .ok (.iload 5, 2) := by decide +kernel
theorem dX7_chosenBy_10 : decode cX7_chosenBy 10 = .ok (.aload_n 0, 1) := by decide +kernel
theorem dX7_chosenBy_11 : decode cX7_chosenBy 11 = .ok (.getfield 34, 3) := by decide +kernel
theorem dX7_chosenBy_14 : decode cX7_chosenBy 14 = .ok (.if_icmp .ge 50, 3) := by decide +kernel
theorem dX7_chosenBy_17 : decode cX7_chosenBy 17 = .ok (.iload_n 2, 1) := by decide +kernel
theorem dX7_chosenBy_18 : decode cX7_chosenBy 18 = .ok (.iload 5, 2) := by decide +kernel
theorem dX7_chosenBy_20 : decode cX7_chosenBy 20 = .ok (.invokestatic 58, 3) := by decide +kernel
theorem dX7_chosenBy_23 : decode cX7_chosenBy 23 = .ok (.iand, 1) := by decide +kernel
theorem dX7_chosenBy_24 : decode cX7_chosenBy 24 = .ok (.ifCond .ne 6, 3) := by decide +kernel
theorem dX7_chosenBy_27 : decode cX7_chosenBy 27 = .ok (.goto 31, 3) := by decide +kernel
theorem dX7_chosenBy_30 : decode cX7_chosenBy 30 = .ok (.aload_n 0, 1) := by decide +kernel
theorem dX7_chosenBy_31 : decode cX7_chosenBy 31 = .ok (.iload_n 1, 1) := by decide +kernel
theorem dX7_chosenBy_32 : decode cX7_chosenBy 32 = .ok (.iload 5, 2) := by decide +kernel
theorem dX7_chosenBy_34 : decode cX7_chosenBy 34 = .ok (.invokevirtual 124, 3) := by decide +kernel
theorem dX7_chosenBy_37 : decode cX7_chosenBy 37 = .ok (.istore 6, 2) := by decide +kernel
theorem dX7_chosenBy_39 : decode cX7_chosenBy 39 = .ok (.iload_n 3, 1) := by decide +kernel
theorem dX7_chosenBy_40 : decode cX7_chosenBy 40 = .ok (.iconst (-1), 1) := by decide +kernel
theorem dX7_chosenBy_41 : decode cX7_chosenBy 41 = .ok (.if_icmp .eq 10, 3) := by decide +kernel
theorem dX7_chosenBy_44 : decode cX7_chosenBy 44 = .ok (.iload 6, 2) := by decide +kernel
theorem dX7_chosenBy_46 : decode cX7_chosenBy 46 = .ok (.iload 4, 2) := by decide +kernel
theorem dX7_chosenBy_48 : decode cX7_chosenBy 48 = .ok (.if_icmp .le 10, 3) := by decide +kernel
theorem dX7_chosenBy_51 : decode cX7_chosenBy 51 = .ok (.iload 5, 2) := by decide +kernel
theorem dX7_chosenBy_53 : decode cX7_chosenBy 53 = .ok (.istore_n 3, 1) := by decide +kernel
theorem dX7_chosenBy_54 : decode cX7_chosenBy 54 = .ok (.iload 6, 2) := by decide +kernel
theorem dX7_chosenBy_56 : decode cX7_chosenBy 56 = .ok (.istore 4, 2) := by decide +kernel
theorem dX7_chosenBy_58 : decode cX7_chosenBy 58 = .ok (.iinc 5 1, 3) := by decide +kernel
theorem dX7_chosenBy_61 : decode cX7_chosenBy 61 = .ok (.goto (-53), 3) := by decide +kernel
theorem dX7_chosenBy_64 : decode cX7_chosenBy 64 = .ok (.iload_n 3, 1) := by decide +kernel
theorem dX7_chosenBy_65 : decode cX7_chosenBy 65 = .ok (.ireturn, 1) := by decide +kernel
theorem dX7_markOf_0 : decode cX7_markOf 0 = .ok (.aload_n 0, 1) := by decide +kernel
theorem dX7_markOf_1 : decode cX7_markOf 1 = .ok (.getfield 9, 3) := by decide +kernel
theorem dX7_markOf_4 : decode cX7_markOf 4 = .ok (.iload_n 1, 1) := by decide +kernel
theorem dX7_markOf_5 : decode cX7_markOf 5 = .ok (.iaload, 1) := by decide +kernel
theorem dX7_markOf_6 : decode cX7_markOf 6 = .ok (.tableswitch 42 0 2 #[26, 29, 31], 26) := by decide +kernel
theorem dX7_markOf_32 : decode cX7_markOf 32 = .ok (.iload_n 2, 1) := by decide +kernel
theorem dX7_markOf_33 : decode cX7_markOf 33 = .ok (.ineg, 1) := by decide +kernel
theorem dX7_markOf_34 : decode cX7_markOf 34 = .ok (.ireturn, 1) := by decide +kernel
theorem dX7_markOf_35 : decode cX7_markOf 35 = .ok (.iload_n 2, 1) := by decide +kernel
theorem dX7_markOf_36 : decode cX7_markOf 36 = .ok (.ireturn, 1) := by decide +kernel
theorem dX7_markOf_37 : decode cX7_markOf 37 = .ok (.aload_n 0, 1) := by decide +kernel
theorem dX7_markOf_38 : decode cX7_markOf 38 = .ok (.getfield 21, 3) := by decide +kernel
theorem dX7_markOf_41 : decode cX7_markOf 41 = .ok (.iload_n 1, 1) := by decide +kernel
theorem dX7_markOf_42 : decode cX7_markOf 42 = .ok (.iload_n 2, 1) := by decide +kernel
theorem dX7_markOf_43 : decode cX7_markOf 43 = .ok (.invokestatic 69, 3) := by decide +kernel
theorem dX7_markOf_46 : decode cX7_markOf 46 = .ok (.iaload, 1) := by decide +kernel
theorem dX7_markOf_47 : decode cX7_markOf 47 = .ok (.ireturn, 1) := by decide +kernel
theorem dX7_markOf_48 : decode cX7_markOf 48 = .ok (.aload_n 0, 1) := by decide +kernel
theorem dX7_markOf_49 : decode cX7_markOf 49 = .ok (.iload_n 2, 1) := by decide +kernel
theorem dX7_markOf_50 : decode cX7_markOf 50 = .ok (.invokevirtual 127, 3) := by decide +kernel
theorem dX7_markOf_53 : decode cX7_markOf 53 = .ok (.ineg, 1) := by decide +kernel
theorem dX7_markOf_54 : decode cX7_markOf 54 = .ok (.ireturn, 1) := by decide +kernel
theorem dX7_handsBetween_0 : decode cX7_handsBetween 0 = .ok (.iload_n 1, 1) := by decide +kernel
theorem dX7_handsBetween_1 : decode cX7_handsBetween 1 = .ok (.invokestatic 58, 3) := by decide +kernel
theorem dX7_handsBetween_4 : decode cX7_handsBetween 4 = .ok (.istore_n 3, 1) := by decide +kernel
theorem dX7_handsBetween_5 : decode cX7_handsBetween 5 = .ok (.iconst 0, 1) := by decide +kernel
theorem dX7_handsBetween_6 : decode cX7_handsBetween 6 = .ok (.istore 4, 2) := by decide +kernel
theorem dX7_handsBetween_8 : decode cX7_handsBetween 8 = .ok (.iload 4, 2) := by decide +kernel
theorem dX7_handsBetween_10 : decode cX7_handsBetween 10 = .ok (.bipush 8, 2) := by decide +kernel
theorem dX7_handsBetween_12 : decode cX7_handsBetween 12 = .ok (.if_icmp .ge 29, 3) := by decide +kernel
theorem dX7_handsBetween_15 : decode cX7_handsBetween 15 = .ok (.iload_n 3, 1) := by decide +kernel
theorem dX7_handsBetween_16 : decode cX7_handsBetween 16 = .ok (.iload_n 2, 1) := by decide +kernel
theorem dX7_handsBetween_17 : decode cX7_handsBetween 17 = .ok (.invokestatic 58, 3) := by decide +kernel
theorem dX7_handsBetween_20 : decode cX7_handsBetween 20 = .ok (.iand, 1) := by decide +kernel
theorem dX7_handsBetween_21 : decode cX7_handsBetween 21 = .ok (.ifCond .eq 6, 3) := by decide +kernel
theorem dX7_handsBetween_24 : decode cX7_handsBetween 24 = .ok (.iload 4, 2) := by decide +kernel
theorem dX7_handsBetween_26 : decode cX7_handsBetween 26 = .ok (.ireturn, 1) := by decide +kernel
theorem dX7_handsBetween_27 : decode cX7_handsBetween 27 = .ok (.iload_n 3, 1) := by decide +kernel
theorem dX7_handsBetween_28 : decode cX7_handsBetween 28 = .ok (.aload_n 0, 1) := by decide +kernel
theorem dX7_handsBetween_29 : decode cX7_handsBetween 29 = .ok (.iload_n 3, 1) := by decide +kernel
theorem dX7_handsBetween_30 : decode cX7_handsBetween 30 = .ok (.invokevirtual 130, 3) := by decide +kernel
theorem dX7_handsBetween_33 : decode cX7_handsBetween 33 = .ok (.ior, 1) := by decide +kernel
theorem dX7_handsBetween_34 : decode cX7_handsBetween 34 = .ok (.istore_n 3, 1) := by decide +kernel
theorem dX7_handsBetween_35 : decode cX7_handsBetween 35 = .ok (.iinc 4 1, 3) := by decide +kernel
theorem dX7_handsBetween_38 : decode cX7_handsBetween 38 = .ok (.goto (-30), 3) := by decide +kernel
theorem dX7_handsBetween_41 : decode cX7_handsBetween 41 = .ok (.iconst (-1), 1) := by decide +kernel
theorem dX7_handsBetween_42 : decode cX7_handsBetween 42 = .ok (.ireturn, 1) := by decide +kernel
theorem dX7_knownByAny_0 : decode cX7_knownByAny 0 = .ok (.iconst 0, 1) := by decide +kernel
theorem dX7_knownByAny_1 : decode cX7_knownByAny 1 = .ok (.istore_n 2, 1) := by decide +kernel
theorem dX7_knownByAny_2 : decode cX7_knownByAny 2 = .ok (.iconst 0, 1) := by decide +kernel
theorem dX7_knownByAny_3 : decode cX7_knownByAny 3 = .ok (.istore_n 3, 1) := by decide +kernel
theorem dX7_knownByAny_4 : decode cX7_knownByAny 4 = .ok (.iload_n 3, 1) := by decide +kernel
theorem dX7_knownByAny_5 : decode cX7_knownByAny 5 = .ok (.aload_n 0, 1) := by decide +kernel
theorem dX7_knownByAny_6 : decode cX7_knownByAny 6 = .ok (.getfield 34, 3) := by decide +kernel
theorem dX7_knownByAny_9 : decode cX7_knownByAny 9 = .ok (.if_icmp .ge 27, 3) := by decide +kernel
theorem dX7_knownByAny_12 : decode cX7_knownByAny 12 = .ok (.iload_n 1, 1) := by decide +kernel
theorem dX7_knownByAny_13 : decode cX7_knownByAny 13 = .ok (.iload_n 3, 1) := by decide +kernel
theorem dX7_knownByAny_14 : decode cX7_knownByAny 14 = .ok (.invokestatic 58, 3) := by decide +kernel
theorem dX7_knownByAny_17 : decode cX7_knownByAny 17 = .ok (.iand, 1) := by decide +kernel
theorem dX7_knownByAny_18 : decode cX7_knownByAny 18 = .ok (.ifCond .eq 12, 3) := by decide +kernel
theorem dX7_knownByAny_21 : decode cX7_knownByAny 21 = .ok (.iload_n 2, 1) := by decide +kernel
theorem dX7_knownByAny_22 : decode cX7_knownByAny 22 = .ok (.aload_n 0, 1) := by decide +kernel
theorem dX7_knownByAny_23 : decode cX7_knownByAny 23 = .ok (.getfield 15, 3) := by decide +kernel
theorem dX7_knownByAny_26 : decode cX7_knownByAny 26 = .ok (.iload_n 3, 1) := by decide +kernel
theorem dX7_knownByAny_27 : decode cX7_knownByAny 27 = .ok (.iaload, 1) := by decide +kernel
theorem dX7_knownByAny_28 : decode cX7_knownByAny 28 = .ok (.ior, 1) := by decide +kernel
theorem dX7_knownByAny_29 : decode cX7_knownByAny 29 = .ok (.istore_n 2, 1) := by decide +kernel
theorem dX7_knownByAny_30 : decode cX7_knownByAny 30 = .ok (.iinc 3 1, 3) := by decide +kernel
theorem dX7_knownByAny_33 : decode cX7_knownByAny 33 = .ok (.goto (-29), 3) := by decide +kernel
theorem dX7_knownByAny_36 : decode cX7_knownByAny 36 = .ok (.iload_n 2, 1) := by decide +kernel
theorem dX7_knownByAny_37 : decode cX7_knownByAny 37 = .ok (.ireturn, 1) := by decide +kernel
theorem dX7_firstBetween_0 : decode cX7_firstBetween 0 = .ok (.aload_n 0, 1) := by decide +kernel
theorem dX7_firstBetween_1 : decode cX7_firstBetween 1 = .ok (.iload_n 1, 1) := by decide +kernel
theorem dX7_firstBetween_2 : decode cX7_firstBetween 2 = .ok (.iload_n 2, 1) := by decide +kernel
theorem dX7_firstBetween_3 : decode cX7_firstBetween 3 = .ok (.invokevirtual 133, 3) := by decide +kernel
theorem dX7_firstBetween_6 : decode cX7_firstBetween 6 = .ok (.istore_n 3, 1) := by decide +kernel
theorem dX7_firstBetween_7 : decode cX7_firstBetween 7 = .ok (.iload_n 3, 1) := by decide +kernel
theorem dX7_firstBetween_8 : decode cX7_firstBetween 8 = .ok (.iconst (-1), 1) := by decide +kernel
theorem dX7_firstBetween_9 : decode cX7_firstBetween 9 = .ok (.if_icmp .eq 7, 3) := by decide +kernel
theorem dX7_firstBetween_12 : decode cX7_firstBetween 12 = .ok (.iload_n 3, 1) := by decide +kernel
theorem dX7_firstBetween_13 : decode cX7_firstBetween 13 = .ok (.ifCond .ne 5, 3) := by decide +kernel
theorem dX7_firstBetween_16 : decode cX7_firstBetween 16 = .ok (.iconst (-1), 1) := by decide +kernel
theorem dX7_firstBetween_17 : decode cX7_firstBetween 17 = .ok (.ireturn, 1) := by decide +kernel
theorem dX7_firstBetween_18 : decode cX7_firstBetween 18 = .ok (.iconst 0, 1) := by decide +kernel
theorem dX7_firstBetween_19 : decode cX7_firstBetween 19 = .ok (.istore 4, 2) := by decide +kernel
theorem dX7_firstBetween_21 : decode cX7_firstBetween 21 = .ok (.iload 4, 2) := by decide +kernel
theorem dX7_firstBetween_23 : decode cX7_firstBetween 23 = .ok (.aload_n 0, 1) := by decide +kernel
theorem dX7_firstBetween_24 : decode cX7_firstBetween 24 = .ok (.getfield 34, 3) := by decide +kernel
theorem dX7_firstBetween_27 : decode cX7_firstBetween 27 = .ok (.if_icmp .ge 35, 3) := by decide +kernel
theorem dX7_firstBetween_30 : decode cX7_firstBetween 30 = .ok (.aload_n 0, 1) := by decide +kernel
theorem dX7_firstBetween_31 : decode cX7_firstBetween 31 = .ok (.iload_n 1, 1) := by decide +kernel
theorem dX7_firstBetween_32 : decode cX7_firstBetween 32 = .ok (.iload 4, 2) := by decide +kernel
theorem dX7_firstBetween_34 : decode cX7_firstBetween 34 = .ok (.invokevirtual 136, 3) := by decide +kernel
theorem dX7_firstBetween_37 : decode cX7_firstBetween 37 = .ok (.ifCond .eq 19, 3) := by decide +kernel
theorem dX7_firstBetween_40 : decode cX7_firstBetween 40 = .ok (.aload_n 0, 1) := by decide +kernel
theorem dX7_firstBetween_41 : decode cX7_firstBetween 41 = .ok (.iload 4, 2) := by decide +kernel
theorem dX7_firstBetween_43 : decode cX7_firstBetween 43 = .ok (.iload_n 2, 1) := by decide +kernel
theorem dX7_firstBetween_44 : decode cX7_firstBetween 44 = .ok (.invokevirtual 133, 3) := by decide +kernel
theorem dX7_firstBetween_47 : decode cX7_firstBetween 47 = .ok (.iload_n 3, 1) := by decide +kernel
theorem dX7_firstBetween_48 : decode cX7_firstBetween 48 = .ok (.iconst 1, 1) := by decide +kernel
theorem dX7_firstBetween_49 : decode cX7_firstBetween 49 = .ok (.isub, 1) := by decide +kernel
theorem dX7_firstBetween_50 : decode cX7_firstBetween 50 = .ok (.if_icmp .ne 6, 3) := by decide +kernel
theorem dX7_firstBetween_53 : decode cX7_firstBetween 53 = .ok (.iload 4, 2) := by decide +kernel
theorem dX7_firstBetween_55 : decode cX7_firstBetween 55 = .ok (.ireturn, 1) := by decide +kernel
theorem dX7_firstBetween_56 : decode cX7_firstBetween 56 = .ok (.iinc 4 1, 3) := by decide +kernel
theorem dX7_firstBetween_59 : decode cX7_firstBetween 59 = .ok (.goto (-38), 3) := by decide +kernel
theorem dX7_firstBetween_62 : decode cX7_firstBetween 62 = .ok (.iconst (-1), 1) := by decide +kernel
theorem dX7_firstBetween_63 : decode cX7_firstBetween 63 = .ok (.ireturn, 1) := by decide +kernel
end
section
theorem dL_law_0 : decode cL_law 0 = .ok (.new 7, 3) := by decide +kernel
theorem dL_law_3 : decode cL_law 3 = .ok (.dup, 1) := by decide +kernel
theorem dL_law_4 : decode cL_law 4 = .ok (.invokespecial 9, 3) := by decide +kernel
theorem dL_law_7 : decode cL_law 7 = .ok (.astore_n 1, 1) := by decide +kernel
theorem dL_law_8 : decode cL_law 8 = .ok (.new 10, 3) := by decide +kernel
theorem dL_law_11 : decode cL_law 11 = .ok (.dup, 1) := by decide +kernel
theorem dL_law_12 : decode cL_law 12 = .ok (.invokespecial 12, 3) := by decide +kernel
theorem dL_law_15 : decode cL_law 15 = .ok (.astore_n 2, 1) := by decide +kernel
theorem dL_law_16 : decode cL_law 16 = .ok (.iconst 0, 1) := by decide +kernel
theorem dL_law_17 : decode cL_law 17 = .ok (.istore_n 3, 1) := by decide +kernel
theorem dL_law_18 : decode cL_law 18 = .ok (.iload_n 3, 1) := by decide +kernel
theorem dL_law_19 : decode cL_law 19 = .ok (.aload_n 0, 1) := by decide +kernel
theorem dL_law_20 : decode cL_law 20 = .ok (.arraylength, 1) := by decide +kernel
theorem dL_law_21 : decode cL_law 21 = .ok (.iconst 4, 1) := by decide +kernel
theorem dL_law_22 : decode cL_law 22 = .ok (.isub, 1) := by decide +kernel
theorem dL_law_23 : decode cL_law 23 = .ok (.if_icmp .gt 1053, 3) := by decide +kernel
theorem dL_law_26 : decode cL_law 26 = .ok (.aload_n 0, 1) := by decide +kernel
theorem dL_law_27 : decode cL_law 27 = .ok (.iload_n 3, 1) := by decide +kernel
theorem dL_law_28 : decode cL_law 28 = .ok (.iaload, 1) := by decide +kernel
theorem dL_law_29 : decode cL_law 29 = .ok (.bipush 31, 2) := by decide +kernel
theorem dL_law_31 : decode cL_law 31 = .ok (.iand, 1) := by decide +kernel
theorem dL_law_32 : decode cL_law 32 = .ok (.tableswitch 1038 0 31 #[144, 197, 210, 223, 236, 259, 282, 341, 384, 417, 450, 473, 506, 539, 572, 595, 628, 651, 684, 707, 751, 764, 787, 830, 873, 906, 939, 952, 975, 988, 1001, 1024], 144) := by decide +kernel
theorem dL_law_176 : decode cL_law 176 = .ok (.aload_n 1, 1) := by decide +kernel
theorem dL_law_177 : decode cL_law 177 = .ok (.aload_n 0, 1) := by decide +kernel
theorem dL_law_178 : decode cL_law 178 = .ok (.iload_n 3, 1) := by decide +kernel
theorem dL_law_179 : decode cL_law 179 = .ok (.iconst 1, 1) := by decide +kernel
theorem dL_law_180 : decode cL_law 180 = .ok (.iadd, 1) := by decide +kernel
theorem dL_law_181 : decode cL_law 181 = .ok (.iaload, 1) := by decide +kernel
theorem dL_law_182 : decode cL_law 182 = .ok (.i2l, 1) := by decide +kernel
theorem dL_law_183 : decode cL_law 183 = .ok (.bipush 32, 2) := by decide +kernel
theorem dL_law_185 : decode cL_law 185 = .ok (.lshl, 1) := by decide +kernel
theorem dL_law_186 : decode cL_law 186 = .ok (.aload_n 0, 1) := by decide +kernel
theorem dL_law_187 : decode cL_law 187 = .ok (.iload_n 3, 1) := by decide +kernel
theorem dL_law_188 : decode cL_law 188 = .ok (.iconst 2, 1) := by decide +kernel
theorem dL_law_189 : decode cL_law 189 = .ok (.iadd, 1) := by decide +kernel
theorem dL_law_190 : decode cL_law 190 = .ok (.iaload, 1) := by decide +kernel
theorem dL_law_191 : decode cL_law 191 = .ok (.i2l, 1) := by decide +kernel
theorem dL_law_192 : decode cL_law 192 = .ok (.ldc2_w 13, 3) := by decide +kernel
theorem dL_law_195 : decode cL_law 195 = .ok (.land, 1) := by decide +kernel
theorem dL_law_196 : decode cL_law 196 = .ok (.lor, 1) := by decide +kernel
theorem dL_law_197 : decode cL_law 197 = .ok (.invokevirtual 15, 3) := by decide +kernel
theorem dL_law_200 : decode cL_law 200 = .ok (.aload_n 2, 1) := by decide +kernel
theorem dL_law_201 : decode cL_law 201 = .ok (.aload_n 0, 1) := by decide +kernel
theorem dL_law_202 : decode cL_law 202 = .ok (.iload_n 3, 1) := by decide +kernel
theorem dL_law_203 : decode cL_law 203 = .ok (.iconst 1, 1) := by decide +kernel
theorem dL_law_204 : decode cL_law 204 = .ok (.iadd, 1) := by decide +kernel
theorem dL_law_205 : decode cL_law 205 = .ok (.iaload, 1) := by decide +kernel
theorem dL_law_206 : decode cL_law 206 = .ok (.i2l, 1) := by decide +kernel
theorem dL_law_207 : decode cL_law 207 = .ok (.bipush 32, 2) := by decide +kernel
theorem dL_law_209 : decode cL_law 209 = .ok (.lshl, 1) := by decide +kernel
theorem dL_law_210 : decode cL_law 210 = .ok (.aload_n 0, 1) := by decide +kernel
theorem dL_law_211 : decode cL_law 211 = .ok (.iload_n 3, 1) := by decide +kernel
theorem dL_law_212 : decode cL_law 212 = .ok (.iconst 2, 1) := by decide +kernel
theorem dL_law_213 : decode cL_law 213 = .ok (.iadd, 1) := by decide +kernel
theorem dL_law_214 : decode cL_law 214 = .ok (.iaload, 1) := by decide +kernel
theorem dL_law_215 : decode cL_law 215 = .ok (.i2l, 1) := by decide +kernel
theorem dL_law_216 : decode cL_law 216 = .ok (.ldc2_w 13, 3) := by decide +kernel
theorem dL_law_219 : decode cL_law 219 = .ok (.land, 1) := by decide +kernel
theorem dL_law_220 : decode cL_law 220 = .ok (.lor, 1) := by decide +kernel
theorem dL_law_221 : decode cL_law 221 = .ok (.invokevirtual 19, 3) := by decide +kernel
theorem dL_law_224 : decode cL_law 224 = .ok (.if_icmp .eq 846, 3) := by decide +kernel
theorem dL_law_227 : decode cL_law 227 = .ok (.iconst 0, 1) := by decide +kernel
theorem dL_law_228 : decode cL_law 228 = .ok (.ireturn, 1) := by decide +kernel
theorem dL_law_229 : decode cL_law 229 = .ok (.aload_n 1, 1) := by decide +kernel
theorem dL_law_230 : decode cL_law 230 = .ok (.invokevirtual 20, 3) := by decide +kernel
theorem dL_law_233 : decode cL_law 233 = .ok (.aload_n 2, 1) := by decide +kernel
theorem dL_law_234 : decode cL_law 234 = .ok (.invokevirtual 24, 3) := by decide +kernel
theorem dL_law_237 : decode cL_law 237 = .ok (.if_icmp .eq 833, 3) := by decide +kernel
theorem dL_law_240 : decode cL_law 240 = .ok (.iconst 0, 1) := by decide +kernel
theorem dL_law_241 : decode cL_law 241 = .ok (.ireturn, 1) := by decide +kernel
theorem dL_law_242 : decode cL_law 242 = .ok (.aload_n 1, 1) := by decide +kernel
theorem dL_law_243 : decode cL_law 243 = .ok (.invokevirtual 25, 3) := by decide +kernel
theorem dL_law_246 : decode cL_law 246 = .ok (.aload_n 2, 1) := by decide +kernel
theorem dL_law_247 : decode cL_law 247 = .ok (.invokevirtual 28, 3) := by decide +kernel
theorem dL_law_250 : decode cL_law 250 = .ok (.if_icmp .eq 820, 3) := by decide +kernel
theorem dL_law_253 : decode cL_law 253 = .ok (.iconst 0, 1) := by decide +kernel
theorem dL_law_254 : decode cL_law 254 = .ok (.ireturn, 1) := by decide +kernel
theorem dL_law_255 : decode cL_law 255 = .ok (.aload_n 1, 1) := by decide +kernel
theorem dL_law_256 : decode cL_law 256 = .ok (.invokevirtual 29, 3) := by decide +kernel
theorem dL_law_259 : decode cL_law 259 = .ok (.aload_n 2, 1) := by decide +kernel
theorem dL_law_260 : decode cL_law 260 = .ok (.invokevirtual 32, 3) := by decide +kernel
theorem dL_law_263 : decode cL_law 263 = .ok (.if_icmp .eq 807, 3) := by decide +kernel
theorem dL_law_266 : decode cL_law 266 = .ok (.iconst 0, 1) := by decide +kernel
theorem dL_law_267 : decode cL_law 267 = .ok (.ireturn, 1) := by decide +kernel
theorem dL_law_268 : decode cL_law 268 = .ok (.aload_n 1, 1) := by decide +kernel
theorem dL_law_269 : decode cL_law 269 = .ok (.aload_n 0, 1) := by decide +kernel
theorem dL_law_270 : decode cL_law 270 = .ok (.iload_n 3, 1) := by decide +kernel
theorem dL_law_271 : decode cL_law 271 = .ok (.iconst 1, 1) := by decide +kernel
theorem dL_law_272 : decode cL_law 272 = .ok (.iadd, 1) := by decide +kernel
theorem dL_law_273 : decode cL_law 273 = .ok (.iaload, 1) := by decide +kernel
theorem dL_law_274 : decode cL_law 274 = .ok (.invokevirtual 33, 3) := by decide +kernel
theorem dL_law_277 : decode cL_law 277 = .ok (.aload_n 2, 1) := by decide +kernel
theorem dL_law_278 : decode cL_law 278 = .ok (.aload_n 0, 1) := by decide +kernel
theorem dL_law_279 : decode cL_law 279 = .ok (.iload_n 3, 1) := by decide +kernel
theorem dL_law_280 : decode cL_law 280 = .ok (.iconst 1, 1) := by decide +kernel
theorem dL_law_281 : decode cL_law 281 = .ok (.iadd, 1) := by decide +kernel
theorem dL_law_282 : decode cL_law 282 = .ok (.iaload, 1) := by decide +kernel
theorem dL_law_283 : decode cL_law 283 = .ok (.invokevirtual 37, 3) := by decide +kernel
theorem dL_law_286 : decode cL_law 286 = .ok (.if_icmp .eq 784, 3) := by decide +kernel
theorem dL_law_289 : decode cL_law 289 = .ok (.iconst 0, 1) := by decide +kernel
theorem dL_law_290 : decode cL_law 290 = .ok (.ireturn, 1) := by decide +kernel
theorem dL_law_291 : decode cL_law 291 = .ok (.aload_n 1, 1) := by decide +kernel
theorem dL_law_292 : decode cL_law 292 = .ok (.aload_n 0, 1) := by decide +kernel
theorem dL_law_293 : decode cL_law 293 = .ok (.iload_n 3, 1) := by decide +kernel
theorem dL_law_294 : decode cL_law 294 = .ok (.iconst 1, 1) := by decide +kernel
theorem dL_law_295 : decode cL_law 295 = .ok (.iadd, 1) := by decide +kernel
theorem dL_law_296 : decode cL_law 296 = .ok (.iaload, 1) := by decide +kernel
theorem dL_law_297 : decode cL_law 297 = .ok (.invokevirtual 38, 3) := by decide +kernel
theorem dL_law_300 : decode cL_law 300 = .ok (.aload_n 2, 1) := by decide +kernel
theorem dL_law_301 : decode cL_law 301 = .ok (.aload_n 0, 1) := by decide +kernel
theorem dL_law_302 : decode cL_law 302 = .ok (.iload_n 3, 1) := by decide +kernel
theorem dL_law_303 : decode cL_law 303 = .ok (.iconst 1, 1) := by decide +kernel
theorem dL_law_304 : decode cL_law 304 = .ok (.iadd, 1) := by decide +kernel
theorem dL_law_305 : decode cL_law 305 = .ok (.iaload, 1) := by decide +kernel
theorem dL_law_306 : decode cL_law 306 = .ok (.invokevirtual 41, 3) := by decide +kernel
theorem dL_law_309 : decode cL_law 309 = .ok (.if_icmp .eq 761, 3) := by decide +kernel
theorem dL_law_312 : decode cL_law 312 = .ok (.iconst 0, 1) := by decide +kernel
theorem dL_law_313 : decode cL_law 313 = .ok (.ireturn, 1) := by decide +kernel
theorem dL_law_314 : decode cL_law 314 = .ok (.aload_n 1, 1) := by decide +kernel
theorem dL_law_315 : decode cL_law 315 = .ok (.aload_n 0, 1) := by decide +kernel
theorem dL_law_316 : decode cL_law 316 = .ok (.iload_n 3, 1) := by decide +kernel
theorem dL_law_317 : decode cL_law 317 = .ok (.iconst 1, 1) := by decide +kernel
theorem dL_law_318 : decode cL_law 318 = .ok (.iadd, 1) := by decide +kernel
theorem dL_law_319 : decode cL_law 319 = .ok (.iaload, 1) := by decide +kernel
theorem dL_law_320 : decode cL_law 320 = .ok (.aload_n 0, 1) := by decide +kernel
theorem dL_law_321 : decode cL_law 321 = .ok (.iload_n 3, 1) := by decide +kernel
theorem dL_law_322 : decode cL_law 322 = .ok (.iconst 2, 1) := by decide +kernel
theorem dL_law_323 : decode cL_law 323 = .ok (.iadd, 1) := by decide +kernel
theorem dL_law_324 : decode cL_law 324 = .ok (.iaload, 1) := by decide +kernel
theorem dL_law_325 : decode cL_law 325 = .ok (.aload_n 0, 1) := by decide +kernel
theorem dL_law_326 : decode cL_law 326 = .ok (.iload_n 3, 1) := by decide +kernel
theorem dL_law_327 : decode cL_law 327 = .ok (.iconst 3, 1) := by decide +kernel
theorem dL_law_328 : decode cL_law 328 = .ok (.iadd, 1) := by decide +kernel
theorem dL_law_329 : decode cL_law 329 = .ok (.iaload, 1) := by decide +kernel
theorem dL_law_330 : decode cL_law 330 = .ok (.ifCond .eq 7, 3) := by decide +kernel
theorem dL_law_333 : decode cL_law 333 = .ok (.iconst 1, 1) := by decide +kernel
theorem dL_law_334 : decode cL_law 334 = .ok (.goto 4, 3) := by decide +kernel
theorem dL_law_337 : decode cL_law 337 = .ok (.iconst 0, 1) := by decide +kernel
theorem dL_law_338 : decode cL_law 338 = .ok (.invokevirtual 42, 3) := by decide +kernel
theorem dL_law_341 : decode cL_law 341 = .ok (.aload_n 2, 1) := by decide +kernel
theorem dL_law_342 : decode cL_law 342 = .ok (.aload_n 0, 1) := by decide +kernel
theorem dL_law_343 : decode cL_law 343 = .ok (.iload_n 3, 1) := by decide +kernel
theorem dL_law_344 : decode cL_law 344 = .ok (.iconst 1, 1) := by decide +kernel
theorem dL_law_345 : decode cL_law 345 = .ok (.iadd, 1) := by decide +kernel
theorem dL_law_346 : decode cL_law 346 = .ok (.iaload, 1) := by decide +kernel
theorem dL_law_347 : decode cL_law 347 = .ok (.aload_n 0, 1) := by decide +kernel
theorem dL_law_348 : decode cL_law 348 = .ok (.iload_n 3, 1) := by decide +kernel
theorem dL_law_349 : decode cL_law 349 = .ok (.iconst 2, 1) := by decide +kernel
theorem dL_law_350 : decode cL_law 350 = .ok (.iadd, 1) := by decide +kernel
theorem dL_law_351 : decode cL_law 351 = .ok (.iaload, 1) := by decide +kernel
theorem dL_law_352 : decode cL_law 352 = .ok (.aload_n 0, 1) := by decide +kernel
theorem dL_law_353 : decode cL_law 353 = .ok (.iload_n 3, 1) := by decide +kernel
theorem dL_law_354 : decode cL_law 354 = .ok (.iconst 3, 1) := by decide +kernel
theorem dL_law_355 : decode cL_law 355 = .ok (.iadd, 1) := by decide +kernel
theorem dL_law_356 : decode cL_law 356 = .ok (.iaload, 1) := by decide +kernel
theorem dL_law_357 : decode cL_law 357 = .ok (.ifCond .eq 7, 3) := by decide +kernel
theorem dL_law_360 : decode cL_law 360 = .ok (.iconst 1, 1) := by decide +kernel
theorem dL_law_361 : decode cL_law 361 = .ok (.goto 4, 3) := by decide +kernel
theorem dL_law_364 : decode cL_law 364 = .ok (.iconst 0, 1) := by decide +kernel
theorem dL_law_365 : decode cL_law 365 = .ok (.invokevirtual 46, 3) := by decide +kernel
theorem dL_law_368 : decode cL_law 368 = .ok (.if_icmp .eq 702, 3) := by decide +kernel
theorem dL_law_371 : decode cL_law 371 = .ok (.iconst 0, 1) := by decide +kernel
theorem dL_law_372 : decode cL_law 372 = .ok (.ireturn, 1) := by decide +kernel
theorem dL_law_373 : decode cL_law 373 = .ok (.aload_n 1, 1) := by decide +kernel
theorem dL_law_374 : decode cL_law 374 = .ok (.aload_n 0, 1) := by decide +kernel
theorem dL_law_375 : decode cL_law 375 = .ok (.iload_n 3, 1) := by decide +kernel
theorem dL_law_376 : decode cL_law 376 = .ok (.iconst 1, 1) := by decide +kernel
theorem dL_law_377 : decode cL_law 377 = .ok (.iadd, 1) := by decide +kernel
theorem dL_law_378 : decode cL_law 378 = .ok (.iaload, 1) := by decide +kernel
theorem dL_law_379 : decode cL_law 379 = .ok (.aload_n 0, 1) := by decide +kernel
theorem dL_law_380 : decode cL_law 380 = .ok (.iload_n 3, 1) := by decide +kernel
theorem dL_law_381 : decode cL_law 381 = .ok (.iconst 2, 1) := by decide +kernel
theorem dL_law_382 : decode cL_law 382 = .ok (.iadd, 1) := by decide +kernel
theorem dL_law_383 : decode cL_law 383 = .ok (.iaload, 1) := by decide +kernel
theorem dL_law_384 : decode cL_law 384 = .ok (.aload_n 0, 1) := by decide +kernel
theorem dL_law_385 : decode cL_law 385 = .ok (.iload_n 3, 1) := by decide +kernel
theorem dL_law_386 : decode cL_law 386 = .ok (.iconst 3, 1) := by decide +kernel
theorem dL_law_387 : decode cL_law 387 = .ok (.iadd, 1) := by decide +kernel
theorem dL_law_388 : decode cL_law 388 = .ok (.iaload, 1) := by decide +kernel
theorem dL_law_389 : decode cL_law 389 = .ok (.invokevirtual 47, 3) := by decide +kernel
theorem dL_law_392 : decode cL_law 392 = .ok (.aload_n 2, 1) := by decide +kernel
theorem dL_law_393 : decode cL_law 393 = .ok (.aload_n 0, 1) := by decide +kernel
theorem dL_law_394 : decode cL_law 394 = .ok (.iload_n 3, 1) := by decide +kernel
theorem dL_law_395 : decode cL_law 395 = .ok (.iconst 1, 1) := by decide +kernel
theorem dL_law_396 : decode cL_law 396 = .ok (.iadd, 1) := by decide +kernel
theorem dL_law_397 : decode cL_law 397 = .ok (.iaload, 1) := by decide +kernel
theorem dL_law_398 : decode cL_law 398 = .ok (.aload_n 0, 1) := by decide +kernel
theorem dL_law_399 : decode cL_law 399 = .ok (.iload_n 3, 1) := by decide +kernel
theorem dL_law_400 : decode cL_law 400 = .ok (.iconst 2, 1) := by decide +kernel
theorem dL_law_401 : decode cL_law 401 = .ok (.iadd, 1) := by decide +kernel
theorem dL_law_402 : decode cL_law 402 = .ok (.iaload, 1) := by decide +kernel
theorem dL_law_403 : decode cL_law 403 = .ok (.aload_n 0, 1) := by decide +kernel
theorem dL_law_404 : decode cL_law 404 = .ok (.iload_n 3, 1) := by decide +kernel
theorem dL_law_405 : decode cL_law 405 = .ok (.iconst 3, 1) := by decide +kernel
theorem dL_law_406 : decode cL_law 406 = .ok (.iadd, 1) := by decide +kernel
theorem dL_law_407 : decode cL_law 407 = .ok (.iaload, 1) := by decide +kernel
theorem dL_law_408 : decode cL_law 408 = .ok (.invokevirtual 51, 3) := by decide +kernel
theorem dL_law_411 : decode cL_law 411 = .ok (.if_icmp .eq 659, 3) := by decide +kernel
theorem dL_law_414 : decode cL_law 414 = .ok (.iconst 0, 1) := by decide +kernel
theorem dL_law_415 : decode cL_law 415 = .ok (.ireturn, 1) := by decide +kernel
theorem dL_law_416 : decode cL_law 416 = .ok (.aload_n 1, 1) := by decide +kernel
theorem dL_law_417 : decode cL_law 417 = .ok (.aload_n 0, 1) := by decide +kernel
theorem dL_law_418 : decode cL_law 418 = .ok (.iload_n 3, 1) := by decide +kernel
theorem dL_law_419 : decode cL_law 419 = .ok (.iconst 1, 1) := by decide +kernel
theorem dL_law_420 : decode cL_law 420 = .ok (.iadd, 1) := by decide +kernel
theorem dL_law_421 : decode cL_law 421 = .ok (.iaload, 1) := by decide +kernel
theorem dL_law_422 : decode cL_law 422 = .ok (.aload_n 0, 1) := by decide +kernel
theorem dL_law_423 : decode cL_law 423 = .ok (.iload_n 3, 1) := by decide +kernel
theorem dL_law_424 : decode cL_law 424 = .ok (.iconst 2, 1) := by decide +kernel
theorem dL_law_425 : decode cL_law 425 = .ok (.iadd, 1) := by decide +kernel
theorem dL_law_426 : decode cL_law 426 = .ok (.iaload, 1) := by decide +kernel
theorem dL_law_427 : decode cL_law 427 = .ok (.invokevirtual 52, 3) := by decide +kernel
theorem dL_law_430 : decode cL_law 430 = .ok (.aload_n 2, 1) := by decide +kernel
theorem dL_law_431 : decode cL_law 431 = .ok (.aload_n 0, 1) := by decide +kernel
theorem dL_law_432 : decode cL_law 432 = .ok (.iload_n 3, 1) := by decide +kernel
theorem dL_law_433 : decode cL_law 433 = .ok (.iconst 1, 1) := by decide +kernel
theorem dL_law_434 : decode cL_law 434 = .ok (.iadd, 1) := by decide +kernel
theorem dL_law_435 : decode cL_law 435 = .ok (.iaload, 1) := by decide +kernel
theorem dL_law_436 : decode cL_law 436 = .ok (.aload_n 0, 1) := by decide +kernel
theorem dL_law_437 : decode cL_law 437 = .ok (.iload_n 3, 1) := by decide +kernel
theorem dL_law_438 : decode cL_law 438 = .ok (.iconst 2, 1) := by decide +kernel
theorem dL_law_439 : decode cL_law 439 = .ok (.iadd, 1) := by decide +kernel
theorem dL_law_440 : decode cL_law 440 = .ok (.iaload, 1) := by decide +kernel
theorem dL_law_441 : decode cL_law 441 = .ok (.invokevirtual 56, 3) := by decide +kernel
theorem dL_law_444 : decode cL_law 444 = .ok (.if_icmp .eq 626, 3) := by decide +kernel
theorem dL_law_447 : decode cL_law 447 = .ok (.iconst 0, 1) := by decide +kernel
theorem dL_law_448 : decode cL_law 448 = .ok (.ireturn, 1) := by decide +kernel
theorem dL_law_449 : decode cL_law 449 = .ok (.aload_n 1, 1) := by decide +kernel
theorem dL_law_450 : decode cL_law 450 = .ok (.aload_n 0, 1) := by decide +kernel
theorem dL_law_451 : decode cL_law 451 = .ok (.iload_n 3, 1) := by decide +kernel
theorem dL_law_452 : decode cL_law 452 = .ok (.iconst 1, 1) := by decide +kernel
theorem dL_law_453 : decode cL_law 453 = .ok (.iadd, 1) := by decide +kernel
theorem dL_law_454 : decode cL_law 454 = .ok (.iaload, 1) := by decide +kernel
theorem dL_law_455 : decode cL_law 455 = .ok (.aload_n 0, 1) := by decide +kernel
theorem dL_law_456 : decode cL_law 456 = .ok (.iload_n 3, 1) := by decide +kernel
theorem dL_law_457 : decode cL_law 457 = .ok (.iconst 2, 1) := by decide +kernel
theorem dL_law_458 : decode cL_law 458 = .ok (.iadd, 1) := by decide +kernel
theorem dL_law_459 : decode cL_law 459 = .ok (.iaload, 1) := by decide +kernel
theorem dL_law_460 : decode cL_law 460 = .ok (.invokevirtual 57, 3) := by decide +kernel
theorem dL_law_463 : decode cL_law 463 = .ok (.aload_n 2, 1) := by decide +kernel
theorem dL_law_464 : decode cL_law 464 = .ok (.aload_n 0, 1) := by decide +kernel
theorem dL_law_465 : decode cL_law 465 = .ok (.iload_n 3, 1) := by decide +kernel
theorem dL_law_466 : decode cL_law 466 = .ok (.iconst 1, 1) := by decide +kernel
theorem dL_law_467 : decode cL_law 467 = .ok (.iadd, 1) := by decide +kernel
theorem dL_law_468 : decode cL_law 468 = .ok (.iaload, 1) := by decide +kernel
theorem dL_law_469 : decode cL_law 469 = .ok (.aload_n 0, 1) := by decide +kernel
theorem dL_law_470 : decode cL_law 470 = .ok (.iload_n 3, 1) := by decide +kernel
theorem dL_law_471 : decode cL_law 471 = .ok (.iconst 2, 1) := by decide +kernel
theorem dL_law_472 : decode cL_law 472 = .ok (.iadd, 1) := by decide +kernel
theorem dL_law_473 : decode cL_law 473 = .ok (.iaload, 1) := by decide +kernel
theorem dL_law_474 : decode cL_law 474 = .ok (.invokevirtual 60, 3) := by decide +kernel
theorem dL_law_477 : decode cL_law 477 = .ok (.if_icmp .eq 593, 3) := by decide +kernel
theorem dL_law_480 : decode cL_law 480 = .ok (.iconst 0, 1) := by decide +kernel
theorem dL_law_481 : decode cL_law 481 = .ok (.ireturn, 1) := by decide +kernel
theorem dL_law_482 : decode cL_law 482 = .ok (.aload_n 1, 1) := by decide +kernel
theorem dL_law_483 : decode cL_law 483 = .ok (.aload_n 0, 1) := by decide +kernel
theorem dL_law_484 : decode cL_law 484 = .ok (.iload_n 3, 1) := by decide +kernel
theorem dL_law_485 : decode cL_law 485 = .ok (.iconst 1, 1) := by decide +kernel
theorem dL_law_486 : decode cL_law 486 = .ok (.iadd, 1) := by decide +kernel
theorem dL_law_487 : decode cL_law 487 = .ok (.iaload, 1) := by decide +kernel
theorem dL_law_488 : decode cL_law 488 = .ok (.invokevirtual 61, 3) := by decide +kernel
theorem dL_law_491 : decode cL_law 491 = .ok (.aload_n 2, 1) := by decide +kernel
theorem dL_law_492 : decode cL_law 492 = .ok (.aload_n 0, 1) := by decide +kernel
theorem dL_law_493 : decode cL_law 493 = .ok (.iload_n 3, 1) := by decide +kernel
theorem dL_law_494 : decode cL_law 494 = .ok (.iconst 1, 1) := by decide +kernel
theorem dL_law_495 : decode cL_law 495 = .ok (.iadd, 1) := by decide +kernel
theorem dL_law_496 : decode cL_law 496 = .ok (.iaload, 1) := by decide +kernel
theorem dL_law_497 : decode cL_law 497 = .ok (.invokevirtual 64, 3) := by decide +kernel
theorem dL_law_500 : decode cL_law 500 = .ok (.if_icmp .eq 570, 3) := by decide +kernel
theorem dL_law_503 : decode cL_law 503 = .ok (.iconst 0, 1) := by decide +kernel
theorem dL_law_504 : decode cL_law 504 = .ok (.ireturn, 1) := by decide +kernel
theorem dL_law_505 : decode cL_law 505 = .ok (.aload_n 1, 1) := by decide +kernel
theorem dL_law_506 : decode cL_law 506 = .ok (.aload_n 0, 1) := by decide +kernel
theorem dL_law_507 : decode cL_law 507 = .ok (.iload_n 3, 1) := by decide +kernel
theorem dL_law_508 : decode cL_law 508 = .ok (.iconst 1, 1) := by decide +kernel
theorem dL_law_509 : decode cL_law 509 = .ok (.iadd, 1) := by decide +kernel
theorem dL_law_510 : decode cL_law 510 = .ok (.iaload, 1) := by decide +kernel
theorem dL_law_511 : decode cL_law 511 = .ok (.aload_n 0, 1) := by decide +kernel
theorem dL_law_512 : decode cL_law 512 = .ok (.iload_n 3, 1) := by decide +kernel
theorem dL_law_513 : decode cL_law 513 = .ok (.iconst 2, 1) := by decide +kernel
theorem dL_law_514 : decode cL_law 514 = .ok (.iadd, 1) := by decide +kernel
theorem dL_law_515 : decode cL_law 515 = .ok (.iaload, 1) := by decide +kernel
theorem dL_law_516 : decode cL_law 516 = .ok (.invokevirtual 65, 3) := by decide +kernel
theorem dL_law_519 : decode cL_law 519 = .ok (.aload_n 2, 1) := by decide +kernel
theorem dL_law_520 : decode cL_law 520 = .ok (.aload_n 0, 1) := by decide +kernel
theorem dL_law_521 : decode cL_law 521 = .ok (.iload_n 3, 1) := by decide +kernel
theorem dL_law_522 : decode cL_law 522 = .ok (.iconst 1, 1) := by decide +kernel
theorem dL_law_523 : decode cL_law 523 = .ok (.iadd, 1) := by decide +kernel
theorem dL_law_524 : decode cL_law 524 = .ok (.iaload, 1) := by decide +kernel
theorem dL_law_525 : decode cL_law 525 = .ok (.aload_n 0, 1) := by decide +kernel
theorem dL_law_526 : decode cL_law 526 = .ok (.iload_n 3, 1) := by decide +kernel
theorem dL_law_527 : decode cL_law 527 = .ok (.iconst 2, 1) := by decide +kernel
theorem dL_law_528 : decode cL_law 528 = .ok (.iadd, 1) := by decide +kernel
theorem dL_law_529 : decode cL_law 529 = .ok (.iaload, 1) := by decide +kernel
theorem dL_law_530 : decode cL_law 530 = .ok (.invokevirtual 68, 3) := by decide +kernel
theorem dL_law_533 : decode cL_law 533 = .ok (.if_icmp .eq 537, 3) := by decide +kernel
theorem dL_law_536 : decode cL_law 536 = .ok (.iconst 0, 1) := by decide +kernel
theorem dL_law_537 : decode cL_law 537 = .ok (.ireturn, 1) := by decide +kernel
theorem dL_law_538 : decode cL_law 538 = .ok (.aload_n 1, 1) := by decide +kernel
theorem dL_law_539 : decode cL_law 539 = .ok (.aload_n 0, 1) := by decide +kernel
theorem dL_law_540 : decode cL_law 540 = .ok (.iload_n 3, 1) := by decide +kernel
theorem dL_law_541 : decode cL_law 541 = .ok (.iconst 1, 1) := by decide +kernel
theorem dL_law_542 : decode cL_law 542 = .ok (.iadd, 1) := by decide +kernel
theorem dL_law_543 : decode cL_law 543 = .ok (.iaload, 1) := by decide +kernel
theorem dL_law_544 : decode cL_law 544 = .ok (.aload_n 0, 1) := by decide +kernel
theorem dL_law_545 : decode cL_law 545 = .ok (.iload_n 3, 1) := by decide +kernel
theorem dL_law_546 : decode cL_law 546 = .ok (.iconst 2, 1) := by decide +kernel
theorem dL_law_547 : decode cL_law 547 = .ok (.iadd, 1) := by decide +kernel
theorem dL_law_548 : decode cL_law 548 = .ok (.iaload, 1) := by decide +kernel
theorem dL_law_549 : decode cL_law 549 = .ok (.invokevirtual 69, 3) := by decide +kernel
theorem dL_law_552 : decode cL_law 552 = .ok (.aload_n 2, 1) := by decide +kernel
theorem dL_law_553 : decode cL_law 553 = .ok (.aload_n 0, 1) := by decide +kernel
theorem dL_law_554 : decode cL_law 554 = .ok (.iload_n 3, 1) := by decide +kernel
theorem dL_law_555 : decode cL_law 555 = .ok (.iconst 1, 1) := by decide +kernel
theorem dL_law_556 : decode cL_law 556 = .ok (.iadd, 1) := by decide +kernel
theorem dL_law_557 : decode cL_law 557 = .ok (.iaload, 1) := by decide +kernel
theorem dL_law_558 : decode cL_law 558 = .ok (.aload_n 0, 1) := by decide +kernel
theorem dL_law_559 : decode cL_law 559 = .ok (.iload_n 3, 1) := by decide +kernel
theorem dL_law_560 : decode cL_law 560 = .ok (.iconst 2, 1) := by decide +kernel
theorem dL_law_561 : decode cL_law 561 = .ok (.iadd, 1) := by decide +kernel
theorem dL_law_562 : decode cL_law 562 = .ok (.iaload, 1) := by decide +kernel
theorem dL_law_563 : decode cL_law 563 = .ok (.invokevirtual 72, 3) := by decide +kernel
theorem dL_law_566 : decode cL_law 566 = .ok (.if_icmp .eq 504, 3) := by decide +kernel
theorem dL_law_569 : decode cL_law 569 = .ok (.iconst 0, 1) := by decide +kernel
theorem dL_law_570 : decode cL_law 570 = .ok (.ireturn, 1) := by decide +kernel
theorem dL_law_571 : decode cL_law 571 = .ok (.aload_n 1, 1) := by decide +kernel
theorem dL_law_572 : decode cL_law 572 = .ok (.aload_n 0, 1) := by decide +kernel
theorem dL_law_573 : decode cL_law 573 = .ok (.iload_n 3, 1) := by decide +kernel
theorem dL_law_574 : decode cL_law 574 = .ok (.iconst 1, 1) := by decide +kernel
theorem dL_law_575 : decode cL_law 575 = .ok (.iadd, 1) := by decide +kernel
theorem dL_law_576 : decode cL_law 576 = .ok (.iaload, 1) := by decide +kernel
theorem dL_law_577 : decode cL_law 577 = .ok (.aload_n 0, 1) := by decide +kernel
theorem dL_law_578 : decode cL_law 578 = .ok (.iload_n 3, 1) := by decide +kernel
theorem dL_law_579 : decode cL_law 579 = .ok (.iconst 2, 1) := by decide +kernel
theorem dL_law_580 : decode cL_law 580 = .ok (.iadd, 1) := by decide +kernel
theorem dL_law_581 : decode cL_law 581 = .ok (.iaload, 1) := by decide +kernel
theorem dL_law_582 : decode cL_law 582 = .ok (.invokevirtual 73, 3) := by decide +kernel
theorem dL_law_585 : decode cL_law 585 = .ok (.aload_n 2, 1) := by decide +kernel
theorem dL_law_586 : decode cL_law 586 = .ok (.aload_n 0, 1) := by decide +kernel
theorem dL_law_587 : decode cL_law 587 = .ok (.iload_n 3, 1) := by decide +kernel
theorem dL_law_588 : decode cL_law 588 = .ok (.iconst 1, 1) := by decide +kernel
theorem dL_law_589 : decode cL_law 589 = .ok (.iadd, 1) := by decide +kernel
theorem dL_law_590 : decode cL_law 590 = .ok (.iaload, 1) := by decide +kernel
theorem dL_law_591 : decode cL_law 591 = .ok (.aload_n 0, 1) := by decide +kernel
theorem dL_law_592 : decode cL_law 592 = .ok (.iload_n 3, 1) := by decide +kernel
theorem dL_law_593 : decode cL_law 593 = .ok (.iconst 2, 1) := by decide +kernel
theorem dL_law_594 : decode cL_law 594 = .ok (.iadd, 1) := by decide +kernel
theorem dL_law_595 : decode cL_law 595 = .ok (.iaload, 1) := by decide +kernel
theorem dL_law_596 : decode cL_law 596 = .ok (.invokevirtual 76, 3) := by decide +kernel
theorem dL_law_599 : decode cL_law 599 = .ok (.if_icmp .eq 471, 3) := by decide +kernel
theorem dL_law_602 : decode cL_law 602 = .ok (.iconst 0, 1) := by decide +kernel
theorem dL_law_603 : decode cL_law 603 = .ok (.ireturn, 1) := by decide +kernel
theorem dL_law_604 : decode cL_law 604 = .ok (.aload_n 1, 1) := by decide +kernel
theorem dL_law_605 : decode cL_law 605 = .ok (.aload_n 0, 1) := by decide +kernel
theorem dL_law_606 : decode cL_law 606 = .ok (.iload_n 3, 1) := by decide +kernel
theorem dL_law_607 : decode cL_law 607 = .ok (.iconst 1, 1) := by decide +kernel
theorem dL_law_608 : decode cL_law 608 = .ok (.iadd, 1) := by decide +kernel
theorem dL_law_609 : decode cL_law 609 = .ok (.iaload, 1) := by decide +kernel
theorem dL_law_610 : decode cL_law 610 = .ok (.invokevirtual 77, 3) := by decide +kernel
theorem dL_law_613 : decode cL_law 613 = .ok (.aload_n 2, 1) := by decide +kernel
theorem dL_law_614 : decode cL_law 614 = .ok (.aload_n 0, 1) := by decide +kernel
theorem dL_law_615 : decode cL_law 615 = .ok (.iload_n 3, 1) := by decide +kernel
theorem dL_law_616 : decode cL_law 616 = .ok (.iconst 1, 1) := by decide +kernel
theorem dL_law_617 : decode cL_law 617 = .ok (.iadd, 1) := by decide +kernel
theorem dL_law_618 : decode cL_law 618 = .ok (.iaload, 1) := by decide +kernel
theorem dL_law_619 : decode cL_law 619 = .ok (.invokevirtual 80, 3) := by decide +kernel
theorem dL_law_622 : decode cL_law 622 = .ok (.if_icmp .eq 448, 3) := by decide +kernel
theorem dL_law_625 : decode cL_law 625 = .ok (.iconst 0, 1) := by decide +kernel
theorem dL_law_626 : decode cL_law 626 = .ok (.ireturn, 1) := by decide +kernel
theorem dL_law_627 : decode cL_law 627 = .ok (.aload_n 1, 1) := by decide +kernel
theorem dL_law_628 : decode cL_law 628 = .ok (.aload_n 0, 1) := by decide +kernel
theorem dL_law_629 : decode cL_law 629 = .ok (.iload_n 3, 1) := by decide +kernel
theorem dL_law_630 : decode cL_law 630 = .ok (.iconst 1, 1) := by decide +kernel
theorem dL_law_631 : decode cL_law 631 = .ok (.iadd, 1) := by decide +kernel
theorem dL_law_632 : decode cL_law 632 = .ok (.iaload, 1) := by decide +kernel
theorem dL_law_633 : decode cL_law 633 = .ok (.aload_n 0, 1) := by decide +kernel
theorem dL_law_634 : decode cL_law 634 = .ok (.iload_n 3, 1) := by decide +kernel
theorem dL_law_635 : decode cL_law 635 = .ok (.iconst 2, 1) := by decide +kernel
theorem dL_law_636 : decode cL_law 636 = .ok (.iadd, 1) := by decide +kernel
theorem dL_law_637 : decode cL_law 637 = .ok (.iaload, 1) := by decide +kernel
theorem dL_law_638 : decode cL_law 638 = .ok (.invokevirtual 81, 3) := by decide +kernel
theorem dL_law_641 : decode cL_law 641 = .ok (.aload_n 2, 1) := by decide +kernel
theorem dL_law_642 : decode cL_law 642 = .ok (.aload_n 0, 1) := by decide +kernel
theorem dL_law_643 : decode cL_law 643 = .ok (.iload_n 3, 1) := by decide +kernel
theorem dL_law_644 : decode cL_law 644 = .ok (.iconst 1, 1) := by decide +kernel
theorem dL_law_645 : decode cL_law 645 = .ok (.iadd, 1) := by decide +kernel
theorem dL_law_646 : decode cL_law 646 = .ok (.iaload, 1) := by decide +kernel
theorem dL_law_647 : decode cL_law 647 = .ok (.aload_n 0, 1) := by decide +kernel
theorem dL_law_648 : decode cL_law 648 = .ok (.iload_n 3, 1) := by decide +kernel
theorem dL_law_649 : decode cL_law 649 = .ok (.iconst 2, 1) := by decide +kernel
theorem dL_law_650 : decode cL_law 650 = .ok (.iadd, 1) := by decide +kernel
theorem dL_law_651 : decode cL_law 651 = .ok (.iaload, 1) := by decide +kernel
theorem dL_law_652 : decode cL_law 652 = .ok (.invokevirtual 84, 3) := by decide +kernel
theorem dL_law_655 : decode cL_law 655 = .ok (.if_icmp .eq 415, 3) := by decide +kernel
theorem dL_law_658 : decode cL_law 658 = .ok (.iconst 0, 1) := by decide +kernel
theorem dL_law_659 : decode cL_law 659 = .ok (.ireturn, 1) := by decide +kernel
theorem dL_law_660 : decode cL_law 660 = .ok (.aload_n 1, 1) := by decide +kernel
theorem dL_law_661 : decode cL_law 661 = .ok (.aload_n 0, 1) := by decide +kernel
theorem dL_law_662 : decode cL_law 662 = .ok (.iload_n 3, 1) := by decide +kernel
theorem dL_law_663 : decode cL_law 663 = .ok (.iconst 1, 1) := by decide +kernel
theorem dL_law_664 : decode cL_law 664 = .ok (.iadd, 1) := by decide +kernel
theorem dL_law_665 : decode cL_law 665 = .ok (.iaload, 1) := by decide +kernel
theorem dL_law_666 : decode cL_law 666 = .ok (.invokevirtual 85, 3) := by decide +kernel
theorem dL_law_669 : decode cL_law 669 = .ok (.aload_n 2, 1) := by decide +kernel
theorem dL_law_670 : decode cL_law 670 = .ok (.aload_n 0, 1) := by decide +kernel
theorem dL_law_671 : decode cL_law 671 = .ok (.iload_n 3, 1) := by decide +kernel
theorem dL_law_672 : decode cL_law 672 = .ok (.iconst 1, 1) := by decide +kernel
theorem dL_law_673 : decode cL_law 673 = .ok (.iadd, 1) := by decide +kernel
theorem dL_law_674 : decode cL_law 674 = .ok (.iaload, 1) := by decide +kernel
theorem dL_law_675 : decode cL_law 675 = .ok (.invokevirtual 88, 3) := by decide +kernel
theorem dL_law_678 : decode cL_law 678 = .ok (.if_icmp .eq 392, 3) := by decide +kernel
theorem dL_law_681 : decode cL_law 681 = .ok (.iconst 0, 1) := by decide +kernel
theorem dL_law_682 : decode cL_law 682 = .ok (.ireturn, 1) := by decide +kernel
theorem dL_law_683 : decode cL_law 683 = .ok (.aload_n 1, 1) := by decide +kernel
theorem dL_law_684 : decode cL_law 684 = .ok (.aload_n 0, 1) := by decide +kernel
theorem dL_law_685 : decode cL_law 685 = .ok (.iload_n 3, 1) := by decide +kernel
theorem dL_law_686 : decode cL_law 686 = .ok (.iconst 1, 1) := by decide +kernel
theorem dL_law_687 : decode cL_law 687 = .ok (.iadd, 1) := by decide +kernel
theorem dL_law_688 : decode cL_law 688 = .ok (.iaload, 1) := by decide +kernel
theorem dL_law_689 : decode cL_law 689 = .ok (.aload_n 0, 1) := by decide +kernel
theorem dL_law_690 : decode cL_law 690 = .ok (.iload_n 3, 1) := by decide +kernel
theorem dL_law_691 : decode cL_law 691 = .ok (.iconst 2, 1) := by decide +kernel
theorem dL_law_692 : decode cL_law 692 = .ok (.iadd, 1) := by decide +kernel
theorem dL_law_693 : decode cL_law 693 = .ok (.iaload, 1) := by decide +kernel
theorem dL_law_694 : decode cL_law 694 = .ok (.invokevirtual 89, 3) := by decide +kernel
theorem dL_law_697 : decode cL_law 697 = .ok (.aload_n 2, 1) := by decide +kernel
theorem dL_law_698 : decode cL_law 698 = .ok (.aload_n 0, 1) := by decide +kernel
theorem dL_law_699 : decode cL_law 699 = .ok (.iload_n 3, 1) := by decide +kernel
theorem dL_law_700 : decode cL_law 700 = .ok (.iconst 1, 1) := by decide +kernel
theorem dL_law_701 : decode cL_law 701 = .ok (.iadd, 1) := by decide +kernel
theorem dL_law_702 : decode cL_law 702 = .ok (.iaload, 1) := by decide +kernel
theorem dL_law_703 : decode cL_law 703 = .ok (.aload_n 0, 1) := by decide +kernel
theorem dL_law_704 : decode cL_law 704 = .ok (.iload_n 3, 1) := by decide +kernel
theorem dL_law_705 : decode cL_law 705 = .ok (.iconst 2, 1) := by decide +kernel
theorem dL_law_706 : decode cL_law 706 = .ok (.iadd, 1) := by decide +kernel
theorem dL_law_707 : decode cL_law 707 = .ok (.iaload, 1) := by decide +kernel
theorem dL_law_708 : decode cL_law 708 = .ok (.invokevirtual 92, 3) := by decide +kernel
theorem dL_law_711 : decode cL_law 711 = .ok (.if_icmp .eq 359, 3) := by decide +kernel
theorem dL_law_714 : decode cL_law 714 = .ok (.iconst 0, 1) := by decide +kernel
theorem dL_law_715 : decode cL_law 715 = .ok (.ireturn, 1) := by decide +kernel
theorem dL_law_716 : decode cL_law 716 = .ok (.aload_n 1, 1) := by decide +kernel
theorem dL_law_717 : decode cL_law 717 = .ok (.aload_n 0, 1) := by decide +kernel
theorem dL_law_718 : decode cL_law 718 = .ok (.iload_n 3, 1) := by decide +kernel
theorem dL_law_719 : decode cL_law 719 = .ok (.iconst 1, 1) := by decide +kernel
theorem dL_law_720 : decode cL_law 720 = .ok (.iadd, 1) := by decide +kernel
theorem dL_law_721 : decode cL_law 721 = .ok (.iaload, 1) := by decide +kernel
theorem dL_law_722 : decode cL_law 722 = .ok (.invokevirtual 93, 3) := by decide +kernel
theorem dL_law_725 : decode cL_law 725 = .ok (.aload_n 2, 1) := by decide +kernel
theorem dL_law_726 : decode cL_law 726 = .ok (.aload_n 0, 1) := by decide +kernel
theorem dL_law_727 : decode cL_law 727 = .ok (.iload_n 3, 1) := by decide +kernel
theorem dL_law_728 : decode cL_law 728 = .ok (.iconst 1, 1) := by decide +kernel
theorem dL_law_729 : decode cL_law 729 = .ok (.iadd, 1) := by decide +kernel
theorem dL_law_730 : decode cL_law 730 = .ok (.iaload, 1) := by decide +kernel
theorem dL_law_731 : decode cL_law 731 = .ok (.invokevirtual 96, 3) := by decide +kernel
theorem dL_law_734 : decode cL_law 734 = .ok (.if_icmp .eq 336, 3) := by decide +kernel
theorem dL_law_737 : decode cL_law 737 = .ok (.iconst 0, 1) := by decide +kernel
theorem dL_law_738 : decode cL_law 738 = .ok (.ireturn, 1) := by decide +kernel
theorem dL_law_739 : decode cL_law 739 = .ok (.aload_n 1, 1) := by decide +kernel
theorem dL_law_740 : decode cL_law 740 = .ok (.aload_n 0, 1) := by decide +kernel
theorem dL_law_741 : decode cL_law 741 = .ok (.iload_n 3, 1) := by decide +kernel
theorem dL_law_742 : decode cL_law 742 = .ok (.iconst 1, 1) := by decide +kernel
theorem dL_law_743 : decode cL_law 743 = .ok (.iadd, 1) := by decide +kernel
theorem dL_law_744 : decode cL_law 744 = .ok (.iaload, 1) := by decide +kernel
theorem dL_law_745 : decode cL_law 745 = .ok (.aload_n 0, 1) := by decide +kernel
theorem dL_law_746 : decode cL_law 746 = .ok (.iload_n 3, 1) := by decide +kernel
theorem dL_law_747 : decode cL_law 747 = .ok (.iconst 2, 1) := by decide +kernel
theorem dL_law_748 : decode cL_law 748 = .ok (.iadd, 1) := by decide +kernel
theorem dL_law_749 : decode cL_law 749 = .ok (.iaload, 1) := by decide +kernel
theorem dL_law_750 : decode cL_law 750 = .ok (.aload_n 0, 1) := by decide +kernel
theorem dL_law_751 : decode cL_law 751 = .ok (.iload_n 3, 1) := by decide +kernel
theorem dL_law_752 : decode cL_law 752 = .ok (.iconst 3, 1) := by decide +kernel
theorem dL_law_753 : decode cL_law 753 = .ok (.iadd, 1) := by decide +kernel
theorem dL_law_754 : decode cL_law 754 = .ok (.iaload, 1) := by decide +kernel
theorem dL_law_755 : decode cL_law 755 = .ok (.invokevirtual 97, 3) := by decide +kernel
theorem dL_law_758 : decode cL_law 758 = .ok (.aload_n 2, 1) := by decide +kernel
theorem dL_law_759 : decode cL_law 759 = .ok (.aload_n 0, 1) := by decide +kernel
theorem dL_law_760 : decode cL_law 760 = .ok (.iload_n 3, 1) := by decide +kernel
theorem dL_law_761 : decode cL_law 761 = .ok (.iconst 1, 1) := by decide +kernel
theorem dL_law_762 : decode cL_law 762 = .ok (.iadd, 1) := by decide +kernel
theorem dL_law_763 : decode cL_law 763 = .ok (.iaload, 1) := by decide +kernel
theorem dL_law_764 : decode cL_law 764 = .ok (.aload_n 0, 1) := by decide +kernel
theorem dL_law_765 : decode cL_law 765 = .ok (.iload_n 3, 1) := by decide +kernel
theorem dL_law_766 : decode cL_law 766 = .ok (.iconst 2, 1) := by decide +kernel
theorem dL_law_767 : decode cL_law 767 = .ok (.iadd, 1) := by decide +kernel
theorem dL_law_768 : decode cL_law 768 = .ok (.iaload, 1) := by decide +kernel
theorem dL_law_769 : decode cL_law 769 = .ok (.aload_n 0, 1) := by decide +kernel
theorem dL_law_770 : decode cL_law 770 = .ok (.iload_n 3, 1) := by decide +kernel
theorem dL_law_771 : decode cL_law 771 = .ok (.iconst 3, 1) := by decide +kernel
theorem dL_law_772 : decode cL_law 772 = .ok (.iadd, 1) := by decide +kernel
theorem dL_law_773 : decode cL_law 773 = .ok (.iaload, 1) := by decide +kernel
theorem dL_law_774 : decode cL_law 774 = .ok (.invokevirtual 101, 3) := by decide +kernel
theorem dL_law_777 : decode cL_law 777 = .ok (.lcmp, 1) := by decide +kernel
theorem dL_law_778 : decode cL_law 778 = .ok (.ifCond .eq 292, 3) := by decide +kernel
theorem dL_law_781 : decode cL_law 781 = .ok (.iconst 0, 1) := by decide +kernel
theorem dL_law_782 : decode cL_law 782 = .ok (.ireturn, 1) := by decide +kernel
theorem dL_law_783 : decode cL_law 783 = .ok (.aload_n 1, 1) := by decide +kernel
theorem dL_law_784 : decode cL_law 784 = .ok (.invokevirtual 102, 3) := by decide +kernel
theorem dL_law_787 : decode cL_law 787 = .ok (.aload_n 2, 1) := by decide +kernel
theorem dL_law_788 : decode cL_law 788 = .ok (.invokevirtual 105, 3) := by decide +kernel
theorem dL_law_791 : decode cL_law 791 = .ok (.if_icmp .eq 279, 3) := by decide +kernel
theorem dL_law_794 : decode cL_law 794 = .ok (.iconst 0, 1) := by decide +kernel
theorem dL_law_795 : decode cL_law 795 = .ok (.ireturn, 1) := by decide +kernel
theorem dL_law_796 : decode cL_law 796 = .ok (.aload_n 1, 1) := by decide +kernel
theorem dL_law_797 : decode cL_law 797 = .ok (.aload_n 0, 1) := by decide +kernel
theorem dL_law_798 : decode cL_law 798 = .ok (.iload_n 3, 1) := by decide +kernel
theorem dL_law_799 : decode cL_law 799 = .ok (.iconst 1, 1) := by decide +kernel
theorem dL_law_800 : decode cL_law 800 = .ok (.iadd, 1) := by decide +kernel
theorem dL_law_801 : decode cL_law 801 = .ok (.iaload, 1) := by decide +kernel
theorem dL_law_802 : decode cL_law 802 = .ok (.invokevirtual 106, 3) := by decide +kernel
theorem dL_law_805 : decode cL_law 805 = .ok (.aload_n 2, 1) := by decide +kernel
theorem dL_law_806 : decode cL_law 806 = .ok (.aload_n 0, 1) := by decide +kernel
theorem dL_law_807 : decode cL_law 807 = .ok (.iload_n 3, 1) := by decide +kernel
theorem dL_law_808 : decode cL_law 808 = .ok (.iconst 1, 1) := by decide +kernel
theorem dL_law_809 : decode cL_law 809 = .ok (.iadd, 1) := by decide +kernel
theorem dL_law_810 : decode cL_law 810 = .ok (.iaload, 1) := by decide +kernel
theorem dL_law_811 : decode cL_law 811 = .ok (.invokevirtual 109, 3) := by decide +kernel
theorem dL_law_814 : decode cL_law 814 = .ok (.if_icmp .eq 256, 3) := by decide +kernel
theorem dL_law_817 : decode cL_law 817 = .ok (.iconst 0, 1) := by decide +kernel
theorem dL_law_818 : decode cL_law 818 = .ok (.ireturn, 1) := by decide +kernel
theorem dL_law_819 : decode cL_law 819 = .ok (.aload_n 1, 1) := by decide +kernel
theorem dL_law_820 : decode cL_law 820 = .ok (.aload_n 0, 1) := by decide +kernel
theorem dL_law_821 : decode cL_law 821 = .ok (.iload_n 3, 1) := by decide +kernel
theorem dL_law_822 : decode cL_law 822 = .ok (.iconst 1, 1) := by decide +kernel
theorem dL_law_823 : decode cL_law 823 = .ok (.iadd, 1) := by decide +kernel
theorem dL_law_824 : decode cL_law 824 = .ok (.iaload, 1) := by decide +kernel
theorem dL_law_825 : decode cL_law 825 = .ok (.aload_n 0, 1) := by decide +kernel
theorem dL_law_826 : decode cL_law 826 = .ok (.iload_n 3, 1) := by decide +kernel
theorem dL_law_827 : decode cL_law 827 = .ok (.iconst 2, 1) := by decide +kernel
theorem dL_law_828 : decode cL_law 828 = .ok (.iadd, 1) := by decide +kernel
theorem dL_law_829 : decode cL_law 829 = .ok (.iaload, 1) := by decide +kernel
theorem dL_law_830 : decode cL_law 830 = .ok (.aload_n 0, 1) := by decide +kernel
theorem dL_law_831 : decode cL_law 831 = .ok (.iload_n 3, 1) := by decide +kernel
theorem dL_law_832 : decode cL_law 832 = .ok (.iconst 3, 1) := by decide +kernel
theorem dL_law_833 : decode cL_law 833 = .ok (.iadd, 1) := by decide +kernel
theorem dL_law_834 : decode cL_law 834 = .ok (.iaload, 1) := by decide +kernel
theorem dL_law_835 : decode cL_law 835 = .ok (.invokevirtual 110, 3) := by decide +kernel
theorem dL_law_838 : decode cL_law 838 = .ok (.aload_n 2, 1) := by decide +kernel
theorem dL_law_839 : decode cL_law 839 = .ok (.aload_n 0, 1) := by decide +kernel
theorem dL_law_840 : decode cL_law 840 = .ok (.iload_n 3, 1) := by decide +kernel
theorem dL_law_841 : decode cL_law 841 = .ok (.iconst 1, 1) := by decide +kernel
theorem dL_law_842 : decode cL_law 842 = .ok (.iadd, 1) := by decide +kernel
theorem dL_law_843 : decode cL_law 843 = .ok (.iaload, 1) := by decide +kernel
theorem dL_law_844 : decode cL_law 844 = .ok (.aload_n 0, 1) := by decide +kernel
theorem dL_law_845 : decode cL_law 845 = .ok (.iload_n 3, 1) := by decide +kernel
theorem dL_law_846 : decode cL_law 846 = .ok (.iconst 2, 1) := by decide +kernel
theorem dL_law_847 : decode cL_law 847 = .ok (.iadd, 1) := by decide +kernel
theorem dL_law_848 : decode cL_law 848 = .ok (.iaload, 1) := by decide +kernel
theorem dL_law_849 : decode cL_law 849 = .ok (.aload_n 0, 1) := by decide +kernel
theorem dL_law_850 : decode cL_law 850 = .ok (.iload_n 3, 1) := by decide +kernel
theorem dL_law_851 : decode cL_law 851 = .ok (.iconst 3, 1) := by decide +kernel
theorem dL_law_852 : decode cL_law 852 = .ok (.iadd, 1) := by decide +kernel
theorem dL_law_853 : decode cL_law 853 = .ok (.iaload, 1) := by decide +kernel
theorem dL_law_854 : decode cL_law 854 = .ok (.invokevirtual 113, 3) := by decide +kernel
theorem dL_law_857 : decode cL_law 857 = .ok (.if_icmp .eq 213, 3) := by decide +kernel
theorem dL_law_860 : decode cL_law 860 = .ok (.iconst 0, 1) := by decide +kernel
theorem dL_law_861 : decode cL_law 861 = .ok (.ireturn, 1) := by decide +kernel
theorem dL_law_862 : decode cL_law 862 = .ok (.aload_n 1, 1) := by decide +kernel
theorem dL_law_863 : decode cL_law 863 = .ok (.aload_n 0, 1) := by decide +kernel
theorem dL_law_864 : decode cL_law 864 = .ok (.iload_n 3, 1) := by decide +kernel
theorem dL_law_865 : decode cL_law 865 = .ok (.iconst 1, 1) := by decide +kernel
theorem dL_law_866 : decode cL_law 866 = .ok (.iadd, 1) := by decide +kernel
theorem dL_law_867 : decode cL_law 867 = .ok (.iaload, 1) := by decide +kernel
theorem dL_law_868 : decode cL_law 868 = .ok (.aload_n 0, 1) := by decide +kernel
theorem dL_law_869 : decode cL_law 869 = .ok (.iload_n 3, 1) := by decide +kernel
theorem dL_law_870 : decode cL_law 870 = .ok (.iconst 2, 1) := by decide +kernel
theorem dL_law_871 : decode cL_law 871 = .ok (.iadd, 1) := by decide +kernel
theorem dL_law_872 : decode cL_law 872 = .ok (.iaload, 1) := by decide +kernel
theorem dL_law_873 : decode cL_law 873 = .ok (.aload_n 0, 1) := by decide +kernel
theorem dL_law_874 : decode cL_law 874 = .ok (.iload_n 3, 1) := by decide +kernel
theorem dL_law_875 : decode cL_law 875 = .ok (.iconst 3, 1) := by decide +kernel
theorem dL_law_876 : decode cL_law 876 = .ok (.iadd, 1) := by decide +kernel
theorem dL_law_877 : decode cL_law 877 = .ok (.iaload, 1) := by decide +kernel
theorem dL_law_878 : decode cL_law 878 = .ok (.invokevirtual 114, 3) := by decide +kernel
theorem dL_law_881 : decode cL_law 881 = .ok (.aload_n 2, 1) := by decide +kernel
theorem dL_law_882 : decode cL_law 882 = .ok (.aload_n 0, 1) := by decide +kernel
theorem dL_law_883 : decode cL_law 883 = .ok (.iload_n 3, 1) := by decide +kernel
theorem dL_law_884 : decode cL_law 884 = .ok (.iconst 1, 1) := by decide +kernel
theorem dL_law_885 : decode cL_law 885 = .ok (.iadd, 1) := by decide +kernel
theorem dL_law_886 : decode cL_law 886 = .ok (.iaload, 1) := by decide +kernel
theorem dL_law_887 : decode cL_law 887 = .ok (.aload_n 0, 1) := by decide +kernel
theorem dL_law_888 : decode cL_law 888 = .ok (.iload_n 3, 1) := by decide +kernel
theorem dL_law_889 : decode cL_law 889 = .ok (.iconst 2, 1) := by decide +kernel
theorem dL_law_890 : decode cL_law 890 = .ok (.iadd, 1) := by decide +kernel
theorem dL_law_891 : decode cL_law 891 = .ok (.iaload, 1) := by decide +kernel
theorem dL_law_892 : decode cL_law 892 = .ok (.aload_n 0, 1) := by decide +kernel
theorem dL_law_893 : decode cL_law 893 = .ok (.iload_n 3, 1) := by decide +kernel
theorem dL_law_894 : decode cL_law 894 = .ok (.iconst 3, 1) := by decide +kernel
theorem dL_law_895 : decode cL_law 895 = .ok (.iadd, 1) := by decide +kernel
theorem dL_law_896 : decode cL_law 896 = .ok (.iaload, 1) := by decide +kernel
theorem dL_law_897 : decode cL_law 897 = .ok (.invokevirtual 117, 3) := by decide +kernel
theorem dL_law_900 : decode cL_law 900 = .ok (.if_icmp .eq 170, 3) := by decide +kernel
theorem dL_law_903 : decode cL_law 903 = .ok (.iconst 0, 1) := by decide +kernel
theorem dL_law_904 : decode cL_law 904 = .ok (.ireturn, 1) := by decide +kernel
theorem dL_law_905 : decode cL_law 905 = .ok (.aload_n 1, 1) := by decide +kernel
theorem dL_law_906 : decode cL_law 906 = .ok (.aload_n 0, 1) := by decide +kernel
theorem dL_law_907 : decode cL_law 907 = .ok (.iload_n 3, 1) := by decide +kernel
theorem dL_law_908 : decode cL_law 908 = .ok (.iconst 1, 1) := by decide +kernel
theorem dL_law_909 : decode cL_law 909 = .ok (.iadd, 1) := by decide +kernel
theorem dL_law_910 : decode cL_law 910 = .ok (.iaload, 1) := by decide +kernel
theorem dL_law_911 : decode cL_law 911 = .ok (.aload_n 0, 1) := by decide +kernel
theorem dL_law_912 : decode cL_law 912 = .ok (.iload_n 3, 1) := by decide +kernel
theorem dL_law_913 : decode cL_law 913 = .ok (.iconst 2, 1) := by decide +kernel
theorem dL_law_914 : decode cL_law 914 = .ok (.iadd, 1) := by decide +kernel
theorem dL_law_915 : decode cL_law 915 = .ok (.iaload, 1) := by decide +kernel
theorem dL_law_916 : decode cL_law 916 = .ok (.invokevirtual 118, 3) := by decide +kernel
theorem dL_law_919 : decode cL_law 919 = .ok (.aload_n 2, 1) := by decide +kernel
theorem dL_law_920 : decode cL_law 920 = .ok (.aload_n 0, 1) := by decide +kernel
theorem dL_law_921 : decode cL_law 921 = .ok (.iload_n 3, 1) := by decide +kernel
theorem dL_law_922 : decode cL_law 922 = .ok (.iconst 1, 1) := by decide +kernel
theorem dL_law_923 : decode cL_law 923 = .ok (.iadd, 1) := by decide +kernel
theorem dL_law_924 : decode cL_law 924 = .ok (.iaload, 1) := by decide +kernel
theorem dL_law_925 : decode cL_law 925 = .ok (.aload_n 0, 1) := by decide +kernel
theorem dL_law_926 : decode cL_law 926 = .ok (.iload_n 3, 1) := by decide +kernel
theorem dL_law_927 : decode cL_law 927 = .ok (.iconst 2, 1) := by decide +kernel
theorem dL_law_928 : decode cL_law 928 = .ok (.iadd, 1) := by decide +kernel
theorem dL_law_929 : decode cL_law 929 = .ok (.iaload, 1) := by decide +kernel
theorem dL_law_930 : decode cL_law 930 = .ok (.invokevirtual 121, 3) := by decide +kernel
theorem dL_law_933 : decode cL_law 933 = .ok (.if_icmp .eq 137, 3) := by decide +kernel
theorem dL_law_936 : decode cL_law 936 = .ok (.iconst 0, 1) := by decide +kernel
theorem dL_law_937 : decode cL_law 937 = .ok (.ireturn, 1) := by decide +kernel
theorem dL_law_938 : decode cL_law 938 = .ok (.aload_n 1, 1) := by decide +kernel
theorem dL_law_939 : decode cL_law 939 = .ok (.aload_n 0, 1) := by decide +kernel
theorem dL_law_940 : decode cL_law 940 = .ok (.iload_n 3, 1) := by decide +kernel
theorem dL_law_941 : decode cL_law 941 = .ok (.iconst 1, 1) := by decide +kernel
theorem dL_law_942 : decode cL_law 942 = .ok (.iadd, 1) := by decide +kernel
theorem dL_law_943 : decode cL_law 943 = .ok (.iaload, 1) := by decide +kernel
theorem dL_law_944 : decode cL_law 944 = .ok (.aload_n 0, 1) := by decide +kernel
theorem dL_law_945 : decode cL_law 945 = .ok (.iload_n 3, 1) := by decide +kernel
theorem dL_law_946 : decode cL_law 946 = .ok (.iconst 2, 1) := by decide +kernel
theorem dL_law_947 : decode cL_law 947 = .ok (.iadd, 1) := by decide +kernel
theorem dL_law_948 : decode cL_law 948 = .ok (.iaload, 1) := by decide +kernel
theorem dL_law_949 : decode cL_law 949 = .ok (.invokevirtual 122, 3) := by decide +kernel
theorem dL_law_952 : decode cL_law 952 = .ok (.aload_n 2, 1) := by decide +kernel
theorem dL_law_953 : decode cL_law 953 = .ok (.aload_n 0, 1) := by decide +kernel
theorem dL_law_954 : decode cL_law 954 = .ok (.iload_n 3, 1) := by decide +kernel
theorem dL_law_955 : decode cL_law 955 = .ok (.iconst 1, 1) := by decide +kernel
theorem dL_law_956 : decode cL_law 956 = .ok (.iadd, 1) := by decide +kernel
theorem dL_law_957 : decode cL_law 957 = .ok (.iaload, 1) := by decide +kernel
theorem dL_law_958 : decode cL_law 958 = .ok (.aload_n 0, 1) := by decide +kernel
theorem dL_law_959 : decode cL_law 959 = .ok (.iload_n 3, 1) := by decide +kernel
theorem dL_law_960 : decode cL_law 960 = .ok (.iconst 2, 1) := by decide +kernel
theorem dL_law_961 : decode cL_law 961 = .ok (.iadd, 1) := by decide +kernel
theorem dL_law_962 : decode cL_law 962 = .ok (.iaload, 1) := by decide +kernel
theorem dL_law_963 : decode cL_law 963 = .ok (.invokevirtual 125, 3) := by decide +kernel
theorem dL_law_966 : decode cL_law 966 = .ok (.if_icmp .eq 104, 3) := by decide +kernel
theorem dL_law_969 : decode cL_law 969 = .ok (.iconst 0, 1) := by decide +kernel
theorem dL_law_970 : decode cL_law 970 = .ok (.ireturn, 1) := by decide +kernel
theorem dL_law_971 : decode cL_law 971 = .ok (.aload_n 1, 1) := by decide +kernel
theorem dL_law_972 : decode cL_law 972 = .ok (.invokevirtual 126, 3) := by decide +kernel
theorem dL_law_975 : decode cL_law 975 = .ok (.aload_n 2, 1) := by decide +kernel
theorem dL_law_976 : decode cL_law 976 = .ok (.invokevirtual 129, 3) := by decide +kernel
theorem dL_law_979 : decode cL_law 979 = .ok (.if_icmp .eq 91, 3) := by decide +kernel
theorem dL_law_982 : decode cL_law 982 = .ok (.iconst 0, 1) := by decide +kernel
theorem dL_law_983 : decode cL_law 983 = .ok (.ireturn, 1) := by decide +kernel
theorem dL_law_984 : decode cL_law 984 = .ok (.aload_n 1, 1) := by decide +kernel
theorem dL_law_985 : decode cL_law 985 = .ok (.aload_n 0, 1) := by decide +kernel
theorem dL_law_986 : decode cL_law 986 = .ok (.iload_n 3, 1) := by decide +kernel
theorem dL_law_987 : decode cL_law 987 = .ok (.iconst 1, 1) := by decide +kernel
theorem dL_law_988 : decode cL_law 988 = .ok (.iadd, 1) := by decide +kernel
theorem dL_law_989 : decode cL_law 989 = .ok (.iaload, 1) := by decide +kernel
theorem dL_law_990 : decode cL_law 990 = .ok (.invokevirtual 130, 3) := by decide +kernel
theorem dL_law_993 : decode cL_law 993 = .ok (.aload_n 2, 1) := by decide +kernel
theorem dL_law_994 : decode cL_law 994 = .ok (.aload_n 0, 1) := by decide +kernel
theorem dL_law_995 : decode cL_law 995 = .ok (.iload_n 3, 1) := by decide +kernel
theorem dL_law_996 : decode cL_law 996 = .ok (.iconst 1, 1) := by decide +kernel
theorem dL_law_997 : decode cL_law 997 = .ok (.iadd, 1) := by decide +kernel
theorem dL_law_998 : decode cL_law 998 = .ok (.iaload, 1) := by decide +kernel
theorem dL_law_999 : decode cL_law 999 = .ok (.invokevirtual 133, 3) := by decide +kernel
theorem dL_law_1002 : decode cL_law 1002 = .ok (.if_icmp .eq 68, 3) := by decide +kernel
theorem dL_law_1005 : decode cL_law 1005 = .ok (.iconst 0, 1) := by decide +kernel
theorem dL_law_1006 : decode cL_law 1006 = .ok (.ireturn, 1) := by decide +kernel
theorem dL_law_1007 : decode cL_law 1007 = .ok (.aload_n 1, 1) := by decide +kernel
theorem dL_law_1008 : decode cL_law 1008 = .ok (.invokevirtual 134, 3) := by decide +kernel
theorem dL_law_1011 : decode cL_law 1011 = .ok (.aload_n 2, 1) := by decide +kernel
theorem dL_law_1012 : decode cL_law 1012 = .ok (.invokevirtual 137, 3) := by decide +kernel
theorem dL_law_1015 : decode cL_law 1015 = .ok (.if_icmp .eq 55, 3) := by decide +kernel
theorem dL_law_1018 : decode cL_law 1018 = .ok (.iconst 0, 1) := by decide +kernel
theorem dL_law_1019 : decode cL_law 1019 = .ok (.ireturn, 1) := by decide +kernel
theorem dL_law_1020 : decode cL_law 1020 = .ok (.aload_n 1, 1) := by decide +kernel
theorem dL_law_1021 : decode cL_law 1021 = .ok (.invokevirtual 138, 3) := by decide +kernel
theorem dL_law_1024 : decode cL_law 1024 = .ok (.aload_n 2, 1) := by decide +kernel
theorem dL_law_1025 : decode cL_law 1025 = .ok (.invokevirtual 141, 3) := by decide +kernel
theorem dL_law_1028 : decode cL_law 1028 = .ok (.if_icmp .eq 42, 3) := by decide +kernel
theorem dL_law_1031 : decode cL_law 1031 = .ok (.iconst 0, 1) := by decide +kernel
theorem dL_law_1032 : decode cL_law 1032 = .ok (.ireturn, 1) := by decide +kernel
theorem dL_law_1033 : decode cL_law 1033 = .ok (.aload_n 1, 1) := by decide +kernel
theorem dL_law_1034 : decode cL_law 1034 = .ok (.aload_n 0, 1) := by decide +kernel
theorem dL_law_1035 : decode cL_law 1035 = .ok (.iload_n 3, 1) := by decide +kernel
theorem dL_law_1036 : decode cL_law 1036 = .ok (.iconst 1, 1) := by decide +kernel
theorem dL_law_1037 : decode cL_law 1037 = .ok (.iadd, 1) := by decide +kernel
theorem dL_law_1038 : decode cL_law 1038 = .ok (.iaload, 1) := by decide +kernel
theorem dL_law_1039 : decode cL_law 1039 = .ok (.invokevirtual 142, 3) := by decide +kernel
theorem dL_law_1042 : decode cL_law 1042 = .ok (.aload_n 2, 1) := by decide +kernel
theorem dL_law_1043 : decode cL_law 1043 = .ok (.aload_n 0, 1) := by decide +kernel
theorem dL_law_1044 : decode cL_law 1044 = .ok (.iload_n 3, 1) := by decide +kernel
theorem dL_law_1045 : decode cL_law 1045 = .ok (.iconst 1, 1) := by decide +kernel
theorem dL_law_1046 : decode cL_law 1046 = .ok (.iadd, 1) := by decide +kernel
theorem dL_law_1047 : decode cL_law 1047 = .ok (.iaload, 1) := by decide +kernel
theorem dL_law_1048 : decode cL_law 1048 = .ok (.invokevirtual 145, 3) := by decide +kernel
theorem dL_law_1051 : decode cL_law 1051 = .ok (.if_icmp .eq 19, 3) := by decide +kernel
theorem dL_law_1054 : decode cL_law 1054 = .ok (.iconst 0, 1) := by decide +kernel
theorem dL_law_1055 : decode cL_law 1055 = .ok (.ireturn, 1) := by decide +kernel
theorem dL_law_1056 : decode cL_law 1056 = .ok (.aload_n 1, 1) := by decide +kernel
theorem dL_law_1057 : decode cL_law 1057 = .ok (.invokevirtual 146, 3) := by decide +kernel
theorem dL_law_1060 : decode cL_law 1060 = .ok (.aload_n 2, 1) := by decide +kernel
theorem dL_law_1061 : decode cL_law 1061 = .ok (.invokevirtual 150, 3) := by decide +kernel
theorem dL_law_1064 : decode cL_law 1064 = .ok (.lcmp, 1) := by decide +kernel
theorem dL_law_1065 : decode cL_law 1065 = .ok (.ifCond .eq 5, 3) := by decide +kernel
theorem dL_law_1068 : decode cL_law 1068 = .ok (.iconst 0, 1) := by decide +kernel
theorem dL_law_1069 : decode cL_law 1069 = .ok (.ireturn, 1) := by decide +kernel
theorem dL_law_1070 : decode cL_law 1070 = .ok (.iinc 3 4, 3) := by decide +kernel
theorem dL_law_1073 : decode cL_law 1073 = .ok (.goto (-1055), 3) := by decide +kernel
theorem dL_law_1076 : decode cL_law 1076 = .ok (.iconst 1, 1) := by decide +kernel
theorem dL_law_1077 : decode cL_law 1077 = .ok (.ireturn, 1) := by decide +kernel
end
