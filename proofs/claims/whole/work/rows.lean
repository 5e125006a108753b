section
-- ===== PART A: goes FIRST, ahead of the names: the tables' words, and 'selects' of the private methods out of them =====
/-- a private method of a class that the tables say can be made, by its rows of tables_1 -/
def lw_okq (q : MethodName × Nat) : Prop := (q.1.cls ≠ "java/lang/invoke/MethodHandle" ∧ q.1.cls ≠ "java/lang/invoke/VarHandle") ∧ Cond.instantiable q.1.cls q.2 ∈ tables_1 ∧ Cond.privateMethod q.1 ∈ tables_1 ∧ Cond.instanceMethod q.1 ∈ tables_1
theorem lw_p0 : lw_okq (⟨"GivenGoesOn", "areTwo", "(II)Z"⟩, 11) := ⟨⟨by decide +kernel, by decide +kernel⟩, List.mem_of_getElem? (i := 15) (by decide +kernel), List.mem_of_getElem? (i := 311) (by decide +kernel), List.mem_of_getElem? (i := 312) (by decide +kernel)⟩
theorem lw_p1 : lw_okq (⟨"GivenGoesOn", "isPerson", "(I)Z"⟩, 11) := ⟨⟨by decide +kernel, by decide +kernel⟩, List.mem_of_getElem? (i := 15) (by decide +kernel), List.mem_of_getElem? (i := 315) (by decide +kernel), List.mem_of_getElem? (i := 316) (by decide +kernel)⟩
theorem lw_p2 : lw_okq (⟨"GivenGoesOn", "isGift", "(I)Z"⟩, 11) := ⟨⟨by decide +kernel, by decide +kernel⟩, List.mem_of_getElem? (i := 15) (by decide +kernel), List.mem_of_getElem? (i := 379) (by decide +kernel), List.mem_of_getElem? (i := 380) (by decide +kernel)⟩
theorem lw_p3 : lw_okq (⟨"GivenGoesOn", "whoMayHave", "(I)I"⟩, 11) := ⟨⟨by decide +kernel, by decide +kernel⟩, List.mem_of_getElem? (i := 15) (by decide +kernel), List.mem_of_getElem? (i := 406) (by decide +kernel), List.mem_of_getElem? (i := 407) (by decide +kernel)⟩
theorem lw_p4 : lw_okq (⟨"GivenGoesOn$World", "chosenBy", "(II)I"⟩, 9) := ⟨⟨by decide +kernel, by decide +kernel⟩, List.mem_of_getElem? (i := 68) (by decide +kernel), List.mem_of_getElem? (i := 443) (by decide +kernel), List.mem_of_getElem? (i := 444) (by decide +kernel)⟩
theorem lw_p5 : lw_okq (⟨"GivenGoesOn$World", "markOf", "(II)I"⟩, 9) := ⟨⟨by decide +kernel, by decide +kernel⟩, List.mem_of_getElem? (i := 68) (by decide +kernel), List.mem_of_getElem? (i := 447) (by decide +kernel), List.mem_of_getElem? (i := 448) (by decide +kernel)⟩
theorem lw_p6 : lw_okq (⟨"GivenGoesOn$Walks", "spread", "(JII)V"⟩, 2) := ⟨⟨by decide +kernel, by decide +kernel⟩, List.mem_of_getElem? (i := 170) (by decide +kernel), List.mem_of_getElem? (i := 490) (by decide +kernel), List.mem_of_getElem? (i := 491) (by decide +kernel)⟩
theorem lw_p7 : lw_okq (⟨"GivenGoesOn$Circle", "mostBehind", "(LGivenGoesOn$World;I)I"⟩, 2) := ⟨⟨by decide +kernel, by decide +kernel⟩, List.mem_of_getElem? (i := 184) (by decide +kernel), List.mem_of_getElem? (i := 526) (by decide +kernel), List.mem_of_getElem? (i := 527) (by decide +kernel)⟩
theorem lw_p8 : lw_okq (⟨"GivenGoesOn$Circle", "mostBy", "(LGivenGoesOn$World;II)I"⟩, 2) := ⟨⟨by decide +kernel, by decide +kernel⟩, List.mem_of_getElem? (i := 184) (by decide +kernel), List.mem_of_getElem? (i := 530) (by decide +kernel), List.mem_of_getElem? (i := 531) (by decide +kernel)⟩
theorem lw_p9 : lw_okq (⟨"GivenGoesOn$Circle", "firstOfMost", "(LGivenGoesOn$World;I)I"⟩, 2) := ⟨⟨by decide +kernel, by decide +kernel⟩, List.mem_of_getElem? (i := 184) (by decide +kernel), List.mem_of_getElem? (i := 539) (by decide +kernel), List.mem_of_getElem? (i := 540) (by decide +kernel)⟩
theorem lw_p10 : lw_okq (⟨"GivenGoesOn$World", "knownByAny", "(I)I"⟩, 9) := ⟨⟨by decide +kernel, by decide +kernel⟩, List.mem_of_getElem? (i := 68) (by decide +kernel), List.mem_of_getElem? (i := 560) (by decide +kernel), List.mem_of_getElem? (i := 561) (by decide +kernel)⟩
theorem lw_p11 : lw_okq (⟨"GivenGoesOn", "withPerson", "(JI)J"⟩, 11) := ⟨⟨by decide +kernel, by decide +kernel⟩, List.mem_of_getElem? (i := 15) (by decide +kernel), List.mem_of_getElem? (i := 661) (by decide +kernel), List.mem_of_getElem? (i := 662) (by decide +kernel)⟩
theorem lw_p12 : lw_okq (⟨"GivenGoesOn", "withGift", "(JI)J"⟩, 11) := ⟨⟨by decide +kernel, by decide +kernel⟩, List.mem_of_getElem? (i := 15) (by decide +kernel), List.mem_of_getElem? (i := 667) (by decide +kernel), List.mem_of_getElem? (i := 668) (by decide +kernel)⟩
theorem lw_p13 : lw_okq (⟨"GivenGoesOnModel", "faultOf", "()I"⟩, 46) := ⟨⟨by decide +kernel, by decide +kernel⟩, List.mem_of_getElem? (i := 678) (by decide +kernel), List.mem_of_getElem? (i := 836) (by decide +kernel), List.mem_of_getElem? (i := 837) (by decide +kernel)⟩
theorem lw_p14 : lw_okq (⟨"GivenGoesOnModel", "go", "(I)Z"⟩, 46) := ⟨⟨by decide +kernel, by decide +kernel⟩, List.mem_of_getElem? (i := 678) (by decide +kernel), List.mem_of_getElem? (i := 840) (by decide +kernel), List.mem_of_getElem? (i := 841) (by decide +kernel)⟩
theorem lw_p15 : lw_okq (⟨"GivenGoesOnModel", "tellLaw", "(I)I"⟩, 46) := ⟨⟨by decide +kernel, by decide +kernel⟩, List.mem_of_getElem? (i := 678) (by decide +kernel), List.mem_of_getElem? (i := 858) (by decide +kernel), List.mem_of_getElem? (i := 859) (by decide +kernel)⟩
def lw_privs_1 : List (MethodName × Nat) := [(⟨"GivenGoesOn", "areTwo", "(II)Z"⟩, 11), (⟨"GivenGoesOn", "isPerson", "(I)Z"⟩, 11), (⟨"GivenGoesOn", "isGift", "(I)Z"⟩, 11), (⟨"GivenGoesOn", "whoMayHave", "(I)I"⟩, 11), (⟨"GivenGoesOn$World", "chosenBy", "(II)I"⟩, 9), (⟨"GivenGoesOn$World", "markOf", "(II)I"⟩, 9), (⟨"GivenGoesOn$Walks", "spread", "(JII)V"⟩, 2), (⟨"GivenGoesOn$Circle", "mostBehind", "(LGivenGoesOn$World;I)I"⟩, 2), (⟨"GivenGoesOn$Circle", "mostBy", "(LGivenGoesOn$World;II)I"⟩, 2), (⟨"GivenGoesOn$Circle", "firstOfMost", "(LGivenGoesOn$World;I)I"⟩, 2), (⟨"GivenGoesOn$World", "knownByAny", "(I)I"⟩, 9), (⟨"GivenGoesOn", "withPerson", "(JI)J"⟩, 11), (⟨"GivenGoesOn", "withGift", "(JI)J"⟩, 11), (⟨"GivenGoesOnModel", "faultOf", "()I"⟩, 46), (⟨"GivenGoesOnModel", "go", "(I)Z"⟩, 46), (⟨"GivenGoesOnModel", "tellLaw", "(I)I"⟩, 46)]
theorem lw_r1 : ∀ q ∈ lw_privs_1, lw_okq q := List.forall_mem_cons.mpr ⟨lw_p0, List.forall_mem_cons.mpr ⟨lw_p1, List.forall_mem_cons.mpr ⟨lw_p2, List.forall_mem_cons.mpr ⟨lw_p3, List.forall_mem_cons.mpr ⟨lw_p4, List.forall_mem_cons.mpr ⟨lw_p5, List.forall_mem_cons.mpr ⟨lw_p6, List.forall_mem_cons.mpr ⟨lw_p7, List.forall_mem_cons.mpr ⟨lw_p8, List.forall_mem_cons.mpr ⟨lw_p9, List.forall_mem_cons.mpr ⟨lw_p10, List.forall_mem_cons.mpr ⟨lw_p11, List.forall_mem_cons.mpr ⟨lw_p12, List.forall_mem_cons.mpr ⟨lw_p13, List.forall_mem_cons.mpr ⟨lw_p14, List.forall_mem_cons.mpr ⟨lw_p15, fun _ h => absurd h List.not_mem_nil⟩⟩⟩⟩⟩⟩⟩⟩⟩⟩⟩⟩⟩⟩⟩⟩
theorem lw_p16 : lw_okq (⟨"GivenGoesOnModel", "arePair", "(II)Z"⟩, 46) := ⟨⟨by decide +kernel, by decide +kernel⟩, List.mem_of_getElem? (i := 678) (by decide +kernel), List.mem_of_getElem? (i := 871) (by decide +kernel), List.mem_of_getElem? (i := 872) (by decide +kernel)⟩
theorem lw_p17 : lw_okq (⟨"GivenGoesOnModel", "isPerson", "(I)Z"⟩, 46) := ⟨⟨by decide +kernel, by decide +kernel⟩, List.mem_of_getElem? (i := 678) (by decide +kernel), List.mem_of_getElem? (i := 875) (by decide +kernel), List.mem_of_getElem? (i := 876) (by decide +kernel)⟩
theorem lw_p18 : lw_okq (⟨"GivenGoesOnModel", "tellPerson", "(II)I"⟩, 46) := ⟨⟨by decide +kernel, by decide +kernel⟩, List.mem_of_getElem? (i := 678) (by decide +kernel), List.mem_of_getElem? (i := 888) (by decide +kernel), List.mem_of_getElem? (i := 889) (by decide +kernel)⟩
theorem lw_p19 : lw_okq (⟨"GivenGoesOnModel", "holds", "(I)I"⟩, 46) := ⟨⟨by decide +kernel, by decide +kernel⟩, List.mem_of_getElem? (i := 678) (by decide +kernel), List.mem_of_getElem? (i := 892) (by decide +kernel), List.mem_of_getElem? (i := 893) (by decide +kernel)⟩
theorem lw_p20 : lw_okq (⟨"GivenGoesOnModel", "lives", "(I)Z"⟩, 46) := ⟨⟨by decide +kernel, by decide +kernel⟩, List.mem_of_getElem? (i := 678) (by decide +kernel), List.mem_of_getElem? (i := 896) (by decide +kernel), List.mem_of_getElem? (i := 897) (by decide +kernel)⟩
theorem lw_p21 : lw_okq (⟨"GivenGoesOnModel", "restOf", "(I)I"⟩, 46) := ⟨⟨by decide +kernel, by decide +kernel⟩, List.mem_of_getElem? (i := 678) (by decide +kernel), List.mem_of_getElem? (i := 908) (by decide +kernel), List.mem_of_getElem? (i := 909) (by decide +kernel)⟩
theorem lw_p22 : lw_okq (⟨"GivenGoesOnModel", "isGift", "(I)Z"⟩, 46) := ⟨⟨by decide +kernel, by decide +kernel⟩, List.mem_of_getElem? (i := 678) (by decide +kernel), List.mem_of_getElem? (i := 922) (by decide +kernel), List.mem_of_getElem? (i := 923) (by decide +kernel)⟩
theorem lw_p23 : lw_okq (⟨"GivenGoesOnModel", "tellGift", "(II)I"⟩, 46) := ⟨⟨by decide +kernel, by decide +kernel⟩, List.mem_of_getElem? (i := 678) (by decide +kernel), List.mem_of_getElem? (i := 926) (by decide +kernel), List.mem_of_getElem? (i := 927) (by decide +kernel)⟩
theorem lw_p24 : lw_okq (⟨"GivenGoesOnModel", "worthOf", "(I)I"⟩, 46) := ⟨⟨by decide +kernel, by decide +kernel⟩, List.mem_of_getElem? (i := 678) (by decide +kernel), List.mem_of_getElem? (i := 930) (by decide +kernel), List.mem_of_getElem? (i := 931) (by decide +kernel)⟩
theorem lw_p25 : lw_okq (⟨"GivenGoesOnModel", "mayOf", "(I)I"⟩, 46) := ⟨⟨by decide +kernel, by decide +kernel⟩, List.mem_of_getElem? (i := 678) (by decide +kernel), List.mem_of_getElem? (i := 943) (by decide +kernel), List.mem_of_getElem? (i := 944) (by decide +kernel)⟩
theorem lw_p26 : lw_okq (⟨"GivenGoesOnModel", "mayHave", "(II)I"⟩, 46) := ⟨⟨by decide +kernel, by decide +kernel⟩, List.mem_of_getElem? (i := 678) (by decide +kernel), List.mem_of_getElem? (i := 947) (by decide +kernel), List.mem_of_getElem? (i := 948) (by decide +kernel)⟩
theorem lw_p27 : lw_okq (⟨"GivenGoesOnModel", "goOn", "(II)I"⟩, 46) := ⟨⟨by decide +kernel, by decide +kernel⟩, List.mem_of_getElem? (i := 678) (by decide +kernel), List.mem_of_getElem? (i := 955) (by decide +kernel), List.mem_of_getElem? (i := 956) (by decide +kernel)⟩
theorem lw_p28 : lw_okq (⟨"GivenGoesOnModel", "year", "(Z)I"⟩, 46) := ⟨⟨by decide +kernel, by decide +kernel⟩, List.mem_of_getElem? (i := 678) (by decide +kernel), List.mem_of_getElem? (i := 964) (by decide +kernel), List.mem_of_getElem? (i := 965) (by decide +kernel)⟩
theorem lw_p29 : lw_okq (⟨"GivenGoesOnModel", "byDraw", "(I)I"⟩, 46) := ⟨⟨by decide +kernel, by decide +kernel⟩, List.mem_of_getElem? (i := 678) (by decide +kernel), List.mem_of_getElem? (i := 968) (by decide +kernel), List.mem_of_getElem? (i := 969) (by decide +kernel)⟩
theorem lw_p30 : lw_okq (⟨"GivenGoesOnModel", "draw", "(I)I"⟩, 46) := ⟨⟨by decide +kernel, by decide +kernel⟩, List.mem_of_getElem? (i := 678) (by decide +kernel), List.mem_of_getElem? (i := 975) (by decide +kernel), List.mem_of_getElem? (i := 976) (by decide +kernel)⟩
theorem lw_p31 : lw_okq (⟨"GivenGoesOnModel", "byHabit", "(II)I"⟩, 46) := ⟨⟨by decide +kernel, by decide +kernel⟩, List.mem_of_getElem? (i := 678) (by decide +kernel), List.mem_of_getElem? (i := 983) (by decide +kernel), List.mem_of_getElem? (i := 984) (by decide +kernel)⟩
def lw_privs_2 : List (MethodName × Nat) := [(⟨"GivenGoesOnModel", "arePair", "(II)Z"⟩, 46), (⟨"GivenGoesOnModel", "isPerson", "(I)Z"⟩, 46), (⟨"GivenGoesOnModel", "tellPerson", "(II)I"⟩, 46), (⟨"GivenGoesOnModel", "holds", "(I)I"⟩, 46), (⟨"GivenGoesOnModel", "lives", "(I)Z"⟩, 46), (⟨"GivenGoesOnModel", "restOf", "(I)I"⟩, 46), (⟨"GivenGoesOnModel", "isGift", "(I)Z"⟩, 46), (⟨"GivenGoesOnModel", "tellGift", "(II)I"⟩, 46), (⟨"GivenGoesOnModel", "worthOf", "(I)I"⟩, 46), (⟨"GivenGoesOnModel", "mayOf", "(I)I"⟩, 46), (⟨"GivenGoesOnModel", "mayHave", "(II)I"⟩, 46), (⟨"GivenGoesOnModel", "goOn", "(II)I"⟩, 46), (⟨"GivenGoesOnModel", "year", "(Z)I"⟩, 46), (⟨"GivenGoesOnModel", "byDraw", "(I)I"⟩, 46), (⟨"GivenGoesOnModel", "draw", "(I)I"⟩, 46), (⟨"GivenGoesOnModel", "byHabit", "(II)I"⟩, 46)]
theorem lw_r2 : ∀ q ∈ lw_privs_2, lw_okq q := List.forall_mem_cons.mpr ⟨lw_p16, List.forall_mem_cons.mpr ⟨lw_p17, List.forall_mem_cons.mpr ⟨lw_p18, List.forall_mem_cons.mpr ⟨lw_p19, List.forall_mem_cons.mpr ⟨lw_p20, List.forall_mem_cons.mpr ⟨lw_p21, List.forall_mem_cons.mpr ⟨lw_p22, List.forall_mem_cons.mpr ⟨lw_p23, List.forall_mem_cons.mpr ⟨lw_p24, List.forall_mem_cons.mpr ⟨lw_p25, List.forall_mem_cons.mpr ⟨lw_p26, List.forall_mem_cons.mpr ⟨lw_p27, List.forall_mem_cons.mpr ⟨lw_p28, List.forall_mem_cons.mpr ⟨lw_p29, List.forall_mem_cons.mpr ⟨lw_p30, List.forall_mem_cons.mpr ⟨lw_p31, fun _ h => absurd h List.not_mem_nil⟩⟩⟩⟩⟩⟩⟩⟩⟩⟩⟩⟩⟩⟩⟩⟩
theorem lw_p32 : lw_okq (⟨"GivenGoesOnModel", "layWays", "(I)V"⟩, 46) := ⟨⟨by decide +kernel, by decide +kernel⟩, List.mem_of_getElem? (i := 678) (by decide +kernel), List.mem_of_getElem? (i := 991) (by decide +kernel), List.mem_of_getElem? (i := 992) (by decide +kernel)⟩
theorem lw_p33 : lw_okq (⟨"GivenGoesOnModel", "beginWays", "(I)V"⟩, 46) := ⟨⟨by decide +kernel, by decide +kernel⟩, List.mem_of_getElem? (i := 678) (by decide +kernel), List.mem_of_getElem? (i := 995) (by decide +kernel), List.mem_of_getElem? (i := 996) (by decide +kernel)⟩
theorem lw_p34 : lw_okq (⟨"GivenGoesOnModel", "goAll", "(IZ)J"⟩, 46) := ⟨⟨by decide +kernel, by decide +kernel⟩, List.mem_of_getElem? (i := 678) (by decide +kernel), List.mem_of_getElem? (i := 999) (by decide +kernel), List.mem_of_getElem? (i := 1000) (by decide +kernel)⟩
theorem lw_p35 : lw_okq (⟨"GivenGoesOnModel", "soonestOf", "(I)I"⟩, 46) := ⟨⟨by decide +kernel, by decide +kernel⟩, List.mem_of_getElem? (i := 678) (by decide +kernel), List.mem_of_getElem? (i := 1007) (by decide +kernel), List.mem_of_getElem? (i := 1008) (by decide +kernel)⟩
theorem lw_p36 : lw_okq (⟨"GivenGoesOnModel", "trapsOf", "()I"⟩, 46) := ⟨⟨by decide +kernel, by decide +kernel⟩, List.mem_of_getElem? (i := 678) (by decide +kernel), List.mem_of_getElem? (i := 1027) (by decide +kernel), List.mem_of_getElem? (i := 1028) (by decide +kernel)⟩
theorem lw_p37 : lw_okq (⟨"GivenGoesOnModel", "tellRound", "(I)I"⟩, 46) := ⟨⟨by decide +kernel, by decide +kernel⟩, List.mem_of_getElem? (i := 678) (by decide +kernel), List.mem_of_getElem? (i := 1037) (by decide +kernel), List.mem_of_getElem? (i := 1038) (by decide +kernel)⟩
theorem lw_p38 : lw_okq (⟨"GivenGoesOnModel", "layRound", "()V"⟩, 46) := ⟨⟨by decide +kernel, by decide +kernel⟩, List.mem_of_getElem? (i := 678) (by decide +kernel), List.mem_of_getElem? (i := 1041) (by decide +kernel), List.mem_of_getElem? (i := 1042) (by decide +kernel)⟩
theorem lw_p39 : lw_okq (⟨"GivenGoesOnModel", "tellStranger", "(III)I"⟩, 46) := ⟨⟨by decide +kernel, by decide +kernel⟩, List.mem_of_getElem? (i := 678) (by decide +kernel), List.mem_of_getElem? (i := 1049) (by decide +kernel), List.mem_of_getElem? (i := 1050) (by decide +kernel)⟩
theorem lw_p40 : lw_okq (⟨"GivenGoesOnModel", "layFar", "(I)V"⟩, 46) := ⟨⟨by decide +kernel, by decide +kernel⟩, List.mem_of_getElem? (i := 678) (by decide +kernel), List.mem_of_getElem? (i := 1053) (by decide +kernel), List.mem_of_getElem? (i := 1054) (by decide +kernel)⟩
theorem lw_p41 : lw_okq (⟨"GivenGoesOnModel", "livesMany", "()I"⟩, 46) := ⟨⟨by decide +kernel, by decide +kernel⟩, List.mem_of_getElem? (i := 678) (by decide +kernel), List.mem_of_getElem? (i := 1064) (by decide +kernel), List.mem_of_getElem? (i := 1065) (by decide +kernel)⟩
theorem lw_p42 : lw_okq (⟨"GivenGoesOnModel", "isYear", "(I)Z"⟩, 46) := ⟨⟨by decide +kernel, by decide +kernel⟩, List.mem_of_getElem? (i := 678) (by decide +kernel), List.mem_of_getElem? (i := 1076) (by decide +kernel), List.mem_of_getElem? (i := 1077) (by decide +kernel)⟩
theorem lw_p43 : lw_okq (⟨"GivenGoesOnModel", "filledOf", "()I"⟩, 46) := ⟨⟨by decide +kernel, by decide +kernel⟩, List.mem_of_getElem? (i := 678) (by decide +kernel), List.mem_of_getElem? (i := 1084) (by decide +kernel), List.mem_of_getElem? (i := 1085) (by decide +kernel)⟩
theorem lw_p44 : lw_okq (⟨"GivenGoesOnModel", "countOf", "(I)I"⟩, 46) := ⟨⟨by decide +kernel, by decide +kernel⟩, List.mem_of_getElem? (i := 678) (by decide +kernel), List.mem_of_getElem? (i := 1104) (by decide +kernel), List.mem_of_getElem? (i := 1105) (by decide +kernel)⟩
theorem lw_p45 : lw_okq (⟨"GivenGoesOnModel", "say", "(J)V"⟩, 46) := ⟨⟨by decide +kernel, by decide +kernel⟩, List.mem_of_getElem? (i := 678) (by decide +kernel), List.mem_of_getElem? (i := 1113) (by decide +kernel), List.mem_of_getElem? (i := 1114) (by decide +kernel)⟩
theorem lw_p46 : lw_okq (⟨"GivenGoesOnModel", "sayGift", "(I)V"⟩, 46) := ⟨⟨by decide +kernel, by decide +kernel⟩, List.mem_of_getElem? (i := 678) (by decide +kernel), List.mem_of_getElem? (i := 1118) (by decide +kernel), List.mem_of_getElem? (i := 1119) (by decide +kernel)⟩
def lw_privs_3 : List (MethodName × Nat) := [(⟨"GivenGoesOnModel", "layWays", "(I)V"⟩, 46), (⟨"GivenGoesOnModel", "beginWays", "(I)V"⟩, 46), (⟨"GivenGoesOnModel", "goAll", "(IZ)J"⟩, 46), (⟨"GivenGoesOnModel", "soonestOf", "(I)I"⟩, 46), (⟨"GivenGoesOnModel", "trapsOf", "()I"⟩, 46), (⟨"GivenGoesOnModel", "tellRound", "(I)I"⟩, 46), (⟨"GivenGoesOnModel", "layRound", "()V"⟩, 46), (⟨"GivenGoesOnModel", "tellStranger", "(III)I"⟩, 46), (⟨"GivenGoesOnModel", "layFar", "(I)V"⟩, 46), (⟨"GivenGoesOnModel", "livesMany", "()I"⟩, 46), (⟨"GivenGoesOnModel", "isYear", "(I)Z"⟩, 46), (⟨"GivenGoesOnModel", "filledOf", "()I"⟩, 46), (⟨"GivenGoesOnModel", "countOf", "(I)I"⟩, 46), (⟨"GivenGoesOnModel", "say", "(J)V"⟩, 46), (⟨"GivenGoesOnModel", "sayGift", "(I)V"⟩, 46)]
theorem lw_r3 : ∀ q ∈ lw_privs_3, lw_okq q := List.forall_mem_cons.mpr ⟨lw_p32, List.forall_mem_cons.mpr ⟨lw_p33, List.forall_mem_cons.mpr ⟨lw_p34, List.forall_mem_cons.mpr ⟨lw_p35, List.forall_mem_cons.mpr ⟨lw_p36, List.forall_mem_cons.mpr ⟨lw_p37, List.forall_mem_cons.mpr ⟨lw_p38, List.forall_mem_cons.mpr ⟨lw_p39, List.forall_mem_cons.mpr ⟨lw_p40, List.forall_mem_cons.mpr ⟨lw_p41, List.forall_mem_cons.mpr ⟨lw_p42, List.forall_mem_cons.mpr ⟨lw_p43, List.forall_mem_cons.mpr ⟨lw_p44, List.forall_mem_cons.mpr ⟨lw_p45, List.forall_mem_cons.mpr ⟨lw_p46, fun _ h => absurd h List.not_mem_nil⟩⟩⟩⟩⟩⟩⟩⟩⟩⟩⟩⟩⟩⟩⟩
def lw_privs : List (MethodName × Nat) := lw_privs_1 ++ (lw_privs_2 ++ (lw_privs_3))
def lw_tbl : List Cond := k2_sels lw_privs ++ tables_1
theorem lw_privs_ok : ∀ q ∈ lw_privs, lw_okq q := by
  show ∀ q ∈ lw_privs_1 ++ (lw_privs_2 ++ (lw_privs_3)), lw_okq q
  exact List.forall_mem_append.mpr ⟨lw_r1, List.forall_mem_append.mpr ⟨lw_r2, lw_r3⟩⟩
end
section
def RX0 : String := "GivenGoesOn$Book"
def TX0 : u_T := fun k => match k with
  | 0 => ("GivenGoesOn$Book", "written", "[I", true)
  | 1 => ("GivenGoesOn$Book", "home", "I", false)
  | _ => ("GivenGoesOn$Book", "length", "I", false)
def tyX0 : Nat → FieldType := fun k => match k with
  | 0 => .array .int
  | 1 => .int
  | _ => .int
theorem nmX0 : ∀ a, a < 3 → ∀ b, b < 3 → a ≠ b → (TX0 a).2.1 ≠ (TX0 b).2.1 := by decide +kernel
theorem tyX0_ok : ∀ k, k < 3 → parseFieldDescriptor (TX0 k).2.2.1 = some (tyX0 k) := by decide +kernel
abbrev cX0_init : ByteArray := prog_2_method_1_code
def yX0_init : MethodName := ⟨RX0, "<init>", "()V"⟩
abbrev cX0_isOpen : ByteArray := prog_2_method_2_code
def yX0_isOpen : MethodName := ⟨RX0, "isOpen", "()Z"⟩
abbrev cX0_hasYear : ByteArray := prog_2_method_3_code
def yX0_hasYear : MethodName := ⟨RX0, "hasYear", "(I)Z"⟩
abbrev cX0_begin : ByteArray := prog_2_method_4_code
def yX0_begin : MethodName := ⟨RX0, "begin", "(II)V"⟩
abbrev cX0_fillings : ByteArray := prog_2_method_5_code
def yX0_fillings : MethodName := ⟨RX0, "fillings", "(LGivenGoesOn$World;LGivenGoesOn$Walks;)I"⟩
abbrev cX0_onlyOneIn : ByteArray := prog_2_method_6_code
def yX0_onlyOneIn : MethodName := ⟨RX0, "onlyOneIn", "(ILGivenGoesOn$World;LGivenGoesOn$Walks;)I"⟩
def RX1 : String := "GivenGoesOn$Circle"
def TX1 : u_T := fun k => match k with
  | 0 => ("GivenGoesOn$Circle", "most", "[I", true)
  | _ => ("GivenGoesOn$Circle", "to", "[I", true)
def tyX1 : Nat → FieldType := fun k => match k with
  | 0 => .array .int
  | _ => .array .int
theorem nmX1 : ∀ a, a < 2 → ∀ b, b < 2 → a ≠ b → (TX1 a).2.1 ≠ (TX1 b).2.1 := by decide +kernel
theorem tyX1_ok : ∀ k, k < 2 → parseFieldDescriptor (TX1 k).2.2.1 = some (tyX1 k) := by decide +kernel
abbrev cX1_init : ByteArray := prog_3_method_1_code
def yX1_init : MethodName := ⟨RX1, "<init>", "()V"⟩
abbrev cX1_find : ByteArray := prog_3_method_2_code
def yX1_find : MethodName := ⟨RX1, "find", "(LGivenGoesOn$World;)V"⟩
abbrev cX1_mostBehind : ByteArray := prog_3_method_3_code
def yX1_mostBehind : MethodName := ⟨RX1, "mostBehind", "(LGivenGoesOn$World;I)I"⟩
abbrev cX1_firstOfMost : ByteArray := prog_3_method_4_code
def yX1_firstOfMost : MethodName := ⟨RX1, "firstOfMost", "(LGivenGoesOn$World;I)I"⟩
abbrev cX1_mostBy : ByteArray := prog_3_method_5_code
def yX1_mostBy : MethodName := ⟨RX1, "mostBy", "(LGivenGoesOn$World;II)I"⟩
abbrev cX1_isThere : ByteArray := prog_3_method_6_code
def yX1_isThere : MethodName := ⟨RX1, "isThere", "()Z"⟩
abbrev cX1_likingTogether : ByteArray := prog_3_method_7_code
def yX1_likingTogether : MethodName := ⟨RX1, "likingTogether", "()I"⟩
def RX2 : String := "GivenGoesOn$Draws"
def TX2 : u_T := fun k => match k with
  | _ => ("GivenGoesOn$Draws", "seed", "J", false)
def tyX2 : Nat → FieldType := fun k => match k with
  | _ => .long
theorem nmX2 : ∀ a, a < 1 → ∀ b, b < 1 → a ≠ b → (TX2 a).2.1 ≠ (TX2 b).2.1 := by decide +kernel
theorem tyX2_ok : ∀ k, k < 1 → parseFieldDescriptor (TX2 k).2.2.1 = some (tyX2 k) := by decide +kernel
abbrev cX2_init : ByteArray := prog_4_method_1_code
def yX2_init : MethodName := ⟨RX2, "<init>", "()V"⟩
abbrev cX2_oneOf : ByteArray := prog_4_method_2_code
def yX2_oneOf : MethodName := ⟨RX2, "oneOf", "(I)I"⟩
def RX3 : String := "GivenGoesOn$Gift"
def TX3 : u_T := fun k => match k with
  | 0 => ("GivenGoesOn$Gift", "kind", "I", false)
  | 1 => ("GivenGoesOn$Gift", "home", "I", false)
  | 2 => ("GivenGoesOn$Gift", "holder", "I", false)
  | 3 => ("GivenGoesOn$Gift", "from", "I", false)
  | 4 => ("GivenGoesOn$Gift", "wear", "I", false)
  | 5 => ("GivenGoesOn$Gift", "age", "I", false)
  | 6 => ("GivenGoesOn$Gift", "fate", "I", false)
  | _ => ("GivenGoesOn$Gift", "hands", "I", false)
def tyX3 : Nat → FieldType := fun k => match k with
  | 0 => .int
  | 1 => .int
  | 2 => .int
  | 3 => .int
  | 4 => .int
  | 5 => .int
  | 6 => .int
  | _ => .int
theorem nmX3 : ∀ a, a < 8 → ∀ b, b < 8 → a ≠ b → (TX3 a).2.1 ≠ (TX3 b).2.1 := by decide +kernel
theorem tyX3_ok : ∀ k, k < 8 → parseFieldDescriptor (TX3 k).2.2.1 = some (tyX3 k) := by decide +kernel
abbrev cX3_init : ByteArray := prog_5_method_1_code
def yX3_init : MethodName := ⟨RX3, "<init>", "()V"⟩
abbrev cX3_begin : ByteArray := prog_5_method_2_code
def yX3_begin : MethodName := ⟨RX3, "begin", "(II)V"⟩
abbrev cX3_copyFrom : ByteArray := prog_5_method_3_code
def yX3_copyFrom : MethodName := ⟨RX3, "copyFrom", "(LGivenGoesOn$Gift;)V"⟩
abbrev cX3_lives : ByteArray := prog_5_method_4_code
def yX3_lives : MethodName := ⟨RX3, "lives", "()Z"⟩
abbrev cX3_isOf : ByteArray := prog_5_method_5_code
def yX3_isOf : MethodName := ⟨RX3, "isOf", "(I)Z"⟩
abbrev cX3_worth : ByteArray := prog_5_method_6_code
def yX3_worth : MethodName := ⟨RX3, "worth", "()I"⟩
abbrev cX3_mustGo : ByteArray := prog_5_method_7_code
def yX3_mustGo : MethodName := ⟨RX3, "mustGo", "(I)Z"⟩
abbrev cX3_moveTo : ByteArray := prog_5_method_8_code
def yX3_moveTo : MethodName := ⟨RX3, "moveTo", "(II)V"⟩
def RX4 : String := "GivenGoesOn$Law"
def TX4 : u_T := fun k => match k with
  | 0 => ("GivenGoesOn$Law", "keep", "I", false)
  | 1 => ("GivenGoesOn$Law", "back", "Z", false)
  | 2 => ("GivenGoesOn$Law", "one", "Z", false)
  | _ => ("GivenGoesOn$Law", "most", "I", false)
def tyX4 : Nat → FieldType := fun k => match k with
  | 0 => .int
  | 1 => .boolean
  | 2 => .boolean
  | _ => .int
theorem nmX4 : ∀ a, a < 4 → ∀ b, b < 4 → a ≠ b → (TX4 a).2.1 ≠ (TX4 b).2.1 := by decide +kernel
theorem tyX4_ok : ∀ k, k < 4 → parseFieldDescriptor (TX4 k).2.2.1 = some (tyX4 k) := by decide +kernel
abbrev cX4_init : ByteArray := prog_6_method_1_code
def yX4_init : MethodName := ⟨RX4, "<init>", "()V"⟩
abbrev cX4_readFrom : ByteArray := prog_6_method_2_code
def yX4_readFrom : MethodName := ⟨RX4, "readFrom", "(LGivenGoesOn$Page;)V"⟩
def RX5 : String := "GivenGoesOn$Page"
def TX5 : u_T := fun k => match k with
  | 0 => ("GivenGoesOn$Page", "letter", "[I", true)
  | _ => ("GivenGoesOn$Page", "size", "I", false)
def tyX5 : Nat → FieldType := fun k => match k with
  | 0 => .array .int
  | _ => .int
theorem nmX5 : ∀ a, a < 2 → ∀ b, b < 2 → a ≠ b → (TX5 a).2.1 ≠ (TX5 b).2.1 := by decide +kernel
theorem tyX5_ok : ∀ k, k < 2 → parseFieldDescriptor (TX5 k).2.2.1 = some (tyX5 k) := by decide +kernel
abbrev cX5_init : ByteArray := prog_7_method_1_code
def yX5_init : MethodName := ⟨RX5, "<init>", "()V"⟩
abbrev cX5_lettersIn : ByteArray := prog_7_method_2_code
def yX5_lettersIn : MethodName := ⟨RX5, "lettersIn", "(J)I"⟩
abbrev cX5_byteOf : ByteArray := prog_7_method_3_code
def yX5_byteOf : MethodName := ⟨RX5, "byteOf", "(JI)I"⟩
abbrev cX5_append : ByteArray := prog_7_method_4_code
def yX5_append : MethodName := ⟨RX5, "append", "(JI)V"⟩
abbrev cX5_firstFault : ByteArray := prog_7_method_5_code
def yX5_firstFault : MethodName := ⟨RX5, "firstFault", "()I"⟩
abbrev cX5_isLaw : ByteArray := prog_7_method_6_code
def yX5_isLaw : MethodName := ⟨RX5, "isLaw", "()Z"⟩
abbrev cX5_behind : ByteArray := prog_7_method_7_code
def yX5_behind : MethodName := ⟨RX5, "behind", "(II)I"⟩
def RX6 : String := "GivenGoesOn$Walks"
def TX6 : u_T := fun k => match k with
  | 0 => ("GivenGoesOn$Walks", "now", "[J", true)
  | _ => ("GivenGoesOn$Walks", "next", "[J", true)
def tyX6 : Nat → FieldType := fun k => match k with
  | 0 => .array .long
  | _ => .array .long
theorem nmX6 : ∀ a, a < 2 → ∀ b, b < 2 → a ≠ b → (TX6 a).2.1 ≠ (TX6 b).2.1 := by decide +kernel
theorem tyX6_ok : ∀ k, k < 2 → parseFieldDescriptor (TX6 k).2.2.1 = some (tyX6 k) := by decide +kernel
abbrev cX6_init : ByteArray := prog_8_method_1_code
def yX6_init : MethodName := ⟨RX6, "<init>", "()V"⟩
abbrev cX6_begin : ByteArray := prog_8_method_2_code
def yX6_begin : MethodName := ⟨RX6, "begin", "(II)V"⟩
abbrev cX6_goOn : ByteArray := prog_8_method_3_code
def yX6_goOn : MethodName := ⟨RX6, "goOn", "(LGivenGoesOn$World;ZIZ)J"⟩
abbrev cX6_spread : ByteArray := prog_8_method_4_code
def yX6_spread : MethodName := ⟨RX6, "spread", "(JII)V"⟩
abbrev cX6_keepOnly : ByteArray := prog_8_method_5_code
def yX6_keepOnly : MethodName := ⟨RX6, "keepOnly", "(I)V"⟩
abbrev cX6_sum : ByteArray := prog_8_method_6_code
def yX6_sum : MethodName := ⟨RX6, "sum", "()J"⟩
abbrev cX6_spot : ByteArray := prog_8_method_7_code
def yX6_spot : MethodName := ⟨RX6, "spot", "(II)I"⟩
abbrev cX6_clear : ByteArray := prog_8_method_8_code
def yX6_clear : MethodName := ⟨RX6, "clear", "([J)V"⟩
def RX7 : String := "GivenGoesOn$World"
def TX7 : u_T := fun k => match k with
  | 0 => ("GivenGoesOn$World", "people", "I", false)
  | 1 => ("GivenGoesOn$World", "habit", "[I", true)
  | 2 => ("GivenGoesOn$World", "known", "[I", true)
  | 3 => ("GivenGoesOn$World", "feasts", "[I", true)
  | 4 => ("GivenGoesOn$World", "liking", "[I", true)
  | 5 => ("GivenGoesOn$World", "owed", "[I", true)
  | 6 => ("GivenGoesOn$World", "gifts", "I", false)
  | 7 => ("GivenGoesOn$World", "row", "[LGivenGoesOn$Gift;", true)
  | _ => ("GivenGoesOn$World", "yearsGone", "I", false)
def tyX7 : Nat → FieldType := fun k => match k with
  | 0 => .int
  | 1 => .array .int
  | 2 => .array .int
  | 3 => .array .int
  | 4 => .array .int
  | 5 => .array .int
  | 6 => .int
  | 7 => .array (.object "GivenGoesOn$Gift")
  | _ => .int
theorem nmX7 : ∀ a, a < 9 → ∀ b, b < 9 → a ≠ b → (TX7 a).2.1 ≠ (TX7 b).2.1 := by decide +kernel
theorem tyX7_ok : ∀ k, k < 9 → parseFieldDescriptor (TX7 k).2.2.1 = some (tyX7 k) := by decide +kernel
abbrev cX7_init : ByteArray := prog_9_method_1_code
def yX7_init : MethodName := ⟨RX7, "<init>", "()V"⟩
abbrev cX7_copyFrom : ByteArray := prog_9_method_2_code
def yX7_copyFrom : MethodName := ⟨RX7, "copyFrom", "(LGivenGoesOn$World;)V"⟩
abbrev cX7_addPerson : ByteArray := prog_9_method_3_code
def yX7_addPerson : MethodName := ⟨RX7, "addPerson", "(I)I"⟩
abbrev cX7_addGift : ByteArray := prog_9_method_4_code
def yX7_addGift : MethodName := ⟨RX7, "addGift", "(II)I"⟩
abbrev cX7_knows : ByteArray := prog_9_method_5_code
def yX7_knows : MethodName := ⟨RX7, "knows", "(II)Z"⟩
abbrev cX7_setKnown : ByteArray := prog_9_method_6_code
def yX7_setKnown : MethodName := ⟨RX7, "setKnown", "(IIZ)V"⟩
abbrev cX7_heldBy : ByteArray := prog_9_method_7_code
def yX7_heldBy : MethodName := ⟨RX7, "heldBy", "(I)I"⟩
abbrev cX7_living : ByteArray := prog_9_method_8_code
def yX7_living : MethodName := ⟨RX7, "living", "()I"⟩
abbrev cX7_allFeasts : ByteArray := prog_9_method_9_code
def yX7_allFeasts : MethodName := ⟨RX7, "allFeasts", "()I"⟩
abbrev cX7_balance : ByteArray := prog_9_method_10_code
def yX7_balance : MethodName := ⟨RX7, "balance", "(I)I"⟩
abbrev cX7_mayHave : ByteArray := prog_9_method_11_code
def yX7_mayHave : MethodName := ⟨RX7, "mayHave", "(IIZ)I"⟩
abbrev cX7_handOn : ByteArray := prog_9_method_12_code
def yX7_handOn : MethodName := ⟨RX7, "handOn", "(LGivenGoesOn$Gift;II)V"⟩
abbrev cX7_passYear : ByteArray := prog_9_method_13_code
def yX7_passYear : MethodName := ⟨RX7, "passYear", "(LGivenGoesOn$Law;LGivenGoesOn$Draws;)I"⟩
abbrev cX7_chosenBy : ByteArray := prog_9_method_14_code
def yX7_chosenBy : MethodName := ⟨RX7, "chosenBy", "(II)I"⟩
abbrev cX7_markOf : ByteArray := prog_9_method_15_code
def yX7_markOf : MethodName := ⟨RX7, "markOf", "(II)I"⟩
abbrev cX7_handsBetween : ByteArray := prog_9_method_16_code
def yX7_handsBetween : MethodName := ⟨RX7, "handsBetween", "(II)I"⟩
abbrev cX7_knownByAny : ByteArray := prog_9_method_17_code
def yX7_knownByAny : MethodName := ⟨RX7, "knownByAny", "(I)I"⟩
abbrev cX7_firstBetween : ByteArray := prog_9_method_18_code
def yX7_firstBetween : MethodName := ⟨RX7, "firstBetween", "(II)I"⟩
def RX8 : String := "GivenGoesOn"
def TX8 : u_T := fun k => match k with
  | 0 => ("GivenGoesOn", "page", "LGivenGoesOn$Page;", true)
  | 1 => ("GivenGoesOn", "law", "LGivenGoesOn$Law;", true)
  | 2 => ("GivenGoesOn", "world", "LGivenGoesOn$World;", true)
  | 3 => ("GivenGoesOn", "kept", "LGivenGoesOn$World;", true)
  | 4 => ("GivenGoesOn", "trial", "LGivenGoesOn$World;", true)
  | 5 => ("GivenGoesOn", "draws", "LGivenGoesOn$Draws;", true)
  | 6 => ("GivenGoesOn", "walks", "LGivenGoesOn$Walks;", true)
  | 7 => ("GivenGoesOn", "circle", "LGivenGoesOn$Circle;", true)
  | 8 => ("GivenGoesOn", "book", "LGivenGoesOn$Book;", true)
  | 9 => ("GivenGoesOn", "lawsRead", "I", false)
  | _ => ("GivenGoesOn", "hasImage", "Z", false)
def tyX8 : Nat → FieldType := fun k => match k with
  | 0 => .object "GivenGoesOn$Page"
  | 1 => .object "GivenGoesOn$Law"
  | 2 => .object "GivenGoesOn$World"
  | 3 => .object "GivenGoesOn$World"
  | 4 => .object "GivenGoesOn$World"
  | 5 => .object "GivenGoesOn$Draws"
  | 6 => .object "GivenGoesOn$Walks"
  | 7 => .object "GivenGoesOn$Circle"
  | 8 => .object "GivenGoesOn$Book"
  | 9 => .int
  | _ => .boolean
theorem nmX8 : ∀ a, a < 11 → ∀ b, b < 11 → a ≠ b → (TX8 a).2.1 ≠ (TX8 b).2.1 := by decide +kernel
theorem tyX8_ok : ∀ k, k < 11 → parseFieldDescriptor (TX8 k).2.2.1 = some (tyX8 k) := by decide +kernel
abbrev cX8_init : ByteArray := prog_1_method_1_code
def yX8_init : MethodName := ⟨RX8, "<init>", "()V"⟩
abbrev cX8_letters : ByteArray := prog_1_method_2_code
def yX8_letters : MethodName := ⟨RX8, "letters", "(J)I"⟩
abbrev cX8_blank : ByteArray := prog_1_method_3_code
def yX8_blank : MethodName := ⟨RX8, "blank", "()I"⟩
abbrev cX8_fault : ByteArray := prog_1_method_4_code
def yX8_fault : MethodName := ⟨RX8, "fault", "()I"⟩
abbrev cX8_law : ByteArray := prog_1_method_5_code
def yX8_law : MethodName := ⟨RX8, "law", "()I"⟩
abbrev cX8_lawTold : ByteArray := prog_1_method_6_code
def yX8_lawTold : MethodName := ⟨RX8, "lawTold", "(I)I"⟩
abbrev cX8_person : ByteArray := prog_1_method_7_code
def yX8_person : MethodName := ⟨RX8, "person", "(I)I"⟩
abbrev cX8_know : ByteArray := prog_1_method_8_code
def yX8_know : MethodName := ⟨RX8, "know", "(IIZ)I"⟩
abbrev cX8_like : ByteArray := prog_1_method_9_code
def yX8_like : MethodName := ⟨RX8, "like", "(III)I"⟩
abbrev cX8_about : ByteArray := prog_1_method_10_code
def yX8_about : MethodName := ⟨RX8, "about", "(II)I"⟩
abbrev cX8_owes : ByteArray := prog_1_method_11_code
def yX8_owes : MethodName := ⟨RX8, "owes", "(II)I"⟩
abbrev cX8_rest : ByteArray := prog_1_method_12_code
def yX8_rest : MethodName := ⟨RX8, "rest", "(I)I"⟩
abbrev cX8_gift : ByteArray := prog_1_method_13_code
def yX8_gift : MethodName := ⟨RX8, "gift", "(II)I"⟩
abbrev cX8_told : ByteArray := prog_1_method_14_code
def yX8_told : MethodName := ⟨RX8, "told", "(II)I"⟩
abbrev cX8_as : ByteArray := prog_1_method_15_code
def yX8_as : MethodName := ⟨RX8, "as", "(II)I"⟩
abbrev cX8_may : ByteArray := prog_1_method_16_code
def yX8_may : MethodName := ⟨RX8, "may", "(I)I"⟩
abbrev cX8_give : ByteArray := prog_1_method_17_code
def yX8_give : MethodName := ⟨RX8, "give", "(II)I"⟩
abbrev cX8_years : ByteArray := prog_1_method_18_code
def yX8_years : MethodName := ⟨RX8, "years", "(I)I"⟩
abbrev cX8_ways : ByteArray := prog_1_method_19_code
def yX8_ways : MethodName := ⟨RX8, "ways", "(II)I"⟩
abbrev cX8_soonest : ByteArray := prog_1_method_20_code
def yX8_soonest : MethodName := ⟨RX8, "soonest", "(I)I"⟩
abbrev cX8_likely : ByteArray := prog_1_method_21_code
def yX8_likely : MethodName := ⟨RX8, "likely", "(III)J"⟩
abbrev cX8_traps : ByteArray := prog_1_method_22_code
def yX8_traps : MethodName := ⟨RX8, "traps", "()I"⟩
abbrev cX8_round : ByteArray := prog_1_method_23_code
def yX8_round : MethodName := ⟨RX8, "round", "(I)I"⟩
abbrev cX8_stranger : ByteArray := prog_1_method_24_code
def yX8_stranger : MethodName := ⟨RX8, "stranger", "(III)I"⟩
abbrev cX8_drawn : ByteArray := prog_1_method_25_code
def yX8_drawn : MethodName := ⟨RX8, "drawn", "(III)I"⟩
abbrev cX8_open : ByteArray := prog_1_method_26_code
def yX8_open : MethodName := ⟨RX8, "open", "(II)I"⟩
abbrev cX8_write : ByteArray := prog_1_method_27_code
def yX8_write : MethodName := ⟨RX8, "write", "(II)I"⟩
abbrev cX8_filled : ByteArray := prog_1_method_28_code
def yX8_filled : MethodName := ⟨RX8, "filled", "()I"⟩
abbrev cX8_sure : ByteArray := prog_1_method_29_code
def yX8_sure : MethodName := ⟨RX8, "sure", "(I)I"⟩
abbrev cX8_image : ByteArray := prog_1_method_30_code
def yX8_image : MethodName := ⟨RX8, "image", "()I"⟩
abbrev cX8_restore : ByteArray := prog_1_method_31_code
def yX8_restore : MethodName := ⟨RX8, "restore", "()I"⟩
abbrev cX8_count : ByteArray := prog_1_method_32_code
def yX8_count : MethodName := ⟨RX8, "count", "(I)I"⟩
abbrev cX8_digest : ByteArray := prog_1_method_33_code
def yX8_digest : MethodName := ⟨RX8, "digest", "()J"⟩
abbrev cX8_withPerson : ByteArray := prog_1_method_34_code
def yX8_withPerson : MethodName := ⟨RX8, "withPerson", "(JI)J"⟩
abbrev cX8_withGift : ByteArray := prog_1_method_35_code
def yX8_withGift : MethodName := ⟨RX8, "withGift", "(JI)J"⟩
abbrev cX8_isPerson : ByteArray := prog_1_method_36_code
def yX8_isPerson : MethodName := ⟨RX8, "isPerson", "(I)Z"⟩
abbrev cX8_areTwo : ByteArray := prog_1_method_37_code
def yX8_areTwo : MethodName := ⟨RX8, "areTwo", "(II)Z"⟩
abbrev cX8_isGift : ByteArray := prog_1_method_38_code
def yX8_isGift : MethodName := ⟨RX8, "isGift", "(I)Z"⟩
abbrev cX8_whoMayHave : ByteArray := prog_1_method_39_code
def yX8_whoMayHave : MethodName := ⟨RX8, "whoMayHave", "(I)I"⟩
abbrev cX8_mixed : ByteArray := prog_1_method_40_code
def yX8_mixed : MethodName := ⟨RX8, "mixed", "(JJ)J"⟩
abbrev cX8_within : ByteArray := prog_1_method_41_code
def yX8_within : MethodName := ⟨RX8, "within", "(III)Z"⟩
abbrev cX8_pair : ByteArray := prog_1_method_42_code
def yX8_pair : MethodName := ⟨RX8, "pair", "(II)I"⟩
abbrev cX8_bit : ByteArray := prog_1_method_43_code
def yX8_bit : MethodName := ⟨RX8, "bit", "(I)I"⟩
abbrev cX8_greatestCommon : ByteArray := prog_1_method_44_code
def yX8_greatestCommon : MethodName := ⟨RX8, "greatestCommon", "(JJ)J"⟩
def RX9 : String := "GivenGoesOnModel"
def TX9 : u_T := fun k => match k with
  | 0 => ("GivenGoesOnModel", "page", "[I", true)
  | 1 => ("GivenGoesOnModel", "pageMany", "I", false)
  | 2 => ("GivenGoesOnModel", "keep", "I", false)
  | 3 => ("GivenGoesOnModel", "isBack", "I", false)
  | 4 => ("GivenGoesOnModel", "isOne", "I", false)
  | 5 => ("GivenGoesOnModel", "most", "I", false)
  | 6 => ("GivenGoesOnModel", "lawsRead", "I", false)
  | 7 => ("GivenGoesOnModel", "state", "I", false)
  | 8 => ("GivenGoesOnModel", "readKeep", "I", false)
  | 9 => ("GivenGoesOnModel", "readBack", "I", false)
  | 10 => ("GivenGoesOnModel", "readOne", "I", false)
  | 11 => ("GivenGoesOnModel", "readMost", "I", false)
  | 12 => ("GivenGoesOnModel", "people", "I", false)
  | 13 => ("GivenGoesOnModel", "habits", "[I", true)
  | 14 => ("GivenGoesOnModel", "knows", "[I", true)
  | 15 => ("GivenGoesOnModel", "likes", "[I", true)
  | 16 => ("GivenGoesOnModel", "owed", "[I", true)
  | 17 => ("GivenGoesOnModel", "feasts", "[I", true)
  | 18 => ("GivenGoesOnModel", "feastMany", "I", false)
  | 19 => ("GivenGoesOnModel", "yearsGone", "I", false)
  | 20 => ("GivenGoesOnModel", "gifts", "I", false)
  | 21 => ("GivenGoesOnModel", "rows", "[I", true)
  | 22 => ("GivenGoesOnModel", "seedNow", "I", false)
  | 23 => ("GivenGoesOnModel", "gave", "[I", true)
  | 24 => ("GivenGoesOnModel", "now", "[J", true)
  | 25 => ("GivenGoesOnModel", "next", "[J", true)
  | 26 => ("GivenGoesOnModel", "home", "[J", true)
  | 27 => ("GivenGoesOnModel", "best", "[I", true)
  | 28 => ("GivenGoesOnModel", "givesTo", "[I", true)
  | 29 => ("GivenGoesOnModel", "far", "[I", true)
  | 30 => ("GivenGoesOnModel", "savedRows", "[I", true)
  | 31 => ("GivenGoesOnModel", "savedOwed", "[I", true)
  | 32 => ("GivenGoesOnModel", "savedFeasts", "[I", true)
  | 33 => ("GivenGoesOnModel", "bookBy", "I", false)
  | 34 => ("GivenGoesOnModel", "bookYears", "I", false)
  | 35 => ("GivenGoesOnModel", "writtenIn", "[I", true)
  | 36 => ("GivenGoesOnModel", "keptGifts", "I", false)
  | 37 => ("GivenGoesOnModel", "keptPeople", "I", false)
  | 38 => ("GivenGoesOnModel", "keptFeastMany", "I", false)
  | 39 => ("GivenGoesOnModel", "keptYears", "I", false)
  | 40 => ("GivenGoesOnModel", "keptRows", "[I", true)
  | 41 => ("GivenGoesOnModel", "keptOwed", "[I", true)
  | 42 => ("GivenGoesOnModel", "keptLikes", "[I", true)
  | 43 => ("GivenGoesOnModel", "keptKnows", "[I", true)
  | 44 => ("GivenGoesOnModel", "keptFeasts", "[I", true)
  | _ => ("GivenGoesOnModel", "hash", "J", false)
def tyX9 : Nat → FieldType := fun k => match k with
  | 0 => .array .int
  | 1 => .int
  | 2 => .int
  | 3 => .int
  | 4 => .int
  | 5 => .int
  | 6 => .int
  | 7 => .int
  | 8 => .int
  | 9 => .int
  | 10 => .int
  | 11 => .int
  | 12 => .int
  | 13 => .array .int
  | 14 => .array .int
  | 15 => .array .int
  | 16 => .array .int
  | 17 => .array .int
  | 18 => .int
  | 19 => .int
  | 20 => .int
  | 21 => .array .int
  | 22 => .int
  | 23 => .array .int
  | 24 => .array .long
  | 25 => .array .long
  | 26 => .array .long
  | 27 => .array .int
  | 28 => .array .int
  | 29 => .array .int
  | 30 => .array .int
  | 31 => .array .int
  | 32 => .array .int
  | 33 => .int
  | 34 => .int
  | 35 => .array .int
  | 36 => .int
  | 37 => .int
  | 38 => .int
  | 39 => .int
  | 40 => .array .int
  | 41 => .array .int
  | 42 => .array .int
  | 43 => .array .int
  | 44 => .array .int
  | _ => .long
theorem nmX9 : ∀ a, a < 46 → ∀ b, b < 46 → a ≠ b → (TX9 a).2.1 ≠ (TX9 b).2.1 := by decide +kernel
theorem tyX9_ok : ∀ k, k < 46 → parseFieldDescriptor (TX9 k).2.2.1 = some (tyX9 k) := by decide +kernel
abbrev cX9_init : ByteArray := prog_11_method_1_code
def yX9_init : MethodName := ⟨RX9, "<init>", "()V"⟩
abbrev cX9_in : ByteArray := prog_11_method_2_code
def yX9_in : MethodName := ⟨RX9, "in", "(JJJ)Z"⟩
abbrev cX9_letters : ByteArray := prog_11_method_3_code
def yX9_letters : MethodName := ⟨RX9, "letters", "(J)I"⟩
abbrev cX9_blank : ByteArray := prog_11_method_4_code
def yX9_blank : MethodName := ⟨RX9, "blank", "()I"⟩
abbrev cX9_go : ByteArray := prog_11_method_5_code
def yX9_go : MethodName := ⟨RX9, "go", "(I)Z"⟩
abbrev cX9_faultOf : ByteArray := prog_11_method_6_code
def yX9_faultOf : MethodName := ⟨RX9, "faultOf", "()I"⟩
abbrev cX9_fault : ByteArray := prog_11_method_7_code
def yX9_fault : MethodName := ⟨RX9, "fault", "()I"⟩
abbrev cX9_law : ByteArray := prog_11_method_8_code
def yX9_law : MethodName := ⟨RX9, "law", "()I"⟩
abbrev cX9_tellLaw : ByteArray := prog_11_method_9_code
def yX9_tellLaw : MethodName := ⟨RX9, "tellLaw", "(I)I"⟩
abbrev cX9_lawTold : ByteArray := prog_11_method_10_code
def yX9_lawTold : MethodName := ⟨RX9, "lawTold", "(I)I"⟩
abbrev cX9_isPerson : ByteArray := prog_11_method_11_code
def yX9_isPerson : MethodName := ⟨RX9, "isPerson", "(I)Z"⟩
abbrev cX9_arePair : ByteArray := prog_11_method_12_code
def yX9_arePair : MethodName := ⟨RX9, "arePair", "(II)Z"⟩
abbrev cX9_person : ByteArray := prog_11_method_13_code
def yX9_person : MethodName := ⟨RX9, "person", "(I)I"⟩
abbrev cX9_know : ByteArray := prog_11_method_14_code
def yX9_know : MethodName := ⟨RX9, "know", "(IIZ)I"⟩
abbrev cX9_like : ByteArray := prog_11_method_15_code
def yX9_like : MethodName := ⟨RX9, "like", "(III)I"⟩
abbrev cX9_isGift : ByteArray := prog_11_method_16_code
def yX9_isGift : MethodName := ⟨RX9, "isGift", "(I)Z"⟩
abbrev cX9_lives : ByteArray := prog_11_method_17_code
def yX9_lives : MethodName := ⟨RX9, "lives", "(I)Z"⟩
abbrev cX9_holds : ByteArray := prog_11_method_18_code
def yX9_holds : MethodName := ⟨RX9, "holds", "(I)I"⟩
abbrev cX9_tellPerson : ByteArray := prog_11_method_19_code
def yX9_tellPerson : MethodName := ⟨RX9, "tellPerson", "(II)I"⟩
abbrev cX9_about : ByteArray := prog_11_method_20_code
def yX9_about : MethodName := ⟨RX9, "about", "(II)I"⟩
abbrev cX9_owes : ByteArray := prog_11_method_21_code
def yX9_owes : MethodName := ⟨RX9, "owes", "(II)I"⟩
abbrev cX9_restOf : ByteArray := prog_11_method_22_code
def yX9_restOf : MethodName := ⟨RX9, "restOf", "(I)I"⟩
abbrev cX9_rest : ByteArray := prog_11_method_23_code
def yX9_rest : MethodName := ⟨RX9, "rest", "(I)I"⟩
abbrev cX9_gift : ByteArray := prog_11_method_24_code
def yX9_gift : MethodName := ⟨RX9, "gift", "(II)I"⟩
abbrev cX9_worthOf : ByteArray := prog_11_method_25_code
def yX9_worthOf : MethodName := ⟨RX9, "worthOf", "(I)I"⟩
abbrev cX9_tellGift : ByteArray := prog_11_method_26_code
def yX9_tellGift : MethodName := ⟨RX9, "tellGift", "(II)I"⟩
abbrev cX9_told : ByteArray := prog_11_method_27_code
def yX9_told : MethodName := ⟨RX9, "told", "(II)I"⟩
abbrev cX9_as : ByteArray := prog_11_method_28_code
def yX9_as : MethodName := ⟨RX9, "as", "(II)I"⟩
abbrev cX9_mayHave : ByteArray := prog_11_method_29_code
def yX9_mayHave : MethodName := ⟨RX9, "mayHave", "(II)I"⟩
abbrev cX9_mayOf : ByteArray := prog_11_method_30_code
def yX9_mayOf : MethodName := ⟨RX9, "mayOf", "(I)I"⟩
abbrev cX9_may : ByteArray := prog_11_method_31_code
def yX9_may : MethodName := ⟨RX9, "may", "(I)I"⟩
abbrev cX9_goOn : ByteArray := prog_11_method_32_code
def yX9_goOn : MethodName := ⟨RX9, "goOn", "(II)I"⟩
abbrev cX9_give : ByteArray := prog_11_method_33_code
def yX9_give : MethodName := ⟨RX9, "give", "(II)I"⟩
abbrev cX9_ones : ByteArray := prog_11_method_34_code
def yX9_ones : MethodName := ⟨RX9, "ones", "(I)I"⟩
abbrev cX9_byHabit : ByteArray := prog_11_method_35_code
def yX9_byHabit : MethodName := ⟨RX9, "byHabit", "(II)I"⟩
abbrev cX9_draw : ByteArray := prog_11_method_36_code
def yX9_draw : MethodName := ⟨RX9, "draw", "(I)I"⟩
abbrev cX9_byDraw : ByteArray := prog_11_method_37_code
def yX9_byDraw : MethodName := ⟨RX9, "byDraw", "(I)I"⟩
abbrev cX9_year : ByteArray := prog_11_method_38_code
def yX9_year : MethodName := ⟨RX9, "year", "(Z)I"⟩
abbrev cX9_years : ByteArray := prog_11_method_39_code
def yX9_years : MethodName := ⟨RX9, "years", "(I)I"⟩
abbrev cX9_goAll : ByteArray := prog_11_method_40_code
def yX9_goAll : MethodName := ⟨RX9, "goAll", "(IZ)J"⟩
abbrev cX9_beginWays : ByteArray := prog_11_method_41_code
def yX9_beginWays : MethodName := ⟨RX9, "beginWays", "(I)V"⟩
abbrev cX9_layWays : ByteArray := prog_11_method_42_code
def yX9_layWays : MethodName := ⟨RX9, "layWays", "(I)V"⟩
abbrev cX9_ways : ByteArray := prog_11_method_43_code
def yX9_ways : MethodName := ⟨RX9, "ways", "(II)I"⟩
abbrev cX9_soonestOf : ByteArray := prog_11_method_44_code
def yX9_soonestOf : MethodName := ⟨RX9, "soonestOf", "(I)I"⟩
abbrev cX9_soonest : ByteArray := prog_11_method_45_code
def yX9_soonest : MethodName := ⟨RX9, "soonest", "(I)I"⟩
abbrev cX9_term : ByteArray := prog_11_method_46_code
def yX9_term : MethodName := ⟨RX9, "term", "(JJI)J"⟩
abbrev cX9_likely : ByteArray := prog_11_method_47_code
def yX9_likely : MethodName := ⟨RX9, "likely", "(III)J"⟩
abbrev cX9_trapsOf : ByteArray := prog_11_method_48_code
def yX9_trapsOf : MethodName := ⟨RX9, "trapsOf", "()I"⟩
abbrev cX9_traps : ByteArray := prog_11_method_49_code
def yX9_traps : MethodName := ⟨RX9, "traps", "()I"⟩
abbrev cX9_layRound : ByteArray := prog_11_method_50_code
def yX9_layRound : MethodName := ⟨RX9, "layRound", "()V"⟩
abbrev cX9_tellRound : ByteArray := prog_11_method_51_code
def yX9_tellRound : MethodName := ⟨RX9, "tellRound", "(I)I"⟩
abbrev cX9_round : ByteArray := prog_11_method_52_code
def yX9_round : MethodName := ⟨RX9, "round", "(I)I"⟩
abbrev cX9_layFar : ByteArray := prog_11_method_53_code
def yX9_layFar : MethodName := ⟨RX9, "layFar", "(I)V"⟩
abbrev cX9_tellStranger : ByteArray := prog_11_method_54_code
def yX9_tellStranger : MethodName := ⟨RX9, "tellStranger", "(III)I"⟩
abbrev cX9_stranger : ByteArray := prog_11_method_55_code
def yX9_stranger : MethodName := ⟨RX9, "stranger", "(III)I"⟩
abbrev cX9_livesMany : ByteArray := prog_11_method_56_code
def yX9_livesMany : MethodName := ⟨RX9, "livesMany", "()I"⟩
abbrev cX9_copy : ByteArray := prog_11_method_57_code
def yX9_copy : MethodName := ⟨RX9, "copy", "([I[II)V"⟩
abbrev cX9_drawn : ByteArray := prog_11_method_58_code
def yX9_drawn : MethodName := ⟨RX9, "drawn", "(III)I"⟩
abbrev cX9_open : ByteArray := prog_11_method_59_code
def yX9_open : MethodName := ⟨RX9, "open", "(II)I"⟩
abbrev cX9_isYear : ByteArray := prog_11_method_60_code
def yX9_isYear : MethodName := ⟨RX9, "isYear", "(I)Z"⟩
abbrev cX9_write : ByteArray := prog_11_method_61_code
def yX9_write : MethodName := ⟨RX9, "write", "(II)I"⟩
abbrev cX9_filledOf : ByteArray := prog_11_method_62_code
def yX9_filledOf : MethodName := ⟨RX9, "filledOf", "()I"⟩
abbrev cX9_filled : ByteArray := prog_11_method_63_code
def yX9_filled : MethodName := ⟨RX9, "filled", "()I"⟩
abbrev cX9_sure : ByteArray := prog_11_method_64_code
def yX9_sure : MethodName := ⟨RX9, "sure", "(I)I"⟩
abbrev cX9_image : ByteArray := prog_11_method_65_code
def yX9_image : MethodName := ⟨RX9, "image", "()I"⟩
abbrev cX9_restore : ByteArray := prog_11_method_66_code
def yX9_restore : MethodName := ⟨RX9, "restore", "()I"⟩
abbrev cX9_countOf : ByteArray := prog_11_method_67_code
def yX9_countOf : MethodName := ⟨RX9, "countOf", "(I)I"⟩
abbrev cX9_count : ByteArray := prog_11_method_68_code
def yX9_count : MethodName := ⟨RX9, "count", "(I)I"⟩
abbrev cX9_say : ByteArray := prog_11_method_69_code
def yX9_say : MethodName := ⟨RX9, "say", "(J)V"⟩
abbrev cX9_sayGift : ByteArray := prog_11_method_70_code
def yX9_sayGift : MethodName := ⟨RX9, "sayGift", "(I)V"⟩
abbrev cX9_digest : ByteArray := prog_11_method_71_code
def yX9_digest : MethodName := ⟨RX9, "digest", "()J"⟩
def RJ6 : String := "java/lang/Integer"
abbrev cJ6_bitCount_0f7a4 : ByteArray := prog_12_method_49_code
def yJ6_bitCount_0f7a4 : MethodName := ⟨RJ6, "bitCount", "(I)I"⟩
def RJ9 : String := "java/lang/Math"
abbrev cJ9_max_7cf53 : ByteArray := prog_13_method_65_code
def yJ9_max_7cf53 : MethodName := ⟨RJ9, "max", "(II)I"⟩
abbrev cJ9_min_7cf53 : ByteArray := prog_13_method_69_code
def yJ9_min_7cf53 : MethodName := ⟨RJ9, "min", "(II)I"⟩
def RJ10 : String := "java/lang/System"
def RL : String := "GivenGoesOnLaw"
abbrev cL_law : ByteArray := code
abbrev vwCl : List vw_C := [(RX0, TX0, 3), (RX1, TX1, 2), (RX2, TX2, 1), (RX3, TX3, 8), (RX4, TX4, 4), (RX5, TX5, 2), (RX6, TX6, 2), (RX7, TX7, 9), (RX8, TX8, 11), (RX9, TX9, 46)]
end
section
/-! THE STATE of both programs once all is made: every cell by a number of its own (below NN); references never change, so they stand in tables. -/
def NN : Nat := 82
def kdL : List Nat := [1, 1, 2, 1, 1, 2, 2, 2, 2, 2, 4, 1, 1, 1, 1, 1, 1, 1, 1, 1, 2, 2, 2, 2, 2, 4, 1, 1, 1, 1, 1, 1, 1, 1, 1, 2, 2, 2, 2, 2, 4, 1, 1, 1, 1, 1, 1, 1, 1, 1, 1, 3, 3, 1, 2, 2, 1, 2, 1, 2, 2, 2, 2, 2, 2, 2, 2, 3, 3, 3, 2, 2, 2, 2, 2, 2, 2, 2, 2, 2, 2, 2]
def clL : List Nat := [8, 5, 0, 4, 7, 0, 0, 0, 0, 0, 0, 3, 3, 3, 3, 3, 3, 3, 3, 7, 0, 0, 0, 0, 0, 0, 3, 3, 3, 3, 3, 3, 3, 3, 7, 0, 0, 0, 0, 0, 0, 3, 3, 3, 3, 3, 3, 3, 3, 2, 6, 0, 0, 1, 0, 0, 0, 0, 9, 0, 0, 0, 0, 0, 0, 0, 0, 0, 0, 0, 0, 0, 0, 0, 0, 0, 0, 0, 0, 0, 0, 0]
def nsL : List Nat := [11, 2, 16, 4, 9, 8, 8, 8, 64, 64, 8, 8, 8, 8, 8, 8, 8, 8, 8, 9, 8, 8, 8, 64, 64, 8, 8, 8, 8, 8, 8, 8, 8, 8, 9, 8, 8, 8, 64, 64, 8, 8, 8, 8, 8, 8, 8, 8, 8, 1, 2, 72, 72, 2, 256, 8, 3, 8, 46, 16, 8, 8, 64, 64, 8, 64, 8, 72, 72, 9, 2304, 8, 8, 64, 64, 8, 8, 64, 64, 64, 8, 8]
def styL : List (List Nat) := [[2, 0, 0], [2, 2], [1], [0, 0, 0, 0, 0, 0, 0, 0], [0, 3, 3, 0], [2, 0], [2, 2], [0, 2, 2, 2, 2, 2, 0, 2, 0], [2, 2, 2, 2, 2, 2, 2, 2, 2, 0, 3], [2, 0, 0, 0, 0, 0, 0, 0, 0, 0, 0, 0, 0, 2, 2, 2, 2, 2, 0, 0, 0, 2, 0, 2, 2, 2, 2, 2, 2, 2, 2, 2, 2, 0, 0, 2, 0, 0, 0, 0, 2, 2, 2, 2, 2, 1]]
def rfL : List (List Nat) := [[1, 3, 4, 19, 34, 49, 50, 53, 56, 0, 0], [2, 0], [], [0, 0, 0, 0], [0, 5, 6, 7, 8, 9, 0, 10, 0], [], [], [], [], [], [11, 12, 13, 14, 15, 16, 17, 18], [0, 0, 0, 0, 0, 0, 0, 0], [0, 0, 0, 0, 0, 0, 0, 0], [0, 0, 0, 0, 0, 0, 0, 0], [0, 0, 0, 0, 0, 0, 0, 0], [0, 0, 0, 0, 0, 0, 0, 0], [0, 0, 0, 0, 0, 0, 0, 0], [0, 0, 0, 0, 0, 0, 0, 0], [0, 0, 0, 0, 0, 0, 0, 0], [0, 20, 21, 22, 23, 24, 0, 25, 0], [], [], [], [], [], [26, 27, 28, 29, 30, 31, 32, 33], [0, 0, 0, 0, 0, 0, 0, 0], [0, 0, 0, 0, 0, 0, 0, 0], [0, 0, 0, 0, 0, 0, 0, 0], [0, 0, 0, 0, 0, 0, 0, 0], [0, 0, 0, 0, 0, 0, 0, 0], [0, 0, 0, 0, 0, 0, 0, 0], [0, 0, 0, 0, 0, 0, 0, 0], [0, 0, 0, 0, 0, 0, 0, 0], [0, 35, 36, 37, 38, 39, 0, 40, 0], [], [], [], [], [], [41, 42, 43, 44, 45, 46, 47, 48], [0, 0, 0, 0, 0, 0, 0, 0], [0, 0, 0, 0, 0, 0, 0, 0], [0, 0, 0, 0, 0, 0, 0, 0], [0, 0, 0, 0, 0, 0, 0, 0], [0, 0, 0, 0, 0, 0, 0, 0], [0, 0, 0, 0, 0, 0, 0, 0], [0, 0, 0, 0, 0, 0, 0, 0], [0, 0, 0, 0, 0, 0, 0, 0], [0], [51, 52], [], [], [54, 55], [], [], [57, 0, 0], [], [59, 0, 0, 0, 0, 0, 0, 0, 0, 0, 0, 0, 0, 60, 61, 62, 63, 64, 0, 0, 0, 65, 0, 66, 67, 68, 69, 70, 71, 72, 73, 74, 75, 0, 0, 76, 0, 0, 0, 0, 77, 78, 79, 80, 81, 0], [], [], [], [], [], [], [], [], [], [], [], [], [], [], [], [], [], [], [], [], [], [], []]
def kd (i : Nat) : Nat := kdL.getD i 0
def cl (i : Nat) : Nat := clL.getD i 0
def nsl (i : Nat) : Nat := nsL.getD i 0
def sty (c k : Nat) : Nat := (styL.getD c []).getD k 0
def rfv (i k : Nat) : Nat := (rfL.getD i []).getD k 0
abbrev St : Type := (Nat → Nat → Int32) × (Nat → Nat → Int64)
def setI (σ : St) (i k : Nat) (v : Int32) : St := (fun a b => if a = i ∧ b = k then v else σ.1 a b, σ.2)
def setL (σ : St) (i k : Nat) (v : Int64) : St := (σ.1, fun a b => if a = i ∧ b = k then v else σ.2 a b)
/-- the first n of array i copied to array j -/
def cpyI (σ : St) (i j n : Nat) : St := (fun a b => if a = j ∧ b < n then σ.1 i b else σ.1 a b, σ.2)
def cpyL (σ : St) (i j n : Nat) : St := (σ.1, fun a b => if a = j ∧ b < n then σ.2 i b else σ.2 a b)
def inb (j : Int32) (n : Nat) : Bool := decide (¬ (j < 0 ∨ n ≤ j.toNatClampNeg))
theorem inb_vp {j : Int32} {n : Nat} (h : inb j n = true) : vp_in j n := show ¬ (j < 0 ∨ n ≤ j.toNatClampNeg) from of_decide_eq_true h
/-- a field of an object: its value, references by their numbers -/
def av (σ : St) (i k : Nat) : Value := if sty (cl i) k = 1 then .long (σ.2 i k) else if sty (cl i) k = 2 then .ref (rfv i k) else .int (σ.1 i k)
/-- a value with references by their addresses -/
def rv (ad : Nat → Nat) : Value → Value
  | .ref a => .ref (ad a)
  | v => v
theorem rv_cat (ad : Nat → Nat) (v : Value) : (rv ad v).category = v.category := by cases v <;> rfl
abbrev CT : Type := ClassId × ClassId × ClassId
def cellE (ad : Nat → Nat) (C : CT) (σ : St) (i : Nat) : va_E :=
  if kd i = 1 then .inr (cl i, (List.range (nsl i)).map fun k => rv ad (av σ i k))
  else if kd i = 2 then .inl (C.1, (nsl i, .inl (σ.1 i)))
  else if kd i = 3 then .inl (C.2.1, (nsl i, .inr (.inl (σ.2 i))))
  else .inl (C.2.2, (nsl i, .inr (.inr (.inr (.inr fun j => some (ad (rfv i j)))))))
def wsE (ad : Nat → Nat) (C : CT) (σ : St) : va_W := (List.range NN).map fun i => (ad i, cellE ad C σ i)
def aTys (C : CT) : List (ClassId × FieldType) := [(C.1, .int), (C.2.1, .long), (C.2.2, .object "GivenGoesOn$Gift")]
/-- the words that every method of ours may use -/
def aT : List Cond := lw_tbl.filter goodWord
def isNest : Cond → Bool
  | .methodLinkNest .. => true
  | _ => false
def aNst : List Cond := lw_tbl.filter isNest
def aK (D : va_G) (C : CT) (U : State) : Prop := va_K D vwCl (aTys C) U ∧ ∀ w ∈ aNst, va_Nw w U
theorem isNest_of {w : Cond} (h : isNest w = true) : ∃ own i x host, w = .methodLinkNest own i x host := by
  cases w <;> first | exact ⟨_, _, _, _, rfl⟩ | (simp [isNest] at h)
theorem aK.warm {D : va_G} {C : CT} {s U : State} (hW : s.WarmedH U.vm) (h : aK D C s) : aK D C U := by
  refine ⟨va_K.moved hW.alike h.1, fun w hw => ?_⟩
  obtain ⟨own, i, x, host, rfl⟩ := isNest_of (List.mem_filter.mp hw).2
  exact va_Nw.warmM hW (h.2 _ hw)
theorem aK.same {D : va_G} {C : CT} {s U : State} (hvm : s.vm = U.vm) (h : aK D C s) : aK D C U := by
  refine ⟨va_K.moved (by rw [hvm]; exact Vm.Alike.refl _) h.1, fun w hw => ?_⟩
  obtain ⟨own, i, x, host, rfl⟩ := isNest_of (List.mem_filter.mp hw).2
  exact va_Nw.same rfl hvm (h.2 _ hw)
abbrev MI : Type := MethodName × ByteArray × Nat × Option FieldType
def mWs (M : MI) : List Cond := .code M.1 M.2.1 M.2.2.1 M.2.2.2 :: aT
def aB (D : va_G) (C : CT) (ad : Nat → Nat) (A0 : Nat → Prop) (τ : St) (U : State) : Prop := va_P D vwCl (wsE ad C τ) U.heap ∧ aK D C U ∧ va_D A0 (wsE ad C τ)
def aQ (D : va_G) (C : CT) (ad : Nat → Nat) (A0 : Nat → Prop) (r : Option Value) (τ : St) : Array Value → State → Outcome → State → Prop := fun _ st oc t =>
  (oc = .returned (r.map (rv ad)) ∧ aB D C ad A0 τ t) ∧ va_F A0 st t
/-- where a frame of the method M stands: the machine, its code, the words, the room for e calls one in another -/
def Cx (M : MI) (e : Nat) (D : va_G) (C : CT) (p : Program) (R : Room) (s : State) (m : MethodId) (args : Array Value) (meth : Method) (c : Code) : Prop :=
  p.tables.exec = Jvm.exec ∧ c.code = M.2.1 ∧ c.maxLocals = M.2.2.1 ∧ meth.sig.returnType = M.2.2.2 ∧ meth.locks = false ∧ s.vm.findClass M.1.cls = some m.cls ∧ (∀ w ∈ aT, w.before args s = true) ∧ aK D C s ∧ e ≤ R.frames ∧ 34 * e ≤ R.locals
def Hp (D : va_G) (C : CT) (ad : Nat → Nat) (A0 : Nat → Prop) (s : State) (σ : St) (H : Heap) (locs : List Loc) : Prop :=
  va_P D vwCl (wsE ad C σ) H ∧ va_D A0 (wsE ad C σ) ∧ va_S A0 s.heap H locs
def lm (ad : Nat → Nat) (loc : List (Nat × Value)) : List (Nat × Value) := loc.map fun q => (q.1, rv ad q.2)
/-- THE JUDGEMENT: from here the method M comes to its end, answers r, and leaves the state τ -/
def A (e : Nat) (M : MI) (pc : Nat) (loc : List (Nat × Value)) (stk : List Value) (σ : St) (r : Option Value) (τ : St) : Prop :=
  ∀ (l : Launch) (D : va_G) (C : CT) (ad : Nat → Nat) (p : Program) (ev : Env) (R : Room) (s : State) (m : MethodId) (args : Array Value) (below : List Frame) (meth : Method) (c : Code) (A0 : Nat → Prop) (H : Heap) (locs : List Loc) (ls : Array Slot),
    Cx M e D C p R s m args meth c → (∀ q, s.heap.size ≤ q → A0 q) → Hp D C ad A0 s σ H locs → lv_has ls M.2.2.1 (lm ad loc) →
    W p l ev R s m args below meth c H locs 0 0 (MQ below (aQ D C ad A0 r τ) args s 0 0 A0) (F0 m pc ls (stk.map (rv ad)))
/-- THE CONTRACT of a method: called with these arguments in the state σ it answers r and leaves τ -/
def Sp (e : Nat) (M : MI) (as : List Value) (σ : St) (r : Option Value) (τ : St) : Prop :=
  ∀ (l : Launch) (D : va_G) (C : CT) (ad : Nat → Nat) (sz : Nat), Met l M.1 (mWs M) ({ frames := e, cells := 0, slots := 0, locals := 34 * e } : Room)
    (va_Pc (as.map (rv ad)) (fun U => U.heap.size = sz ∧ va_P D vwCl (wsE ad C σ) U.heap ∧ aK D C U ∧ va_D (fun _ => True) (wsE ad C σ))) (aQ D C ad (va_A (wsE ad C σ) sz) r τ) 0 0 (va_A (wsE ad C σ) sz)
theorem wsE_at (ad : Nat → Nat) (C : CT) (σ : St) {i : Nat} (hi : i < NN) : (wsE ad C σ)[i]? = some (ad i, cellE ad C σ i) := by
  simp [wsE, List.getElem?_map, List.getElem?_range hi]
theorem wsE_set (ad : Nat → Nat) (C : CT) (σ σ' : St) {i : Nat} (hi : i < NN) {e : va_E} (he : e = cellE ad C σ' i) (ho : ∀ j, j ≠ i → cellE ad C σ' j = cellE ad C σ j) : (wsE ad C σ).set i (ad i, e) = wsE ad C σ' := by
  apply List.ext_getElem?
  intro j
  by_cases hj : j = i
  · subst hj
    rw [List.getElem?_set_self (by simp [wsE]; exact hi), wsE_at ad C σ' hi, he]
  · rw [List.getElem?_set_ne (Ne.symm hj)]
    by_cases hl : j < NN
    · rw [wsE_at ad C σ hl, wsE_at ad C σ' hl, ho j hj]
    · simp [wsE, List.getElem?_map, List.getElem?_eq_none (by simp; omega : (List.range NN).length ≤ j)]
theorem cellE_1 (ad : Nat → Nat) (C : CT) (σ : St) {i : Nat} (h : kd i = 1) : cellE ad C σ i = .inr (cl i, (List.range (nsl i)).map fun k => rv ad (av σ i k)) := by simp [cellE, h]
theorem cellE_2 (ad : Nat → Nat) (C : CT) (σ : St) {i : Nat} (h : kd i = 2) : cellE ad C σ i = .inl (C.1, (nsl i, .inl (σ.1 i))) := by simp [cellE, h]
theorem cellE_3 (ad : Nat → Nat) (C : CT) (σ : St) {i : Nat} (h : kd i = 3) : cellE ad C σ i = .inl (C.2.1, (nsl i, .inr (.inl (σ.2 i)))) := by simp [cellE, h]
theorem cellE_4 (ad : Nat → Nat) (C : CT) (σ : St) {i : Nat} (h : kd i = 4) : cellE ad C σ i = .inl (C.2.2, (nsl i, .inr (.inr (.inr (.inr fun j => some (ad (rfv i j))))))) := by simp [cellE, h]
theorem cellE_setI_ne (ad : Nat → Nat) (C : CT) (σ : St) {i j k : Nat} {v : Int32} (h : j ≠ i) : cellE ad C (setI σ i k v) j = cellE ad C σ j := by
  have e1 : (setI σ i k v).1 j = σ.1 j := by funext b; simp [setI, h]
  have e2 : ∀ b, av (setI σ i k v) j b = av σ j b := fun b => by simp only [av, e1]; rfl
  simp only [cellE, e1, e2]
  rfl
theorem cellE_setL_ne (ad : Nat → Nat) (C : CT) (σ : St) {i j k : Nat} {v : Int64} (h : j ≠ i) : cellE ad C (setL σ i k v) j = cellE ad C σ j := by
  have e1 : (setL σ i k v).2 j = σ.2 j := by funext b; simp [setL, h]
  have e2 : ∀ b, av (setL σ i k v) j b = av σ j b := fun b => by simp only [av, e1]; rfl
  simp only [cellE, e1, e2]
  rfl
theorem cellE_cpyI_ne (ad : Nat → Nat) (C : CT) (σ : St) {i j n a : Nat} (h : a ≠ j) : cellE ad C (cpyI σ i j n) a = cellE ad C σ a := by
  have e1 : (cpyI σ i j n).1 a = σ.1 a := by funext b; simp [cpyI, h]
  have e2 : ∀ b, av (cpyI σ i j n) a b = av σ a b := fun b => by simp only [av, e1]; rfl
  simp only [cellE, e1, e2]
  rfl
theorem cellE_cpyL_ne (ad : Nat → Nat) (C : CT) (σ : St) {i j n a : Nat} (h : a ≠ j) : cellE ad C (cpyL σ i j n) a = cellE ad C σ a := by
  have e1 : (cpyL σ i j n).2 a = σ.2 a := by funext b; simp [cpyL, h]
  have e2 : ∀ b, av (cpyL σ i j n) a b = av σ a b := fun b => by simp only [av, e1]; rfl
  simp only [cellE, e1, e2]
  rfl
theorem lm_at {ad : Nat → Nat} {loc : List (Nat × Value)} {k i : Nat} {v : Value} (h : loc[k]? = some (i, v)) : (lm ad loc)[k]? = some (i, rv ad v) := by
  simp [lm, List.getElem?_map, h]
theorem lm_pick {ad : Nat → Nat} {loc loc' : List (Nat × Value)} {ks : List Nat} (h : lv_pick loc ks = loc') : lv_pick (lm ad loc) ks = lm ad loc' := by
  subst h
  simp only [lv_pick, lm, List.map_filterMap, List.getElem?_map]
def st1 (i : Nat) (v : Value) (loc : List (Nat × Value)) : List (Nat × Value) := (i, v) :: loc.filter (fun q => !(q.1 == i) && !(q.1 + 1 == i && q.2.category == 2))
def st2 (i : Nat) (v : Value) (loc : List (Nat × Value)) : List (Nat × Value) := (i, v) :: loc.filter (fun q => !(q.1 == i) && (!(q.1 == i + 1) && !(q.1 + 1 == i && q.2.category == 2)))
theorem lm_st1 {ad : Nat → Nat} {loc loc' : List (Nat × Value)} {i : Nat} {v : Value} (h : st1 i v loc = loc') : (i, rv ad v) :: (lm ad loc).filter (fun q => !(q.1 == i) && !(q.1 + 1 == i && q.2.category == 2)) = lm ad loc' := by
  subst h
  simp only [st1, lm, List.map_cons, List.filter_map]
  congr 2
  apply List.filter_congr
  intro q _
  simp [rv_cat]
theorem lm_st2 {ad : Nat → Nat} {loc loc' : List (Nat × Value)} {i : Nat} {v : Value} (h : st2 i v loc = loc') : (i, rv ad v) :: (lm ad loc).filter (fun q => !(q.1 == i) && (!(q.1 == i + 1) && !(q.1 + 1 == i && q.2.category == 2))) = lm ad loc' := by
  subst h
  simp only [st2, lm, List.map_cons, List.filter_map]
  congr 2
  apply List.filter_congr
  intro q _
  simp [rv_cat]

section AR
variable {e : Nat} {M : MI} {pc : Nat} {loc loc' : List (Nat × Value)} {stk : List Value} {σ τ : St} {r : Option Value}
theorem a_iconst {n : Int} (v : Int32) (hd : decode M.2.1 pc = .ok (.iconst n, 1)) (hv : Int32.ofInt n = v) (k : A e M (pc + 1) loc (.int v :: stk) σ r τ) : A e M pc loc (stk) σ r τ := by
  intro l D C ad p ev R s m args below meth c A0 H locs ls X hA Y hl
  obtain ⟨hx, hb, hml, hr, hlk, hown, hts, hK, hf, hlo⟩ := id X
  exact lv_iconst hx hb hd hv (k l D C ad p ev R s m args below meth c A0 H locs ls X hA Y hl)
theorem a_bipush {n : Int} (v : Int32) (hd : decode M.2.1 pc = .ok (.bipush n, 2)) (hv : (Int8.ofInt n).toInt32 = v) (k : A e M (pc + 2) loc (.int v :: stk) σ r τ) : A e M pc loc (stk) σ r τ := by
  intro l D C ad p ev R s m args below meth c A0 H locs ls X hA Y hl
  obtain ⟨hx, hb, hml, hr, hlk, hown, hts, hK, hf, hlo⟩ := id X
  exact lv_bipush hx hb hd hv (k l D C ad p ev R s m args below meth c A0 H locs ls X hA Y hl)
theorem a_sipush {n : Int} (v : Int32) (hd : decode M.2.1 pc = .ok (.sipush n, 3)) (hv : (Int16.ofInt n).toInt32 = v) (k : A e M (pc + 3) loc (.int v :: stk) σ r τ) : A e M pc loc (stk) σ r τ := by
  intro l D C ad p ev R s m args below meth c A0 H locs ls X hA Y hl
  obtain ⟨hx, hb, hml, hr, hlk, hown, hts, hK, hf, hlo⟩ := id X
  exact lv_sipush hx hb hd hv (k l D C ad p ev R s m args below meth c A0 H locs ls X hA Y hl)
theorem a_lconst {n : Fin 2} (v : Int64) (hd : decode M.2.1 pc = .ok (.lconst n, 1)) (hv : Int64.ofNat (n : Nat) = v) (k : A e M (pc + 1) loc (.long v :: stk) σ r τ) : A e M pc loc (stk) σ r τ := by
  intro l D C ad p ev R s m args below meth c A0 H locs ls X hA Y hl
  obtain ⟨hx, hb, hml, hr, hlk, hown, hts, hK, hf, hlo⟩ := id X
  exact lv_lconst hx hb hd hv (k l D C ad p ev R s m args below meth c A0 H locs ls X hA Y hl)
theorem a_null (hd : decode M.2.1 pc = .ok (.aconst_null, 1)) (k : A e M (pc + 1) loc (.null :: stk) σ r τ) : A e M pc loc (stk) σ r τ := by
  intro l D C ad p ev R s m args below meth c A0 H locs ls X hA Y hl
  obtain ⟨hx, hb, hml, hr, hlk, hown, hts, hK, hf, hlo⟩ := id X
  exact lv_null hx hb hd (k l D C ad p ev R s m args below meth c A0 H locs ls X hA Y hl)
theorem a_ldc {own : String} {ix : Nat} {v : Int32} (ho : own = M.1.cls) (hc : Cond.constant own ix v ∈ aT) (hd : decode M.2.1 pc = .ok (.ldc ix, 2)) (k : A e M (pc + 2) loc (.int v :: stk) σ r τ) : A e M pc loc (stk) σ r τ := by
  intro l D C ad p ev R s m args below meth c A0 H locs ls X hA Y hl
  obtain ⟨hx, hb, hml, hr, hlk, hown, hts, hK, hf, hlo⟩ := id X
  subst ho
  exact lv_ldc hx hb hown (hts _ hc) hd (k l D C ad p ev R s m args below meth c A0 H locs ls X hA Y hl)
theorem a_ldcw {own : String} {ix : Nat} {v : Int32} (ho : own = M.1.cls) (hc : Cond.constant own ix v ∈ aT) (hd : decode M.2.1 pc = .ok (.ldc_w ix, 3)) (k : A e M (pc + 3) loc (.int v :: stk) σ r τ) : A e M pc loc (stk) σ r τ := by
  intro l D C ad p ev R s m args below meth c A0 H locs ls X hA Y hl
  obtain ⟨hx, hb, hml, hr, hlk, hown, hts, hK, hf, hlo⟩ := id X
  subst ho
  exact lv_ldcw hx hb hown (hts _ hc) hd (k l D C ad p ev R s m args below meth c A0 H locs ls X hA Y hl)
theorem a_ldc2 {own : String} {ix : Nat} {v : Int64} (ho : own = M.1.cls) (hc : Cond.constantLong own ix v ∈ aT) (hd : decode M.2.1 pc = .ok (.ldc2_w ix, 3)) (k : A e M (pc + 3) loc (.long v :: stk) σ r τ) : A e M pc loc (stk) σ r τ := by
  intro l D C ad p ev R s m args below meth c A0 H locs ls X hA Y hl
  obtain ⟨hx, hb, hml, hr, hlk, hown, hts, hK, hf, hlo⟩ := id X
  subst ho
  exact lv_ldc2 hx hb hown (hts _ hc) hd (k l D C ad p ev R s m args below meth c A0 H locs ls X hA Y hl)
theorem a_iload_n {j : Fin 4} {i : Nat} {x : Int32} (hd : decode M.2.1 pc = .ok (.iload_n j, 1)) (hi : (j : Nat) = i) (q : Nat) (hq : loc[q]? = some (i, .int x)) (k : A e M (pc + 1) loc (.int x :: stk) σ r τ) : A e M pc loc (stk) σ r τ := by
  intro l D C ad p ev R s m args below meth c A0 H locs ls X hA Y hl
  obtain ⟨hx, hb, hml, hr, hlk, hown, hts, hK, hf, hlo⟩ := id X
  exact lv_iload_n hx hb hd hi (lv_at hl q (lm_at hq)) (k l D C ad p ev R s m args below meth c A0 H locs ls X hA Y hl)
theorem a_iload {i : Nat} {x : Int32} (hd : decode M.2.1 pc = .ok (.iload i, 2)) (q : Nat) (hq : loc[q]? = some (i, .int x)) (k : A e M (pc + 2) loc (.int x :: stk) σ r τ) : A e M pc loc (stk) σ r τ := by
  intro l D C ad p ev R s m args below meth c A0 H locs ls X hA Y hl
  obtain ⟨hx, hb, hml, hr, hlk, hown, hts, hK, hf, hlo⟩ := id X
  exact lv_iload hx hb hd (lv_at hl q (lm_at hq)) (k l D C ad p ev R s m args below meth c A0 H locs ls X hA Y hl)
theorem a_lload_n {j : Fin 4} {i : Nat} {x : Int64} (hd : decode M.2.1 pc = .ok (.lload_n j, 1)) (hi : (j : Nat) = i) (q : Nat) (hq : loc[q]? = some (i, .long x)) (k : A e M (pc + 1) loc (.long x :: stk) σ r τ) : A e M pc loc (stk) σ r τ := by
  intro l D C ad p ev R s m args below meth c A0 H locs ls X hA Y hl
  obtain ⟨hx, hb, hml, hr, hlk, hown, hts, hK, hf, hlo⟩ := id X
  exact lv_lload_n hx hb hd hi (lv_at hl q (lm_at hq)) (k l D C ad p ev R s m args below meth c A0 H locs ls X hA Y hl)
theorem a_lload {i : Nat} {x : Int64} (hd : decode M.2.1 pc = .ok (.lload i, 2)) (q : Nat) (hq : loc[q]? = some (i, .long x)) (k : A e M (pc + 2) loc (.long x :: stk) σ r τ) : A e M pc loc (stk) σ r τ := by
  intro l D C ad p ev R s m args below meth c A0 H locs ls X hA Y hl
  obtain ⟨hx, hb, hml, hr, hlk, hown, hts, hK, hf, hlo⟩ := id X
  exact lv_lload hx hb hd (lv_at hl q (lm_at hq)) (k l D C ad p ev R s m args below meth c A0 H locs ls X hA Y hl)
theorem a_aload_n {j : Fin 4} {i : Nat} {x : Nat} (hd : decode M.2.1 pc = .ok (.aload_n j, 1)) (hi : (j : Nat) = i) (q : Nat) (hq : loc[q]? = some (i, .ref x)) (k : A e M (pc + 1) loc (.ref x :: stk) σ r τ) : A e M pc loc (stk) σ r τ := by
  intro l D C ad p ev R s m args below meth c A0 H locs ls X hA Y hl
  obtain ⟨hx, hb, hml, hr, hlk, hown, hts, hK, hf, hlo⟩ := id X
  exact lv_aload_n hx hb hd hi (lv_at hl q (lm_at hq)) (k l D C ad p ev R s m args below meth c A0 H locs ls X hA Y hl)
theorem a_aload {i : Nat} {x : Nat} (hd : decode M.2.1 pc = .ok (.aload i, 2)) (q : Nat) (hq : loc[q]? = some (i, .ref x)) (k : A e M (pc + 2) loc (.ref x :: stk) σ r τ) : A e M pc loc (stk) σ r τ := by
  intro l D C ad p ev R s m args below meth c A0 H locs ls X hA Y hl
  obtain ⟨hx, hb, hml, hr, hlk, hown, hts, hK, hf, hlo⟩ := id X
  exact lv_aload hx hb hd (lv_at hl q (lm_at hq)) (k l D C ad p ev R s m args below meth c A0 H locs ls X hA Y hl)
theorem a_aload_nN {j : Fin 4} {i : Nat} (hd : decode M.2.1 pc = .ok (.aload_n j, 1)) (hi : (j : Nat) = i) (q : Nat) (hq : loc[q]? = some (i, .null)) (k : A e M (pc + 1) loc (.null :: stk) σ r τ) : A e M pc loc (stk) σ r τ := by
  intro l D C ad p ev R s m args below meth c A0 H locs ls X hA Y hl
  obtain ⟨hx, hb, hml, hr, hlk, hown, hts, hK, hf, hlo⟩ := id X
  exact lv_aload_nN hx hb hd hi (lv_at hl q (lm_at hq)) (k l D C ad p ev R s m args below meth c A0 H locs ls X hA Y hl)
theorem a_aloadN {i : Nat} (hd : decode M.2.1 pc = .ok (.aload i, 2)) (q : Nat) (hq : loc[q]? = some (i, .null)) (k : A e M (pc + 2) loc (.null :: stk) σ r τ) : A e M pc loc (stk) σ r τ := by
  intro l D C ad p ev R s m args below meth c A0 H locs ls X hA Y hl
  obtain ⟨hx, hb, hml, hr, hlk, hown, hts, hK, hf, hlo⟩ := id X
  exact lv_aloadN hx hb hd (lv_at hl q (lm_at hq)) (k l D C ad p ev R s m args below meth c A0 H locs ls X hA Y hl)
theorem a_istore_n {j : Fin 4} {i : Nat} {x : Int32} (hd : decode M.2.1 pc = .ok (.istore_n j, 1)) (hi : (j : Nat) = i) (hn : i < M.2.2.1) (hq : st1 i (.int x) loc = loc') (k : A e M (pc + 1) loc' (stk) σ r τ) : A e M pc loc (.int x :: stk) σ r τ := by
  intro l D C ad p ev R s m args below meth c A0 H locs ls X hA Y hl
  obtain ⟨hx, hb, hml, hr, hlk, hown, hts, hK, hf, hlo⟩ := id X
  exact lv_istore_n hx hb hd hi hl hn (lm_st1 hq) (fun ls' hl' => k l D C ad p ev R s m args below meth c A0 H locs ls' X hA Y hl')
theorem a_istore {i : Nat} {x : Int32} (hd : decode M.2.1 pc = .ok (.istore i, 2)) (hn : i < M.2.2.1) (hq : st1 i (.int x) loc = loc') (k : A e M (pc + 2) loc' (stk) σ r τ) : A e M pc loc (.int x :: stk) σ r τ := by
  intro l D C ad p ev R s m args below meth c A0 H locs ls X hA Y hl
  obtain ⟨hx, hb, hml, hr, hlk, hown, hts, hK, hf, hlo⟩ := id X
  exact lv_istore hx hb hd hl hn (lm_st1 hq) (fun ls' hl' => k l D C ad p ev R s m args below meth c A0 H locs ls' X hA Y hl')
theorem a_lstore_n {j : Fin 4} {i : Nat} {x : Int64} (hd : decode M.2.1 pc = .ok (.lstore_n j, 1)) (hi : (j : Nat) = i) (hn : i + 1 < M.2.2.1) (hq : st2 i (.long x) loc = loc') (k : A e M (pc + 1) loc' (stk) σ r τ) : A e M pc loc (.long x :: stk) σ r τ := by
  intro l D C ad p ev R s m args below meth c A0 H locs ls X hA Y hl
  obtain ⟨hx, hb, hml, hr, hlk, hown, hts, hK, hf, hlo⟩ := id X
  exact lv_lstore_n hx hb hd hi hl hn (lm_st2 hq) (fun ls' hl' => k l D C ad p ev R s m args below meth c A0 H locs ls' X hA Y hl')
theorem a_lstore {i : Nat} {x : Int64} (hd : decode M.2.1 pc = .ok (.lstore i, 2)) (hn : i + 1 < M.2.2.1) (hq : st2 i (.long x) loc = loc') (k : A e M (pc + 2) loc' (stk) σ r τ) : A e M pc loc (.long x :: stk) σ r τ := by
  intro l D C ad p ev R s m args below meth c A0 H locs ls X hA Y hl
  obtain ⟨hx, hb, hml, hr, hlk, hown, hts, hK, hf, hlo⟩ := id X
  exact lv_lstore hx hb hd hl hn (lm_st2 hq) (fun ls' hl' => k l D C ad p ev R s m args below meth c A0 H locs ls' X hA Y hl')
theorem a_astore_n {j : Fin 4} {i : Nat} {x : Nat} (hd : decode M.2.1 pc = .ok (.astore_n j, 1)) (hi : (j : Nat) = i) (hn : i < M.2.2.1) (hq : st1 i (.ref x) loc = loc') (k : A e M (pc + 1) loc' (stk) σ r τ) : A e M pc loc (.ref x :: stk) σ r τ := by
  intro l D C ad p ev R s m args below meth c A0 H locs ls X hA Y hl
  obtain ⟨hx, hb, hml, hr, hlk, hown, hts, hK, hf, hlo⟩ := id X
  exact lv_astore_n hx hb hd hi hl hn (lm_st1 hq) (fun ls' hl' => k l D C ad p ev R s m args below meth c A0 H locs ls' X hA Y hl')
theorem a_astore {i : Nat} {x : Nat} (hd : decode M.2.1 pc = .ok (.astore i, 2)) (hn : i < M.2.2.1) (hq : st1 i (.ref x) loc = loc') (k : A e M (pc + 2) loc' (stk) σ r τ) : A e M pc loc (.ref x :: stk) σ r τ := by
  intro l D C ad p ev R s m args below meth c A0 H locs ls X hA Y hl
  obtain ⟨hx, hb, hml, hr, hlk, hown, hts, hK, hf, hlo⟩ := id X
  exact lv_astore hx hb hd hl hn (lm_st1 hq) (fun ls' hl' => k l D C ad p ev R s m args below meth c A0 H locs ls' X hA Y hl')
theorem a_iinc {i : Nat} {n : Int} {x : Int32} (v : Int32) (hd : decode M.2.1 pc = .ok (.iinc i n, 3)) (q : Nat) (hq : loc[q]? = some (i, .int x)) (hv : x + Int32.ofInt n = v) (hn : i < M.2.2.1) (hs : st1 i (.int v) loc = loc') (k : A e M (pc + 3) loc' (stk) σ r τ) : A e M pc loc (stk) σ r τ := by
  intro l D C ad p ev R s m args below meth c A0 H locs ls X hA Y hl
  obtain ⟨hx, hb, hml, hr, hlk, hown, hts, hK, hf, hlo⟩ := id X
  exact lv_iinc hx hb hd hl (lm_at hq) hv hn (lm_st1 hs) (fun ls' hl' => k l D C ad p ev R s m args below meth c A0 H locs ls' X hA Y hl')
theorem a_locs (ks : List Nat) (hs : lv_pick loc ks = loc') (k : A e M (pc) loc' (stk) σ r τ) : A e M pc loc (stk) σ r τ := by
  intro l D C ad p ev R s m args below meth c A0 H locs ls X hA Y hl
  obtain ⟨hx, hb, hml, hr, hlk, hown, hts, hK, hf, hlo⟩ := id X
  exact k l D C ad p ev R s m args below meth c A0 H locs ls X hA Y (lv_sub hl ks (lm_pick hs))
theorem a_iadd {x y : Int32} (hd : decode M.2.1 pc = .ok (.iadd, 1)) (k : A e M (pc + 1) loc (.int (x + y) :: stk) σ r τ) : A e M pc loc (.int y :: .int x :: stk) σ r τ := by
  intro l D C ad p ev R s m args below meth c A0 H locs ls X hA Y hl
  obtain ⟨hx, hb, hml, hr, hlk, hown, hts, hK, hf, hlo⟩ := id X
  exact lv_iadd hx hb hd (k l D C ad p ev R s m args below meth c A0 H locs ls X hA Y hl)
theorem a_isub {x y : Int32} (hd : decode M.2.1 pc = .ok (.isub, 1)) (k : A e M (pc + 1) loc (.int (x - y) :: stk) σ r τ) : A e M pc loc (.int y :: .int x :: stk) σ r τ := by
  intro l D C ad p ev R s m args below meth c A0 H locs ls X hA Y hl
  obtain ⟨hx, hb, hml, hr, hlk, hown, hts, hK, hf, hlo⟩ := id X
  exact lv_isub hx hb hd (k l D C ad p ev R s m args below meth c A0 H locs ls X hA Y hl)
theorem a_imul {x y : Int32} (hd : decode M.2.1 pc = .ok (.imul, 1)) (k : A e M (pc + 1) loc (.int (x * y) :: stk) σ r τ) : A e M pc loc (.int y :: .int x :: stk) σ r τ := by
  intro l D C ad p ev R s m args below meth c A0 H locs ls X hA Y hl
  obtain ⟨hx, hb, hml, hr, hlk, hown, hts, hK, hf, hlo⟩ := id X
  exact lv_imul hx hb hd (k l D C ad p ev R s m args below meth c A0 H locs ls X hA Y hl)
theorem a_iand {x y : Int32} (hd : decode M.2.1 pc = .ok (.iand, 1)) (k : A e M (pc + 1) loc (.int (x &&& y) :: stk) σ r τ) : A e M pc loc (.int y :: .int x :: stk) σ r τ := by
  intro l D C ad p ev R s m args below meth c A0 H locs ls X hA Y hl
  obtain ⟨hx, hb, hml, hr, hlk, hown, hts, hK, hf, hlo⟩ := id X
  exact lv_iand hx hb hd (k l D C ad p ev R s m args below meth c A0 H locs ls X hA Y hl)
theorem a_ior {x y : Int32} (hd : decode M.2.1 pc = .ok (.ior, 1)) (k : A e M (pc + 1) loc (.int (x ||| y) :: stk) σ r τ) : A e M pc loc (.int y :: .int x :: stk) σ r τ := by
  intro l D C ad p ev R s m args below meth c A0 H locs ls X hA Y hl
  obtain ⟨hx, hb, hml, hr, hlk, hown, hts, hK, hf, hlo⟩ := id X
  exact lv_ior hx hb hd (k l D C ad p ev R s m args below meth c A0 H locs ls X hA Y hl)
theorem a_ixor {x y : Int32} (hd : decode M.2.1 pc = .ok (.ixor, 1)) (k : A e M (pc + 1) loc (.int (x ^^^ y) :: stk) σ r τ) : A e M pc loc (.int y :: .int x :: stk) σ r τ := by
  intro l D C ad p ev R s m args below meth c A0 H locs ls X hA Y hl
  obtain ⟨hx, hb, hml, hr, hlk, hown, hts, hK, hf, hlo⟩ := id X
  exact lv_ixor hx hb hd (k l D C ad p ev R s m args below meth c A0 H locs ls X hA Y hl)
theorem a_ishl {x y : Int32} (hd : decode M.2.1 pc = .ok (.ishl, 1)) (k : A e M (pc + 1) loc (.int (x <<< (y &&& 31)) :: stk) σ r τ) : A e M pc loc (.int y :: .int x :: stk) σ r τ := by
  intro l D C ad p ev R s m args below meth c A0 H locs ls X hA Y hl
  obtain ⟨hx, hb, hml, hr, hlk, hown, hts, hK, hf, hlo⟩ := id X
  exact lv_ishl hx hb hd (k l D C ad p ev R s m args below meth c A0 H locs ls X hA Y hl)
theorem a_ishr {x y : Int32} (hd : decode M.2.1 pc = .ok (.ishr, 1)) (k : A e M (pc + 1) loc (.int (x >>> (y &&& 31)) :: stk) σ r τ) : A e M pc loc (.int y :: .int x :: stk) σ r τ := by
  intro l D C ad p ev R s m args below meth c A0 H locs ls X hA Y hl
  obtain ⟨hx, hb, hml, hr, hlk, hown, hts, hK, hf, hlo⟩ := id X
  exact lv_ishr hx hb hd (k l D C ad p ev R s m args below meth c A0 H locs ls X hA Y hl)
theorem a_idiv {x y : Int32} (hy : ¬ y = 0) (hd : decode M.2.1 pc = .ok (.idiv, 1)) (k : A e M (pc + 1) loc (.int (x / y) :: stk) σ r τ) : A e M pc loc (.int y :: .int x :: stk) σ r τ := by
  intro l D C ad p ev R s m args below meth c A0 H locs ls X hA Y hl
  obtain ⟨hx, hb, hml, hr, hlk, hown, hts, hK, hf, hlo⟩ := id X
  exact lv_idiv hx hb hd hy (k l D C ad p ev R s m args below meth c A0 H locs ls X hA Y hl)
theorem a_irem {x y : Int32} (hy : ¬ y = 0) (hd : decode M.2.1 pc = .ok (.irem, 1)) (k : A e M (pc + 1) loc (.int (x - x / y * y) :: stk) σ r τ) : A e M pc loc (.int y :: .int x :: stk) σ r τ := by
  intro l D C ad p ev R s m args below meth c A0 H locs ls X hA Y hl
  obtain ⟨hx, hb, hml, hr, hlk, hown, hts, hK, hf, hlo⟩ := id X
  exact lv_irem hx hb hd hy (k l D C ad p ev R s m args below meth c A0 H locs ls X hA Y hl)
theorem a_ineg {x : Int32} (hd : decode M.2.1 pc = .ok (.ineg, 1)) (k : A e M (pc + 1) loc (.int (-x) :: stk) σ r τ) : A e M pc loc (.int x :: stk) σ r τ := by
  intro l D C ad p ev R s m args below meth c A0 H locs ls X hA Y hl
  obtain ⟨hx, hb, hml, hr, hlk, hown, hts, hK, hf, hlo⟩ := id X
  exact lv_ineg hx hb hd (k l D C ad p ev R s m args below meth c A0 H locs ls X hA Y hl)
theorem a_ladd {x y : Int64} (hd : decode M.2.1 pc = .ok (.ladd, 1)) (k : A e M (pc + 1) loc (.long (x + y) :: stk) σ r τ) : A e M pc loc (.long y :: .long x :: stk) σ r τ := by
  intro l D C ad p ev R s m args below meth c A0 H locs ls X hA Y hl
  obtain ⟨hx, hb, hml, hr, hlk, hown, hts, hK, hf, hlo⟩ := id X
  exact lv_ladd hx hb hd (k l D C ad p ev R s m args below meth c A0 H locs ls X hA Y hl)
theorem a_lsub {x y : Int64} (hd : decode M.2.1 pc = .ok (.lsub, 1)) (k : A e M (pc + 1) loc (.long (x - y) :: stk) σ r τ) : A e M pc loc (.long y :: .long x :: stk) σ r τ := by
  intro l D C ad p ev R s m args below meth c A0 H locs ls X hA Y hl
  obtain ⟨hx, hb, hml, hr, hlk, hown, hts, hK, hf, hlo⟩ := id X
  exact lv_lsub hx hb hd (k l D C ad p ev R s m args below meth c A0 H locs ls X hA Y hl)
theorem a_lmul {x y : Int64} (hd : decode M.2.1 pc = .ok (.lmul, 1)) (k : A e M (pc + 1) loc (.long (x * y) :: stk) σ r τ) : A e M pc loc (.long y :: .long x :: stk) σ r τ := by
  intro l D C ad p ev R s m args below meth c A0 H locs ls X hA Y hl
  obtain ⟨hx, hb, hml, hr, hlk, hown, hts, hK, hf, hlo⟩ := id X
  exact lv_lmul hx hb hd (k l D C ad p ev R s m args below meth c A0 H locs ls X hA Y hl)
theorem a_land {x y : Int64} (hd : decode M.2.1 pc = .ok (.land, 1)) (k : A e M (pc + 1) loc (.long (x &&& y) :: stk) σ r τ) : A e M pc loc (.long y :: .long x :: stk) σ r τ := by
  intro l D C ad p ev R s m args below meth c A0 H locs ls X hA Y hl
  obtain ⟨hx, hb, hml, hr, hlk, hown, hts, hK, hf, hlo⟩ := id X
  exact lv_land hx hb hd (k l D C ad p ev R s m args below meth c A0 H locs ls X hA Y hl)
theorem a_lor {x y : Int64} (hd : decode M.2.1 pc = .ok (.lor, 1)) (k : A e M (pc + 1) loc (.long (x ||| y) :: stk) σ r τ) : A e M pc loc (.long y :: .long x :: stk) σ r τ := by
  intro l D C ad p ev R s m args below meth c A0 H locs ls X hA Y hl
  obtain ⟨hx, hb, hml, hr, hlk, hown, hts, hK, hf, hlo⟩ := id X
  exact lv_lor hx hb hd (k l D C ad p ev R s m args below meth c A0 H locs ls X hA Y hl)
theorem a_ldiv {x y : Int64} (hy : ¬ y = 0) (hd : decode M.2.1 pc = .ok (.ldiv, 1)) (k : A e M (pc + 1) loc (.long (x / y) :: stk) σ r τ) : A e M pc loc (.long y :: .long x :: stk) σ r τ := by
  intro l D C ad p ev R s m args below meth c A0 H locs ls X hA Y hl
  obtain ⟨hx, hb, hml, hr, hlk, hown, hts, hK, hf, hlo⟩ := id X
  exact lv_ldiv hx hb hd hy (k l D C ad p ev R s m args below meth c A0 H locs ls X hA Y hl)
theorem a_lrem {x y : Int64} (hy : ¬ y = 0) (hd : decode M.2.1 pc = .ok (.lrem, 1)) (k : A e M (pc + 1) loc (.long (x - x / y * y) :: stk) σ r τ) : A e M pc loc (.long y :: .long x :: stk) σ r τ := by
  intro l D C ad p ev R s m args below meth c A0 H locs ls X hA Y hl
  obtain ⟨hx, hb, hml, hr, hlk, hown, hts, hK, hf, hlo⟩ := id X
  exact lv_lrem hx hb hd hy (k l D C ad p ev R s m args below meth c A0 H locs ls X hA Y hl)
theorem a_i2l {x : Int32} (hd : decode M.2.1 pc = .ok (.i2l, 1)) (k : A e M (pc + 1) loc (.long x.toInt64 :: stk) σ r τ) : A e M pc loc (.int x :: stk) σ r τ := by
  intro l D C ad p ev R s m args below meth c A0 H locs ls X hA Y hl
  obtain ⟨hx, hb, hml, hr, hlk, hown, hts, hK, hf, hlo⟩ := id X
  exact lv_i2l hx hb hd rfl (k l D C ad p ev R s m args below meth c A0 H locs ls X hA Y hl)
theorem a_l2i {x : Int64} (hd : decode M.2.1 pc = .ok (.l2i, 1)) (k : A e M (pc + 1) loc (.int x.toInt32 :: stk) σ r τ) : A e M pc loc (.long x :: stk) σ r τ := by
  intro l D C ad p ev R s m args below meth c A0 H locs ls X hA Y hl
  obtain ⟨hx, hb, hml, hr, hlk, hown, hts, hK, hf, hlo⟩ := id X
  exact lv_l2i hx hb hd rfl (k l D C ad p ev R s m args below meth c A0 H locs ls X hA Y hl)
def ushrI (x y : Int32) : Int32 := (x.toUInt32 >>> (y.toUInt32 &&& Int32.toUInt32 31)).toInt32
def ushrL (x : Int64) (y : Int32) : Int64 := (x.toUInt64 >>> (y.toInt64.toUInt64 &&& Int64.toUInt64 63)).toInt64
theorem a_iushr {x y : Int32} (hd : decode M.2.1 pc = .ok (.iushr, 1)) (k : A e M (pc + 1) loc (.int (ushrI x y) :: stk) σ r τ) : A e M pc loc (.int y :: .int x :: stk) σ r τ := by
  intro l D C ad p ev R s m args below meth c A0 H locs ls X hA Y hl
  obtain ⟨hx, hb, hml, hr, hlk, hown, hts, hK, hf, hlo⟩ := id X
  exact lv_iushr hx hb hd rfl (k l D C ad p ev R s m args below meth c A0 H locs ls X hA Y hl)
theorem a_lushr {x : Int64} {y : Int32} (hd : decode M.2.1 pc = .ok (.lushr, 1)) (k : A e M (pc + 1) loc (.long (ushrL x y) :: stk) σ r τ) : A e M pc loc (.int y :: .long x :: stk) σ r τ := by
  intro l D C ad p ev R s m args below meth c A0 H locs ls X hA Y hl
  obtain ⟨hx, hb, hml, hr, hlk, hown, hts, hK, hf, hlo⟩ := id X
  exact lv_lushr hx hb hd rfl (k l D C ad p ev R s m args below meth c A0 H locs ls X hA Y hl)
theorem a_lshl {x : Int64} {y : Int32} (hd : decode M.2.1 pc = .ok (.lshl, 1)) (k : A e M (pc + 1) loc (.long (x <<< (y.toInt64 &&& 63)) :: stk) σ r τ) : A e M pc loc (.int y :: .long x :: stk) σ r τ := by
  intro l D C ad p ev R s m args below meth c A0 H locs ls X hA Y hl
  obtain ⟨hx, hb, hml, hr, hlk, hown, hts, hK, hf, hlo⟩ := id X
  exact lv_lshl hx hb hd rfl (k l D C ad p ev R s m args below meth c A0 H locs ls X hA Y hl)
theorem a_lcmp {x y : Int64} (hd : decode M.2.1 pc = .ok (.lcmp, 1)) (k : A e M (pc + 1) loc (.int (lg_cmp x y) :: stk) σ r τ) : A e M pc loc (.long y :: .long x :: stk) σ r τ := by
  intro l D C ad p ev R s m args below meth c A0 H locs ls X hA Y hl
  obtain ⟨hx, hb, hml, hr, hlk, hown, hts, hK, hf, hlo⟩ := id X
  exact W.lcmp hx hb hd (k l D C ad p ev R s m args below meth c A0 H locs ls X hA Y hl)
theorem a_dup {v : Value} (hc : v.category = 1) (hd : decode M.2.1 pc = .ok (.dup, 1)) (k : A e M (pc + 1) loc (v :: v :: stk) σ r τ) : A e M pc loc (v :: stk) σ r τ := by
  intro l D C ad p ev R s m args below meth c A0 H locs ls X hA Y hl
  obtain ⟨hx, hb, hml, hr, hlk, hown, hts, hK, hf, hlo⟩ := id X
  exact lv_dup hx hb hd (by rw [rv_cat]; exact hc) (k l D C ad p ev R s m args below meth c A0 H locs ls X hA Y hl)
theorem a_pop {v : Value} (hc : v.category = 1) (hd : decode M.2.1 pc = .ok (.pop, 1)) (k : A e M (pc + 1) loc (stk) σ r τ) : A e M pc loc (v :: stk) σ r τ := by
  intro l D C ad p ev R s m args below meth c A0 H locs ls X hA Y hl
  obtain ⟨hx, hb, hml, hr, hlk, hown, hts, hK, hf, hlo⟩ := id X
  exact lv_pop hx hb hd (by rw [rv_cat]; exact hc) (k l D C ad p ev R s m args below meth c A0 H locs ls X hA Y hl)
theorem a_dup_x1 {v w : Value} (hc : v.category = 1) (hw : w.category = 1) (hd : decode M.2.1 pc = .ok (.dup_x1, 1)) (k : A e M (pc + 1) loc (v :: w :: v :: stk) σ r τ) : A e M pc loc (v :: w :: stk) σ r τ := by
  intro l D C ad p ev R s m args below meth c A0 H locs ls X hA Y hl
  obtain ⟨hx, hb, hml, hr, hlk, hown, hts, hK, hf, hlo⟩ := id X
  exact lv_dup_x1 hx hb hd (by rw [rv_cat]; exact hc) (by rw [rv_cat]; exact hw) (k l D C ad p ev R s m args below meth c A0 H locs ls X hA Y hl)
theorem a_dup2 {v w : Value} (hc : v.category = 1) (hw : w.category = 1) (hd : decode M.2.1 pc = .ok (.dup2, 1)) (k : A e M (pc + 1) loc (v :: w :: v :: w :: stk) σ r τ) : A e M pc loc (v :: w :: stk) σ r τ := by
  intro l D C ad p ev R s m args below meth c A0 H locs ls X hA Y hl
  obtain ⟨hx, hb, hml, hr, hlk, hown, hts, hK, hf, hlo⟩ := id X
  exact lv_dup2_11 hx hb hd (by rw [rv_cat]; exact hc) (by rw [rv_cat]; exact hw) (k l D C ad p ev R s m args below meth c A0 H locs ls X hA Y hl)
theorem a_pop2 {v : Value} (hc : v.category = 2) (hd : decode M.2.1 pc = .ok (.pop2, 1)) (k : A e M (pc + 1) loc (stk) σ r τ) : A e M pc loc (v :: stk) σ r τ := by
  intro l D C ad p ev R s m args below meth c A0 H locs ls X hA Y hl
  obtain ⟨hx, hb, hml, hr, hlk, hown, hts, hK, hf, hlo⟩ := id X
  exact lv_pop2_2 hx hb hd (by rw [rv_cat]; exact hc) (k l D C ad p ev R s m args below meth c A0 H locs ls X hA Y hl)
theorem a_if_eq_t {x : Int32} {off : Int} (tgt : Nat) (hd : decode M.2.1 pc = .ok (.ifCond .eq off, 3)) (ht : (pc : Int) + off = (tgt : Int)) (h : x = 0) (k : A e M (tgt) loc (stk) σ r τ) : A e M pc loc (.int x :: stk) σ r τ := by
  intro l D C ad p ev R s m args below meth c A0 H locs ls X hA Y hl
  obtain ⟨hx, hb, hml, hr, hlk, hown, hts, hK, hf, hlo⟩ := id X
  exact lv_if_eq hx hb hd ht (fun _ => k l D C ad p ev R s m args below meth c A0 H locs ls X hA Y hl) (fun z => by first | exact absurd h z | exact absurd z h)
theorem a_if_eq_f {x : Int32} {off : Int} (tgt : Nat) (hd : decode M.2.1 pc = .ok (.ifCond .eq off, 3)) (ht : (pc : Int) + off = (tgt : Int)) (h : ¬ x = 0) (k : A e M (pc + 3) loc (stk) σ r τ) : A e M pc loc (.int x :: stk) σ r τ := by
  intro l D C ad p ev R s m args below meth c A0 H locs ls X hA Y hl
  obtain ⟨hx, hb, hml, hr, hlk, hown, hts, hK, hf, hlo⟩ := id X
  exact lv_if_eq hx hb hd ht (fun z => by first | exact absurd h z | exact absurd z h) (fun _ => k l D C ad p ev R s m args below meth c A0 H locs ls X hA Y hl)
theorem a_icmp_eq_t {x y : Int32} {off : Int} (tgt : Nat) (hd : decode M.2.1 pc = .ok (.if_icmp .eq off, 3)) (ht : (pc : Int) + off = (tgt : Int)) (h : x = y) (k : A e M (tgt) loc (stk) σ r τ) : A e M pc loc (.int y :: .int x :: stk) σ r τ := by
  intro l D C ad p ev R s m args below meth c A0 H locs ls X hA Y hl
  obtain ⟨hx, hb, hml, hr, hlk, hown, hts, hK, hf, hlo⟩ := id X
  exact lv_icmp_eq hx hb hd ht (fun _ => k l D C ad p ev R s m args below meth c A0 H locs ls X hA Y hl) (fun z => by first | exact absurd h z | exact absurd z h)
theorem a_icmp_eq_f {x y : Int32} {off : Int} (tgt : Nat) (hd : decode M.2.1 pc = .ok (.if_icmp .eq off, 3)) (ht : (pc : Int) + off = (tgt : Int)) (h : ¬ x = y) (k : A e M (pc + 3) loc (stk) σ r τ) : A e M pc loc (.int y :: .int x :: stk) σ r τ := by
  intro l D C ad p ev R s m args below meth c A0 H locs ls X hA Y hl
  obtain ⟨hx, hb, hml, hr, hlk, hown, hts, hK, hf, hlo⟩ := id X
  exact lv_icmp_eq hx hb hd ht (fun z => by first | exact absurd h z | exact absurd z h) (fun _ => k l D C ad p ev R s m args below meth c A0 H locs ls X hA Y hl)
theorem a_if_ne_t {x : Int32} {off : Int} (tgt : Nat) (hd : decode M.2.1 pc = .ok (.ifCond .ne off, 3)) (ht : (pc : Int) + off = (tgt : Int)) (h : ¬ x = 0) (k : A e M (tgt) loc (stk) σ r τ) : A e M pc loc (.int x :: stk) σ r τ := by
  intro l D C ad p ev R s m args below meth c A0 H locs ls X hA Y hl
  obtain ⟨hx, hb, hml, hr, hlk, hown, hts, hK, hf, hlo⟩ := id X
  exact lv_if_ne hx hb hd ht (fun _ => k l D C ad p ev R s m args below meth c A0 H locs ls X hA Y hl) (fun z => by first | exact absurd h z | exact absurd z h)
theorem a_if_ne_f {x : Int32} {off : Int} (tgt : Nat) (hd : decode M.2.1 pc = .ok (.ifCond .ne off, 3)) (ht : (pc : Int) + off = (tgt : Int)) (h : x = 0) (k : A e M (pc + 3) loc (stk) σ r τ) : A e M pc loc (.int x :: stk) σ r τ := by
  intro l D C ad p ev R s m args below meth c A0 H locs ls X hA Y hl
  obtain ⟨hx, hb, hml, hr, hlk, hown, hts, hK, hf, hlo⟩ := id X
  exact lv_if_ne hx hb hd ht (fun z => by first | exact absurd h z | exact absurd z h) (fun _ => k l D C ad p ev R s m args below meth c A0 H locs ls X hA Y hl)
theorem a_icmp_ne_t {x y : Int32} {off : Int} (tgt : Nat) (hd : decode M.2.1 pc = .ok (.if_icmp .ne off, 3)) (ht : (pc : Int) + off = (tgt : Int)) (h : ¬ x = y) (k : A e M (tgt) loc (stk) σ r τ) : A e M pc loc (.int y :: .int x :: stk) σ r τ := by
  intro l D C ad p ev R s m args below meth c A0 H locs ls X hA Y hl
  obtain ⟨hx, hb, hml, hr, hlk, hown, hts, hK, hf, hlo⟩ := id X
  exact lv_icmp_ne hx hb hd ht (fun _ => k l D C ad p ev R s m args below meth c A0 H locs ls X hA Y hl) (fun z => by first | exact absurd h z | exact absurd z h)
theorem a_icmp_ne_f {x y : Int32} {off : Int} (tgt : Nat) (hd : decode M.2.1 pc = .ok (.if_icmp .ne off, 3)) (ht : (pc : Int) + off = (tgt : Int)) (h : x = y) (k : A e M (pc + 3) loc (stk) σ r τ) : A e M pc loc (.int y :: .int x :: stk) σ r τ := by
  intro l D C ad p ev R s m args below meth c A0 H locs ls X hA Y hl
  obtain ⟨hx, hb, hml, hr, hlk, hown, hts, hK, hf, hlo⟩ := id X
  exact lv_icmp_ne hx hb hd ht (fun z => by first | exact absurd h z | exact absurd z h) (fun _ => k l D C ad p ev R s m args below meth c A0 H locs ls X hA Y hl)
theorem a_if_lt_t {x : Int32} {off : Int} (tgt : Nat) (hd : decode M.2.1 pc = .ok (.ifCond .lt off, 3)) (ht : (pc : Int) + off = (tgt : Int)) (h : x < 0) (k : A e M (tgt) loc (stk) σ r τ) : A e M pc loc (.int x :: stk) σ r τ := by
  intro l D C ad p ev R s m args below meth c A0 H locs ls X hA Y hl
  obtain ⟨hx, hb, hml, hr, hlk, hown, hts, hK, hf, hlo⟩ := id X
  exact lv_if_lt hx hb hd ht (fun _ => k l D C ad p ev R s m args below meth c A0 H locs ls X hA Y hl) (fun z => by first | exact absurd h z | exact absurd z h)
theorem a_if_lt_f {x : Int32} {off : Int} (tgt : Nat) (hd : decode M.2.1 pc = .ok (.ifCond .lt off, 3)) (ht : (pc : Int) + off = (tgt : Int)) (h : ¬ x < 0) (k : A e M (pc + 3) loc (stk) σ r τ) : A e M pc loc (.int x :: stk) σ r τ := by
  intro l D C ad p ev R s m args below meth c A0 H locs ls X hA Y hl
  obtain ⟨hx, hb, hml, hr, hlk, hown, hts, hK, hf, hlo⟩ := id X
  exact lv_if_lt hx hb hd ht (fun z => by first | exact absurd h z | exact absurd z h) (fun _ => k l D C ad p ev R s m args below meth c A0 H locs ls X hA Y hl)
theorem a_icmp_lt_t {x y : Int32} {off : Int} (tgt : Nat) (hd : decode M.2.1 pc = .ok (.if_icmp .lt off, 3)) (ht : (pc : Int) + off = (tgt : Int)) (h : x < y) (k : A e M (tgt) loc (stk) σ r τ) : A e M pc loc (.int y :: .int x :: stk) σ r τ := by
  intro l D C ad p ev R s m args below meth c A0 H locs ls X hA Y hl
  obtain ⟨hx, hb, hml, hr, hlk, hown, hts, hK, hf, hlo⟩ := id X
  exact lv_icmp_lt hx hb hd ht (fun _ => k l D C ad p ev R s m args below meth c A0 H locs ls X hA Y hl) (fun z => by first | exact absurd h z | exact absurd z h)
theorem a_icmp_lt_f {x y : Int32} {off : Int} (tgt : Nat) (hd : decode M.2.1 pc = .ok (.if_icmp .lt off, 3)) (ht : (pc : Int) + off = (tgt : Int)) (h : ¬ x < y) (k : A e M (pc + 3) loc (stk) σ r τ) : A e M pc loc (.int y :: .int x :: stk) σ r τ := by
  intro l D C ad p ev R s m args below meth c A0 H locs ls X hA Y hl
  obtain ⟨hx, hb, hml, hr, hlk, hown, hts, hK, hf, hlo⟩ := id X
  exact lv_icmp_lt hx hb hd ht (fun z => by first | exact absurd h z | exact absurd z h) (fun _ => k l D C ad p ev R s m args below meth c A0 H locs ls X hA Y hl)
theorem a_if_ge_t {x : Int32} {off : Int} (tgt : Nat) (hd : decode M.2.1 pc = .ok (.ifCond .ge off, 3)) (ht : (pc : Int) + off = (tgt : Int)) (h : 0 ≤ x) (k : A e M (tgt) loc (stk) σ r τ) : A e M pc loc (.int x :: stk) σ r τ := by
  intro l D C ad p ev R s m args below meth c A0 H locs ls X hA Y hl
  obtain ⟨hx, hb, hml, hr, hlk, hown, hts, hK, hf, hlo⟩ := id X
  exact lv_if_ge hx hb hd ht (fun _ => k l D C ad p ev R s m args below meth c A0 H locs ls X hA Y hl) (fun z => by first | exact absurd h z | exact absurd z h)
theorem a_if_ge_f {x : Int32} {off : Int} (tgt : Nat) (hd : decode M.2.1 pc = .ok (.ifCond .ge off, 3)) (ht : (pc : Int) + off = (tgt : Int)) (h : ¬ 0 ≤ x) (k : A e M (pc + 3) loc (stk) σ r τ) : A e M pc loc (.int x :: stk) σ r τ := by
  intro l D C ad p ev R s m args below meth c A0 H locs ls X hA Y hl
  obtain ⟨hx, hb, hml, hr, hlk, hown, hts, hK, hf, hlo⟩ := id X
  exact lv_if_ge hx hb hd ht (fun z => by first | exact absurd h z | exact absurd z h) (fun _ => k l D C ad p ev R s m args below meth c A0 H locs ls X hA Y hl)
theorem a_icmp_ge_t {x y : Int32} {off : Int} (tgt : Nat) (hd : decode M.2.1 pc = .ok (.if_icmp .ge off, 3)) (ht : (pc : Int) + off = (tgt : Int)) (h : y ≤ x) (k : A e M (tgt) loc (stk) σ r τ) : A e M pc loc (.int y :: .int x :: stk) σ r τ := by
  intro l D C ad p ev R s m args below meth c A0 H locs ls X hA Y hl
  obtain ⟨hx, hb, hml, hr, hlk, hown, hts, hK, hf, hlo⟩ := id X
  exact lv_icmp_ge hx hb hd ht (fun _ => k l D C ad p ev R s m args below meth c A0 H locs ls X hA Y hl) (fun z => by first | exact absurd h z | exact absurd z h)
theorem a_icmp_ge_f {x y : Int32} {off : Int} (tgt : Nat) (hd : decode M.2.1 pc = .ok (.if_icmp .ge off, 3)) (ht : (pc : Int) + off = (tgt : Int)) (h : ¬ y ≤ x) (k : A e M (pc + 3) loc (stk) σ r τ) : A e M pc loc (.int y :: .int x :: stk) σ r τ := by
  intro l D C ad p ev R s m args below meth c A0 H locs ls X hA Y hl
  obtain ⟨hx, hb, hml, hr, hlk, hown, hts, hK, hf, hlo⟩ := id X
  exact lv_icmp_ge hx hb hd ht (fun z => by first | exact absurd h z | exact absurd z h) (fun _ => k l D C ad p ev R s m args below meth c A0 H locs ls X hA Y hl)
theorem a_if_gt_t {x : Int32} {off : Int} (tgt : Nat) (hd : decode M.2.1 pc = .ok (.ifCond .gt off, 3)) (ht : (pc : Int) + off = (tgt : Int)) (h : 0 < x) (k : A e M (tgt) loc (stk) σ r τ) : A e M pc loc (.int x :: stk) σ r τ := by
  intro l D C ad p ev R s m args below meth c A0 H locs ls X hA Y hl
  obtain ⟨hx, hb, hml, hr, hlk, hown, hts, hK, hf, hlo⟩ := id X
  exact lv_if_gt hx hb hd ht (fun _ => k l D C ad p ev R s m args below meth c A0 H locs ls X hA Y hl) (fun z => by first | exact absurd h z | exact absurd z h)
theorem a_if_gt_f {x : Int32} {off : Int} (tgt : Nat) (hd : decode M.2.1 pc = .ok (.ifCond .gt off, 3)) (ht : (pc : Int) + off = (tgt : Int)) (h : ¬ 0 < x) (k : A e M (pc + 3) loc (stk) σ r τ) : A e M pc loc (.int x :: stk) σ r τ := by
  intro l D C ad p ev R s m args below meth c A0 H locs ls X hA Y hl
  obtain ⟨hx, hb, hml, hr, hlk, hown, hts, hK, hf, hlo⟩ := id X
  exact lv_if_gt hx hb hd ht (fun z => by first | exact absurd h z | exact absurd z h) (fun _ => k l D C ad p ev R s m args below meth c A0 H locs ls X hA Y hl)
theorem a_icmp_gt_t {x y : Int32} {off : Int} (tgt : Nat) (hd : decode M.2.1 pc = .ok (.if_icmp .gt off, 3)) (ht : (pc : Int) + off = (tgt : Int)) (h : y < x) (k : A e M (tgt) loc (stk) σ r τ) : A e M pc loc (.int y :: .int x :: stk) σ r τ := by
  intro l D C ad p ev R s m args below meth c A0 H locs ls X hA Y hl
  obtain ⟨hx, hb, hml, hr, hlk, hown, hts, hK, hf, hlo⟩ := id X
  exact lv_icmp_gt hx hb hd ht (fun _ => k l D C ad p ev R s m args below meth c A0 H locs ls X hA Y hl) (fun z => by first | exact absurd h z | exact absurd z h)
theorem a_icmp_gt_f {x y : Int32} {off : Int} (tgt : Nat) (hd : decode M.2.1 pc = .ok (.if_icmp .gt off, 3)) (ht : (pc : Int) + off = (tgt : Int)) (h : ¬ y < x) (k : A e M (pc + 3) loc (stk) σ r τ) : A e M pc loc (.int y :: .int x :: stk) σ r τ := by
  intro l D C ad p ev R s m args below meth c A0 H locs ls X hA Y hl
  obtain ⟨hx, hb, hml, hr, hlk, hown, hts, hK, hf, hlo⟩ := id X
  exact lv_icmp_gt hx hb hd ht (fun z => by first | exact absurd h z | exact absurd z h) (fun _ => k l D C ad p ev R s m args below meth c A0 H locs ls X hA Y hl)
theorem a_if_le_t {x : Int32} {off : Int} (tgt : Nat) (hd : decode M.2.1 pc = .ok (.ifCond .le off, 3)) (ht : (pc : Int) + off = (tgt : Int)) (h : x ≤ 0) (k : A e M (tgt) loc (stk) σ r τ) : A e M pc loc (.int x :: stk) σ r τ := by
  intro l D C ad p ev R s m args below meth c A0 H locs ls X hA Y hl
  obtain ⟨hx, hb, hml, hr, hlk, hown, hts, hK, hf, hlo⟩ := id X
  exact lv_if_le hx hb hd ht (fun _ => k l D C ad p ev R s m args below meth c A0 H locs ls X hA Y hl) (fun z => by first | exact absurd h z | exact absurd z h)
theorem a_if_le_f {x : Int32} {off : Int} (tgt : Nat) (hd : decode M.2.1 pc = .ok (.ifCond .le off, 3)) (ht : (pc : Int) + off = (tgt : Int)) (h : ¬ x ≤ 0) (k : A e M (pc + 3) loc (stk) σ r τ) : A e M pc loc (.int x :: stk) σ r τ := by
  intro l D C ad p ev R s m args below meth c A0 H locs ls X hA Y hl
  obtain ⟨hx, hb, hml, hr, hlk, hown, hts, hK, hf, hlo⟩ := id X
  exact lv_if_le hx hb hd ht (fun z => by first | exact absurd h z | exact absurd z h) (fun _ => k l D C ad p ev R s m args below meth c A0 H locs ls X hA Y hl)
theorem a_icmp_le_t {x y : Int32} {off : Int} (tgt : Nat) (hd : decode M.2.1 pc = .ok (.if_icmp .le off, 3)) (ht : (pc : Int) + off = (tgt : Int)) (h : x ≤ y) (k : A e M (tgt) loc (stk) σ r τ) : A e M pc loc (.int y :: .int x :: stk) σ r τ := by
  intro l D C ad p ev R s m args below meth c A0 H locs ls X hA Y hl
  obtain ⟨hx, hb, hml, hr, hlk, hown, hts, hK, hf, hlo⟩ := id X
  exact lv_icmp_le hx hb hd ht (fun _ => k l D C ad p ev R s m args below meth c A0 H locs ls X hA Y hl) (fun z => by first | exact absurd h z | exact absurd z h)
theorem a_icmp_le_f {x y : Int32} {off : Int} (tgt : Nat) (hd : decode M.2.1 pc = .ok (.if_icmp .le off, 3)) (ht : (pc : Int) + off = (tgt : Int)) (h : ¬ x ≤ y) (k : A e M (pc + 3) loc (stk) σ r τ) : A e M pc loc (.int y :: .int x :: stk) σ r τ := by
  intro l D C ad p ev R s m args below meth c A0 H locs ls X hA Y hl
  obtain ⟨hx, hb, hml, hr, hlk, hown, hts, hK, hf, hlo⟩ := id X
  exact lv_icmp_le hx hb hd ht (fun z => by first | exact absurd h z | exact absurd z h) (fun _ => k l D C ad p ev R s m args below meth c A0 H locs ls X hA Y hl)
theorem a_goto {off : Int} (tgt : Nat) (hd : decode M.2.1 pc = .ok (.goto off, 3)) (ht : (pc : Int) + off = (tgt : Int)) (k : A e M (tgt) loc (stk) σ r τ) : A e M pc loc (stk) σ r τ := by
  intro l D C ad p ev R s m args below meth c A0 H locs ls X hA Y hl
  obtain ⟨hx, hb, hml, hr, hlk, hown, hts, hK, hf, hlo⟩ := id X
  exact lv_goto hx hb hd ht (k l D C ad p ev R s m args below meth c A0 H locs ls X hA Y hl)
theorem a_ifnull_r {x : Nat} {off : Int} (hd : decode M.2.1 pc = .ok (.ifnull off, 3)) (k : A e M (pc + 3) loc (stk) σ r τ) : A e M pc loc (.ref x :: stk) σ r τ := by
  intro l D C ad p ev R s m args below meth c A0 H locs ls X hA Y hl
  obtain ⟨hx, hb, hml, hr, hlk, hown, hts, hK, hf, hlo⟩ := id X
  exact lv_ifnull hx hb hd (k l D C ad p ev R s m args below meth c A0 H locs ls X hA Y hl)
theorem a_ifnonnull_r {x : Nat} {off : Int} (tgt : Nat) (hd : decode M.2.1 pc = .ok (.ifnonnull off, 3)) (ht : (pc : Int) + off = (tgt : Int)) (k : A e M (tgt) loc (stk) σ r τ) : A e M pc loc (.ref x :: stk) σ r τ := by
  intro l D C ad p ev R s m args below meth c A0 H locs ls X hA Y hl
  obtain ⟨hx, hb, hml, hr, hlk, hown, hts, hK, hf, hlo⟩ := id X
  exact lv_ifnonnull hx hb hd ht (k l D C ad p ev R s m args below meth c A0 H locs ls X hA Y hl)
theorem a_ifnull_n {off : Int} (tgt : Nat) (hd : decode M.2.1 pc = .ok (.ifnull off, 3)) (ht : (pc : Int) + off = (tgt : Int)) (k : A e M (tgt) loc (stk) σ r τ) : A e M pc loc (.null :: stk) σ r τ := by
  intro l D C ad p ev R s m args below meth c A0 H locs ls X hA Y hl
  obtain ⟨hx, hb, hml, hr, hlk, hown, hts, hK, hf, hlo⟩ := id X
  exact lv_ifnullN hx hb hd ht (k l D C ad p ev R s m args below meth c A0 H locs ls X hA Y hl)
theorem a_ifnonnull_n {off : Int} (hd : decode M.2.1 pc = .ok (.ifnonnull off, 3)) (k : A e M (pc + 3) loc (stk) σ r τ) : A e M pc loc (.null :: stk) σ r τ := by
  intro l D C ad p ev R s m args below meth c A0 H locs ls X hA Y hl
  obtain ⟨hx, hb, hml, hr, hlk, hown, hts, hK, hf, hlo⟩ := id X
  exact lv_ifnonnullN hx hb hd (k l D C ad p ev R s m args below meth c A0 H locs ls X hA Y hl)
theorem a_tabOut {x : Int32} {dflt lo hi : Int} {offs : Array Int} {len : Nat} (tgt : Nat) (hd : decode M.2.1 pc = .ok (.tableswitch dflt lo hi offs, len)) (h : x.toInt < lo ∨ hi < x.toInt) (ht : (pc : Int) + dflt = (tgt : Int)) (k : A e M (tgt) loc (stk) σ r τ) : A e M pc loc (.int x :: stk) σ r τ := by
  intro l D C ad p ev R s m args below meth c A0 H locs ls X hA Y hl
  obtain ⟨hx, hb, hml, hr, hlk, hown, hts, hK, hf, hlo⟩ := id X
  exact lv_tableOut hx hb hd h ht (k l D C ad p ev R s m args below meth c A0 H locs ls X hA Y hl)
theorem a_tabIn {x : Int32} {dflt lo hi off : Int} {offs : Array Int} {len : Nat} (v : Int32) (tgt : Nat) (hd : decode M.2.1 pc = .ok (.tableswitch dflt lo hi offs, len)) (h : x = v) (h1 : ¬ v.toInt < lo) (h2 : ¬ hi < v.toInt) (ho : offs[(v.toInt - lo).toNat]? = some off) (ht : (pc : Int) + off = (tgt : Int)) (k : A e M (tgt) loc (stk) σ r τ) : A e M pc loc (.int x :: stk) σ r τ := by
  intro l D C ad p ev R s m args below meth c A0 H locs ls X hA Y hl
  obtain ⟨hx, hb, hml, hr, hlk, hown, hts, hK, hf, hlo⟩ := id X
  subst h
  exact lv_tableIn hx hb hd h1 h2 ho ht (k l D C ad p ev R s m args below meth c A0 H locs ls X hA Y hl)
theorem a_top {v w : Value} (h : v = w) (k : A e M (pc) loc (w :: stk) σ r τ) : A e M pc loc (v :: stk) σ r τ := by
  intro l D C ad p ev R s m args below meth c A0 H locs ls X hA Y hl
  obtain ⟨hx, hb, hml, hr, hlk, hown, hts, hK, hf, hlo⟩ := id X
  subst h
  exact k l D C ad p ev R s m args below meth c A0 H locs ls X hA Y hl
theorem a_iret {v : Int32} (hM : M.2.2.2 = some .int) (hd : decode M.2.1 pc = .ok (.ireturn, 1)) : A e M pc loc [.int v] τ (some (.int v)) τ := by
  intro l D C ad p ev R s m args below meth c A0 H locs ls X hA Y hl
  obtain ⟨hx, hb, hml, hr, hlk, hown, hts, hK, hf, hlo⟩ := id X
  exact W.iret hx hb (by rw [hr, hM]) (fun t ht hW => ⟨⟨rfl, by rw [ht]; exact Y.1, aK.warm hW hK, Y.2.1⟩, Y.2.2.F ht⟩) Y.2.2.2.2 hd hlk
theorem a_zret {v : Int32} (hM : M.2.2.2 = some .boolean) (hv : v = 0 ∨ v = 1) (hd : decode M.2.1 pc = .ok (.ireturn, 1)) : A e M pc loc [.int v] τ (some (.int v)) τ := by
  intro l D C ad p ev R s m args below meth c A0 H locs ls X hA Y hl
  obtain ⟨hx, hb, hml, hr, hlk, hown, hts, hK, hf, hlo⟩ := id X
  exact W.zret hx hb (by rw [hr, hM]) (by rcases hv with rfl | rfl <;> rfl) (fun t ht hW => ⟨⟨rfl, by rw [ht]; exact Y.1, aK.warm hW hK, Y.2.1⟩, Y.2.2.F ht⟩) Y.2.2.2.2 hd hlk
theorem a_lret {v : Int64} (hM : M.2.2.2 = some .long) (hd : decode M.2.1 pc = .ok (.lreturn, 1)) : A e M pc loc [.long v] τ (some (.long v)) τ := by
  intro l D C ad p ev R s m args below meth c A0 H locs ls X hA Y hl
  obtain ⟨hx, hb, hml, hr, hlk, hown, hts, hK, hf, hlo⟩ := id X
  exact W.lret hx hb (by rw [hr, hM]) (fun t ht hW => ⟨⟨rfl, by rw [ht]; exact Y.1, aK.warm hW hK, Y.2.1⟩, Y.2.2.F ht⟩) Y.2.2.2.2 hd (hlocks := hlk)
theorem a_vret (hM : M.2.2.2 = none) (hd : decode M.2.1 pc = .ok (.return_, 1)) : A e M pc loc [] τ none τ := by
  intro l D C ad p ev R s m args below meth c A0 H locs ls X hA Y hl
  obtain ⟨hx, hb, hml, hr, hlk, hown, hts, hK, hf, hlo⟩ := id X
  exact W.vret hx hb (by rw [hr, hM]) (fun t ht hW => ⟨⟨rfl, by rw [ht]; exact Y.1, aK.warm hW hK, Y.2.1⟩, Y.2.2.F ht⟩) Y.2.2.2.2 hd hlk
end AR
end
section
section AH
variable {e : Nat} {M : MI} {pc : Nat} {loc loc' : List (Nat × Value)} {stk : List Value} {σ τ : St} {r : Option Value}
/-- a field link of class own at the place ix: slot k of the class of number ci -/
def FL (own : String) (ix ci k : Nat) : Prop := ∃ (C : String) (T : u_T) (N : Nat), vwCl[ci]? = some (C, T, N) ∧ k < N ∧ (T k).1 = C ∧ Cond.fieldLink own ix C (T k).2.1 (T k).2.2.1 ∈ aT ∧ (∀ w ∈ u_ws C T N, w ∈ aT)
/-- the same, of a field that may be written -/
def tyOf : Nat → FieldType
  | 1 => .long
  | 3 => .boolean
  | _ => .int
def FP (own : String) (ix ci k : Nat) : Prop := ∃ (C : String) (T : u_T) (N : Nat) (ty0 : Nat → FieldType), vwCl[ci]? = some (C, T, N) ∧ k < N ∧ (T k).1 = C ∧ Cond.fieldLink own ix C (T k).2.1 (T k).2.2.1 ∈ aT ∧ (∀ w ∈ u_ws C T N, w ∈ aT) ∧
  (∀ k, k < N → parseFieldDescriptor (T k).2.2.1 = some (ty0 k)) ∧ (∀ a, a < N → ∀ b, b < N → a ≠ b → (T a).2.1 ≠ (T b).2.1) ∧ (T k).2.2.2 = false ∧ parseFieldDescriptor (T k).2.2.1 = some (tyOf (sty ci k))
/-- cell i is an object of the class of number ci, of n slots; an array of n places of ints, longs, GIFTS -/
def OB (i ci n : Nat) : Prop := i < NN ∧ kd i = 1 ∧ cl i = ci ∧ nsl i = n
def IA (i n : Nat) : Prop := i < NN ∧ kd i = 2 ∧ nsl i = n
def LA (i n : Nat) : Prop := i < NN ∧ kd i = 3 ∧ nsl i = n
def GA (i n : Nat) : Prop := i < NN ∧ kd i = 4 ∧ nsl i = n
theorem a_get {i k ix n ci : Nat} (v : Value) (ho : OB i ci n) (hkn : k < n) (hf : FL M.1.cls ix ci k) (hv : av σ i k = v) (hd : decode M.2.1 pc = .ok (.getfield ix, 3)) (kk : A e M (pc + 3) loc (v :: stk) σ r τ) : A e M pc loc (.ref i :: stk) σ r τ := by
  intro l D C ad p ev R s m args below meth c A0 H locs ls X hA Y hl
  obtain ⟨hx, hb, hml, hr, hlk, hown, hts, hK, -, -⟩ := id X
  obtain ⟨Cn, T, N, h1, h2, h3, h4, h5⟩ := hf
  obtain ⟨hi, hk, rfl, rfl⟩ := ho
  refine va_get (v := rv ad v) hx hb hts h5 hown hK.1 Y.1 i (wsE_at ad C σ hi |>.trans (by rw [cellE_1 ad C σ hk])) h1 k h2 (hts _ h4) (fun x hx => by rw [h3] at hx; exact hx) ?_ hd ?_
  · rw [List.getElem?_map, List.getElem?_range hkn, ← hv]; rfl
  · exact kk l D C ad p ev R s m args below meth c A0 H locs ls X hA Y hl
theorem fits_int (x : Int32) : fits .int (.int x) = true := rfl
theorem av_setI_self {i k : Nat} {x : Int32} (h : sty (cl i) k = 0 ∨ sty (cl i) k = 3) : av (setI σ i k x) i k = .int x := by
  rcases h with h | h <;> simp [av, h, setI]
theorem av_setI_ne {i k j : Nat} {x : Int32} (h : j ≠ k) : av (setI σ i k x) i j = av σ i j := by
  have e1 : (setI σ i k x).1 i j = σ.1 i j := by simp [setI, h]
  simp only [av, e1]; rfl
theorem av_setL_self {i k : Nat} {x : Int64} (h : sty (cl i) k = 1) : av (setL σ i k x) i k = .long x := by
  simp [av, h, setL]
theorem av_setL_ne {i k j : Nat} {x : Int64} (h : j ≠ k) : av (setL σ i k x) i j = av σ i j := by
  have e1 : (setL σ i k x).2 i j = σ.2 i j := by simp [setL, h]
  simp only [av, e1]; rfl
theorem range_set {n k : Nat} {ad : Nat → Nat} {f g : Nat → Value} {v : Value} (hk : k < n) (h1 : v = rv ad (g k)) (h2 : ∀ j, j ≠ k → g j = f j) : ((List.range n).map fun j => rv ad (f j)).set k v = (List.range n).map fun j => rv ad (g j) := by
  apply List.ext_getElem?
  intro j
  by_cases hj : j = k
  · subst hj
    rw [List.getElem?_set_self (by simpa using hk), List.getElem?_map, List.getElem?_range hk, h1]
    rfl
  · rw [List.getElem?_set_ne (Ne.symm hj), List.getElem?_map, List.getElem?_map]
    by_cases hl : j < n
    · rw [List.getElem?_range hl]
      simp [h2 j hj]
    · simp [List.getElem?_eq_none (by simp; omega : (List.range n).length ≤ j)]
theorem a_putI {i k ix n ci : Nat} {x : Int32} (ho : OB i ci n) (hkn : k < n) (hf : FP M.1.cls ix ci k) (hs : sty ci k = 0 ∨ (sty ci k = 3 ∧ (x = 0 ∨ x = 1))) (hd : decode M.2.1 pc = .ok (.putfield ix, 3)) (kk : A e M (pc + 3) loc stk (setI σ i k x) r τ) : A e M pc loc (.int x :: .ref i :: stk) σ r τ := by
  intro l D C ad p ev R s m args below meth c A0 H locs ls X hA Y hl
  obtain ⟨hx, hb, hml, hr, hlk, hown, hts, hK, -, -⟩ := id X
  obtain ⟨Cn, T, N, ty0, h1, h2, h3, h4, h5, h6, h7, h8, h9⟩ := hf
  obtain ⟨hi, hk, rfl, rfl⟩ := ho
  have hs2 : sty (cl i) k = 0 ∨ sty (cl i) k = 3 := by rcases hs with h | h; exact Or.inl h; exact Or.inr h.1
  have hnar : narrow (tyOf (sty (cl i) k)) (.int x) = .int x ∧ fits (tyOf (sty (cl i) k)) (.int x) = true := by
    rcases hs with h | ⟨h, rfl | rfl⟩ <;> rw [h] <;> exact ⟨rfl, rfl⟩
  refine va_put (ty := tyOf (sty (cl i) k)) hx hb hts h5 ty0 h6 h7 hown hK.1 Y.1 Y.2.1 Y.2.2 i (wsE_at ad C σ hi |>.trans (by rw [cellE_1 ad C σ hk])) h1 k h2 (hts _ h4) (fun x hx => by rw [h3] at hx; exact hx) h8 h9 hnar.1 hnar.2 (by simpa using hkn) hd (fun H1 locs1 q1 q2 q3 => ?_)
  have e1 := wsE_set ad C σ (setI σ i k x) hi (e := .inr (cl i, ((List.range (nsl i)).map fun j => rv ad (av σ i j)).set k (rv ad (.int x)))) (by
    rw [cellE_1 ad C _ hk, range_set hkn (g := av (setI σ i k x) i) (by rw [av_setI_self hs2]) (fun j hj => av_setI_ne hj)]) (fun j hj => cellE_setI_ne ad C σ hj)
  rw [e1] at q1 q2
  exact kk l D C ad p ev R s m args below meth c A0 H1 locs1 ls X hA ⟨q1, q2, q3⟩ hl
theorem a_putL {i k ix n ci : Nat} {x : Int64} (ho : OB i ci n) (hkn : k < n) (hf : FP M.1.cls ix ci k) (hs : sty ci k = 1) (hd : decode M.2.1 pc = .ok (.putfield ix, 3)) (kk : A e M (pc + 3) loc stk (setL σ i k x) r τ) : A e M pc loc (.long x :: .ref i :: stk) σ r τ := by
  intro l D C ad p ev R s m args below meth c A0 H locs ls X hA Y hl
  obtain ⟨hx, hb, hml, hr, hlk, hown, hts, hK, -, -⟩ := id X
  obtain ⟨Cn, T, N, ty0, h1, h2, h3, h4, h5, h6, h7, h8, h9⟩ := hf
  obtain ⟨hi, hk, rfl, rfl⟩ := ho
  rw [hs] at h9
  refine va_put (ty := .long) hx hb hts h5 ty0 h6 h7 hown hK.1 Y.1 Y.2.1 Y.2.2 i (wsE_at ad C σ hi |>.trans (by rw [cellE_1 ad C σ hk])) h1 k h2 (hts _ h4) (fun x hx => by rw [h3] at hx; exact hx) h8 h9 rfl rfl (by simpa using hkn) hd (fun H1 locs1 q1 q2 q3 => ?_)
  have e1 := wsE_set ad C σ (setL σ i k x) hi (e := .inr (cl i, ((List.range (nsl i)).map fun j => rv ad (av σ i j)).set k (rv ad (.long x)))) (by
    rw [cellE_1 ad C _ hk, range_set hkn (g := av (setL σ i k x) i) (by rw [av_setL_self hs]) (fun j hj => av_setL_ne hj)]) (fun j hj => cellE_setL_ne ad C σ hj)
  rw [e1] at q1 q2
  exact kk l D C ad p ev R s m args below meth c A0 H1 locs1 ls X hA ⟨q1, q2, q3⟩ hl
theorem a_iald {i n : Nat} {j : Int32} (ho : IA i n) (hb : inb j n = true) (hd : decode M.2.1 pc = .ok (.iaload, 1)) (kk : A e M (pc + 1) loc (.int (σ.1 i j.toNatClampNeg) :: stk) σ r τ) : A e M pc loc (.int j :: .ref i :: stk) σ r τ := by
  intro l D C ad p ev R s m args below meth c A0 H locs ls X hA Y hl
  obtain ⟨hx, hbb, hml, hr, hlk, hown, hts, hK, -, -⟩ := id X
  obtain ⟨hi, hk, rfl⟩ := ho
  exact va_iald hx hbb hK.1 Y.1 i 0 (wsE_at ad C σ hi |>.trans (by rw [cellE_2 ad C σ hk])) rfl (inb_vp hb) hd (kk l D C ad p ev R s m args below meth c A0 H locs ls X hA Y hl)
theorem a_lald {i n : Nat} {j : Int32} (ho : LA i n) (hb : inb j n = true) (hd : decode M.2.1 pc = .ok (.laload, 1)) (kk : A e M (pc + 1) loc (.long (σ.2 i j.toNatClampNeg) :: stk) σ r τ) : A e M pc loc (.int j :: .ref i :: stk) σ r τ := by
  intro l D C ad p ev R s m args below meth c A0 H locs ls X hA Y hl
  obtain ⟨hx, hbb, hml, hr, hlk, hown, hts, hK, -, -⟩ := id X
  obtain ⟨hi, hk, rfl⟩ := ho
  exact va_lald hx hbb hK.1 Y.1 i 1 (wsE_at ad C σ hi |>.trans (by rw [cellE_3 ad C σ hk])) rfl (inb_vp hb) hd (kk l D C ad p ev R s m args below meth c A0 H locs ls X hA Y hl)
theorem a_aald {i n : Nat} {j : Int32} (v : Nat) (ho : GA i n) (hb : inb j n = true) (hv : rfv i j.toNatClampNeg = v) (hd : decode M.2.1 pc = .ok (.aaload, 1)) (kk : A e M (pc + 1) loc (.ref v :: stk) σ r τ) : A e M pc loc (.int j :: .ref i :: stk) σ r τ := by
  intro l D C ad p ev R s m args below meth c A0 H locs ls X hA Y hl
  obtain ⟨hx, hbb, hml, hr, hlk, hown, hts, hK, -, -⟩ := id X
  obtain ⟨hi, hk, rfl⟩ := ho; subst hv
  exact va_aldq (f := fun j => some (ad (rfv i j))) hx hbb hK.1 Y.1 i 2 (wsE_at ad C σ hi |>.trans (by rw [cellE_4 ad C σ hk])) rfl (inb_vp hb) hd (kk l D C ad p ev R s m args below meth c A0 H locs ls X hA Y hl)
theorem a_iast {i n : Nat} {j x : Int32} (ho : IA i n) (hb : inb j n = true) (hd : decode M.2.1 pc = .ok (.iastore, 1)) (kk : A e M (pc + 1) loc stk (setI σ i j.toNatClampNeg x) r τ) : A e M pc loc (.int x :: .int j :: .ref i :: stk) σ r τ := by
  intro l D C ad p ev R s m args below meth c A0 H locs ls X hA Y hl
  obtain ⟨hx, hbb, hml, hr, hlk, hown, hts, hK, -, -⟩ := id X
  obtain ⟨hi, hk, rfl⟩ := ho
  refine va_iast hx hbb hK.1 Y.1 Y.2.1 Y.2.2 i 0 (wsE_at ad C σ hi |>.trans (by rw [cellE_2 ad C σ hk])) rfl (inb_vp hb) hd (fun H1 locs1 q1 q2 q3 => ?_)
  have e1 := wsE_set ad C σ (setI σ i j.toNatClampNeg x) hi (e := .inl (C.1, (nsl i, .inl (upd (σ.1 i) j.toNatClampNeg x)))) (by
    rw [cellE_2 ad C _ hk]
    congr 4
    funext b
    simp [setI, upd]) (fun j hj => cellE_setI_ne ad C σ hj)
  rw [e1] at q1 q2
  exact kk l D C ad p ev R s m args below meth c A0 H1 locs1 ls X hA ⟨q1, q2, q3⟩ hl
theorem a_last {i n : Nat} {j : Int32} {x : Int64} (ho : LA i n) (hb : inb j n = true) (hd : decode M.2.1 pc = .ok (.lastore, 1)) (kk : A e M (pc + 1) loc stk (setL σ i j.toNatClampNeg x) r τ) : A e M pc loc (.long x :: .int j :: .ref i :: stk) σ r τ := by
  intro l D C ad p ev R s m args below meth c A0 H locs ls X hA Y hl
  obtain ⟨hx, hbb, hml, hr, hlk, hown, hts, hK, -, -⟩ := id X
  obtain ⟨hi, hk, rfl⟩ := ho
  refine va_last hx hbb hK.1 Y.1 Y.2.1 Y.2.2 i 1 (wsE_at ad C σ hi |>.trans (by rw [cellE_3 ad C σ hk])) rfl (inb_vp hb) hd (fun H1 locs1 q1 q2 q3 => ?_)
  have e1 := wsE_set ad C σ (setL σ i j.toNatClampNeg x) hi (e := .inl (C.2.1, (nsl i, .inr (.inl (vp_updL (σ.2 i) j.toNatClampNeg x))))) (by
    rw [cellE_3 ad C _ hk]
    congr 5
    funext b
    simp [setL, vp_updL]) (fun j hj => cellE_setL_ne ad C σ hj)
  rw [e1] at q1 q2
  exact kk l D C ad p ev R s m args below meth c A0 H1 locs1 ls X hA ⟨q1, q2, q3⟩ hl
theorem a_alen {i n : Nat} {v : Int32} (ho : IA i n ∨ LA i n) (hv : Int32.ofNat n = v) (hd : decode M.2.1 pc = .ok (.arraylength, 1)) (kk : A e M (pc + 1) loc (.int v :: stk) σ r τ) : A e M pc loc (.ref i :: stk) σ r τ := by
  intro l D C ad p ev R s m args below meth c A0 H locs ls X hA Y hl
  obtain ⟨hx, hbb, hml, hr, hlk, hown, hts, hK, -, -⟩ := id X
  rcases ho with ⟨hi, hk, rfl⟩ | ⟨hi, hk, rfl⟩
  · exact va_alen hx hbb hK.1 Y.1 i 0 (wsE_at ad C σ hi |>.trans (by rw [cellE_2 ad C σ hk])) rfl hv hd (kk l D C ad p ev R s m args below meth c A0 H locs ls X hA Y hl)
  · exact va_alen hx hbb hK.1 Y.1 i 1 (wsE_at ad C σ hi |>.trans (by rw [cellE_3 ad C σ hk])) rfl hv hd (kk l D C ad p ev R s m args below meth c A0 H locs ls X hA Y hl)
/-- System.arraycopy from both starts -/
def CPL (own : String) (ix : Nat) : Prop := Cond.methodLink own ix arraycopyName ∈ aT ∧ Cond.native arraycopyName ∈ aT ∧ Cond.static arraycopyName ∈ aT ∧ Cond.initialized "java/lang/System" ∈ aT
theorem a_cpyI {i j ix n0 n1 : Nat} {n : Int32} (hoi : IA i n0) (hoj : IA j n1) (hf : CPL M.1.cls ix) (h3 : ¬ n < 0) (h4 : n.toNatClampNeg ≤ n0) (h5 : n.toNatClampNeg ≤ n1) (hw : (stk.map fun v => v.category).sum ≤ 8) (hd : decode M.2.1 pc = .ok (.invokestatic ix, 3)) (kk : A (e + 1) M (pc + 3) loc stk (cpyI σ i j n.toNatClampNeg) r τ) : A (e + 1) M pc loc (.int n :: .int 0 :: .ref j :: .int 0 :: .ref i :: stk) σ r τ := by
  intro l D C ad p ev R s m args below meth c A0 H locs ls X hA Y hl
  obtain ⟨hx, hbb, hml, hr, hlk, hown, hts, hK, hf1, hf2⟩ := id X
  obtain ⟨w1, w2, w3, w4⟩ := hf
  obtain ⟨hi, hki, rfl⟩ := hoi
  obtain ⟨hj, hkj, rfl⟩ := hoj
  have hw2 : ((stk.map (rv ad)).map fun v => v.category).sum ≤ 8 := by
    have e1 : ((stk.map (rv ad)).map fun v => v.category) = stk.map fun v => v.category := by simp [Function.comp_def, rv_cat]
    rw [e1]; exact hw
  refine va_copyi hx hbb (hml.trans hl.1.symm) hown (hts _ w1) (hts _ w2) (hts _ w3) (hts _ w4) hK.1 Y.1 Y.2.1 Y.2.2 i j 0 0 (wsE_at ad C σ hi |>.trans (by rw [cellE_2 ad C σ hki])) (wsE_at ad C σ hj |>.trans (by rw [cellE_2 ad C σ hkj])) rfl rfl rfl (by decide) (by decide) h3 (by simpa using h4) (by simpa using h5) (fun _ _ => rfl) (by omega) (Nat.le_trans (Nat.add_le_add_right hw2 _) (Nat.le_trans (show 8 + (nativeFrameWords "java/lang/System" "arraycopy" 5 + 11) ≤ 34 from by decide +kernel) (by omega))) hd (fun H1 locs1 q1 q2 q3 => ?_)
  have e1 := wsE_set ad C σ (cpyI σ i j n.toNatClampNeg) hj (e := .inl (C.1, (nsl j, .inl (va_cpy (σ.1 i) (σ.1 j) (0 : Int32).toNatClampNeg (0 : Int32).toNatClampNeg n.toNatClampNeg)))) (by
    rw [cellE_2 ad C _ hkj]
    congr 4
    funext b
    simp [cpyI, va_cpy]) (fun a ha => cellE_cpyI_ne ad C σ ha)
  rw [e1] at q1 q2
  exact kk l D C ad p ev R s m args below meth c A0 H1 locs1 ls X hA ⟨q1, q2, q3⟩ hl
theorem a_cpyL {i j ix n0 n1 : Nat} {n : Int32} (hoi : LA i n0) (hoj : LA j n1) (hf : CPL M.1.cls ix) (h3 : ¬ n < 0) (h4 : n.toNatClampNeg ≤ n0) (h5 : n.toNatClampNeg ≤ n1) (hw : (stk.map fun v => v.category).sum ≤ 8) (hd : decode M.2.1 pc = .ok (.invokestatic ix, 3)) (kk : A (e + 1) M (pc + 3) loc stk (cpyL σ i j n.toNatClampNeg) r τ) : A (e + 1) M pc loc (.int n :: .int 0 :: .ref j :: .int 0 :: .ref i :: stk) σ r τ := by
  intro l D C ad p ev R s m args below meth c A0 H locs ls X hA Y hl
  obtain ⟨hx, hbb, hml, hr, hlk, hown, hts, hK, hf1, hf2⟩ := id X
  obtain ⟨w1, w2, w3, w4⟩ := hf
  obtain ⟨hi, hki, rfl⟩ := hoi
  obtain ⟨hj, hkj, rfl⟩ := hoj
  have hw2 : ((stk.map (rv ad)).map fun v => v.category).sum ≤ 8 := by
    have e1 : ((stk.map (rv ad)).map fun v => v.category) = stk.map fun v => v.category := by simp [Function.comp_def, rv_cat]
    rw [e1]; exact hw
  refine va_copyl hx hbb (hml.trans hl.1.symm) hown (hts _ w1) (hts _ w2) (hts _ w3) (hts _ w4) hK.1 Y.1 Y.2.1 Y.2.2 i j 1 1 (wsE_at ad C σ hi |>.trans (by rw [cellE_3 ad C σ hki])) (wsE_at ad C σ hj |>.trans (by rw [cellE_3 ad C σ hkj])) rfl rfl rfl (by decide) (by decide) h3 (by simpa using h4) (by simpa using h5) (fun _ _ => rfl) (by omega) (Nat.le_trans (Nat.add_le_add_right hw2 _) (Nat.le_trans (show 8 + (nativeFrameWords "java/lang/System" "arraycopy" 5 + 11) ≤ 34 from by decide +kernel) (by omega))) hd (fun H1 locs1 q1 q2 q3 => ?_)
  have e1 := wsE_set ad C σ (cpyL σ i j n.toNatClampNeg) hj (e := .inl (C.2.1, (nsl j, .inr (.inl (va_cpy (σ.2 i) (σ.2 j) (0 : Int32).toNatClampNeg (0 : Int32).toNatClampNeg n.toNatClampNeg))))) (by
    rw [cellE_3 ad C _ hkj]
    congr 5
    funext b
    simp [cpyL, va_cpy]) (fun a ha => cellE_cpyL_ne ad C σ ha)
  rw [e1] at q1 q2
  exact kk l D C ad p ev R s m args below meth c A0 H1 locs1 ls X hA ⟨q1, q2, q3⟩ hl
/-- calls: the words of a site -/
def VL (own : String) (ix ci : Nat) (M' : MI) (n : Nat) : Prop := (∃ (T : u_T) (N : Nat), vwCl[ci]? = some (M'.1.cls, T, N)) ∧ (Cond.methodLink own ix M'.1 ∈ aT ∨ ∃ host, Cond.methodLinkNest own ix M'.1 host ∈ aNst) ∧ Cond.instanceMethod M'.1 ∈ aT ∧ Cond.selects M'.1.cls M'.1 M'.1 ∈ aT ∧ Cond.initialized M'.1.cls ∈ aT ∧ Cond.code M'.1 M'.2.1 M'.2.2.1 M'.2.2.2 ∈ aT ∧
  (M'.1.cls ≠ "java/lang/invoke/MethodHandle" ∧ M'.1.cls ≠ "java/lang/invoke/VarHandle" ∧ (parseMethodDescriptor M'.1.desc).map (fun d => d.parameters.length) = some n) ∧ M'.2.2.1 ≤ 15
def SL (own : String) (ix : Nat) (M' : MI) (n : Nat) : Prop := (Cond.methodLink own ix M'.1 ∈ aT ∨ ∃ host, Cond.methodLinkNest own ix M'.1 host ∈ aNst) ∧ Cond.static M'.1 ∈ aT ∧ Cond.initialized M'.1.cls ∈ aT ∧ Cond.code M'.1 M'.2.1 M'.2.2.1 M'.2.2.2 ∈ aT ∧
  (M'.1.cls ≠ "java/lang/invoke/MethodHandle" ∧ M'.1.cls ≠ "java/lang/invoke/VarHandle" ∧ (parseMethodDescriptor M'.1.desc).map (fun d => d.parameters.length) = some n) ∧ M'.2.2.1 ≤ 15
theorem aT_good {w : Cond} (h : w ∈ aT) : w ∈ aT ∧ ((w.onTables && w.keeps) = true ∨ ∃ ty, w = .arrayClass ty) := ⟨h, good_of_word (List.mem_filter.mp h).2⟩
theorem mWs_good {M' : MI} (h : Cond.code M'.1 M'.2.1 M'.2.2.1 M'.2.2.2 ∈ aT) : GoodIn aT (mWs M') := fun w hw => by
  rcases List.mem_cons.mp hw with rfl | hw
  · exact aT_good h
  · exact aT_good hw
theorem rv_map_length (ad : Nat → Nat) (as : List Value) : (as.map (rv ad)).length = as.length := List.length_map ..
theorem cat_map (ad : Nat → Nat) (as : List Value) : ((as.map (rv ad)).map fun v => v.category) = as.map fun v => v.category := by simp [Function.comp_def, rv_cat]
/-- behind a call -/
theorem a_back {l : Launch} {D : va_G} {C : CT} {ad : Nat → Nat} {p : Program} {ev : Env} {R : Room} {s : State} {m : MethodId} {args : Array Value} {below : List Frame} {meth : Method} {c : Code} {A0 : Nat → Prop} {H : Heap} {locs : List Loc} {ls : Array Slot} {st0 : List Value} {a : Array Value} {q : Option Value} {σ1 : St} {Q : State → Prop}
    (hr : va_Run p l ev R s m args below meth c H locs 0 0 0 0 (F0 m pc ls st0) (stk.map (rv ad)) (aQ D C ad (va_A (wsE ad C σ) H.size) q σ1 a) (va_A (wsE ad C σ) H.size)) (hA : ∀ q, s.heap.size ≤ q → A0 q) (Y : Hp D C ad A0 s σ H locs)
    (kk : ∀ (H1 : Heap) (locs1 : List Loc), Hp D C ad A0 s σ1 H1 locs1 → W p l ev R s m args below meth c H1 locs1 0 0 Q (F0 m (pc + 3) ls (((q.toList ++ stk)).map (rv ad)))) : W p l ev R s m args below meth c H locs 0 0 Q (F0 m pc ls st0) := by
  intro T hT X
  obtain ⟨v, st₀, t, T', L, h0, X', hL, e1, e2, ⟨⟨hv, hB⟩, hz, hk⟩, st⟩ := hr T hT X
  rw [h0] at hz hk
  have hfree : ∀ z, va_A (wsE ad C σ) H.size z → A0 z := by
    intro z hz2
    rcases hz2 with ⟨k, w, hw⟩ | hw
    · exact Y.2.1.2 k _ hw
    · exact hA z (Nat.le_trans Y.2.2.1 hw)
  have hv' : v.toList ++ stk.map (rv ad) = ((q.toList ++ stk)).map (rv ad) := by
    have : v = q.map (rv ad) := by injection hv
    subst this
    cases q <;> simp
  have hS : va_S A0 s.heap T'.heap (locs ++ L) := by
    refine ⟨Nat.le_trans Y.2.2.1 (by rw [e1]; exact hz), fun z h1 h2 => ?_, fun z hz2 => ?_⟩
    · rw [e1, hk z (Nat.lt_of_lt_of_le h1 Y.2.2.1) (fun w => h2 (hfree z w))]
      exact Y.2.2.2.1 z h1 h2
    · rcases List.mem_append.mp hz2 with h | h
      · exact Y.2.2.2.2 z h
      · exact hfree _ (hL z h)
  have hP : va_P D vwCl (wsE ad C σ1) T'.heap := by rw [e1]; exact hB.1
  have hD : va_D A0 (wsE ad C σ1) := hB.2.2.weaken (fun k w _ h => hfree _ h)
  obtain ⟨t2, a1, b1⟩ := kk T'.heap (locs ++ L) ⟨hP, hD, hS⟩ T' rfl X'
  rw [← hv'] at a1
  exact ⟨t2, st t2 a1, b1⟩
theorem a_blind {D : va_G} {C : CT} {ad : Nat → Nat} {as : List Value} {sz : Nat} : FrameBlind (va_Pc (as.map (rv ad)) (fun U => U.heap.size = sz ∧ va_P D vwCl (wsE ad C σ) U.heap ∧ aK D C U ∧ va_D (fun _ => True) (wsE ad C σ))) := by
  intro a U g mk h
  obtain ⟨h1, h2, h3, h4, h5⟩ := h
  exact ⟨h1, h2, h3, aK.same (s := U) (U := U.calling g mk a) rfl h4, h5⟩
theorem a_preS {D : va_G} {C : CT} {ad : Nat → Nat} {as : List Value} {s : State} {H : Heap} {A0 : Nat → Prop} {locs : List Loc} (Y : Hp D C ad A0 s σ H locs) (hK : aK D C s) : PreS s H (va_Pc (as.map (rv ad)) (fun U => U.heap.size = H.size ∧ va_P D vwCl (wsE ad C σ) U.heap ∧ aK D C U ∧ va_D (fun _ => True) (wsE ad C σ))) (as.map (rv ad)) :=
  ⟨a_blind, fun U hU hW => ⟨rfl, by rw [hU], by rw [hU]; exact Y.1, aK.warm hW hK, Y.2.1.weaken (fun _ _ _ _ => trivial)⟩⟩
theorem a_callS {ix n : Nat} {as : List Value} {M' : MI} {q : Option Value} {σ1 : St} (hs : Sp e M' as σ q σ1) (hL : SL M.1.cls ix M' n) (hn : as.length = n) (hw : (stk.map fun v => v.category).sum ≤ 8) (hd : decode M.2.1 pc = .ok (.invokestatic ix, 3)) (kk : A (e + 1) M (pc + 3) loc (q.toList ++ stk) σ1 r τ) : A (e + 1) M pc loc (as.reverse ++ stk) σ r τ := by
  intro l D C ad p ev R s m args below meth c A0 H locs ls X hA Y hl
  obtain ⟨hx, hbb, hml, hr, hlk, hown, hts, hK, hf1, hf2⟩ := id X
  obtain ⟨hlink, w2, w3, w4, hdsc, h15⟩ := hL
  have hst : (F0 m pc ls ((as.reverse ++ stk).map (rv ad))).stack = (as.map (rv ad)).reverse ++ stk.map (rv ad) := by simp
  have hW : 2 * (F0 m pc ls ((as.reverse ++ stk).map (rv ad))).monitorRoom + ((stk.map (rv ad)).map fun v => v.category).sum ≤ 8 := by
    rw [cat_map]; exact lv_room hw
  have hroom : e + 1 ≤ R.frames ∧ 8 + (M'.2.2.1 + 11) + 34 * e ≤ R.locals := ⟨hf1, by omega⟩
  have hrun : va_Run p l ev R s m args below meth c H locs 0 0 0 0 (F0 m pc ls ((as.reverse ++ stk).map (rv ad))) (stk.map (rv ad)) (aQ D C ad (va_A (wsE ad C σ) H.size) q σ1 (as.map (rv ad)).toArray) (va_A (wsE ad C σ) H.size) := by
    rcases hlink with w1 | ⟨host, w1⟩
    · exact va_runS ⟨hx, hbb, hml, hown, hts⟩ (hs l D C ad H.size) ⟨callB_of (ws' := aT) n hts (mWs_good w4) rfl rfl rfl (hts _ w3) (hts _ w1) hdsc hroom, hts _ w2⟩ (a_preS Y hK) rfl (by simpa using hn) hl.1 hst hW hd ⟨Nat.zero_le _, Nat.zero_le _⟩
    · exact va_runSN ⟨hx, hbb, hml, hown, hts⟩ (hs l D C ad H.size) ⟨va_cnB (ws' := aT) n hts (mWs_good w4) rfl rfl rfl (hK.2 _ w1) (hts _ w3) hdsc hroom, hts _ w2, trivial⟩ (a_preS Y hK) rfl (by simpa using hn) hl.1 hst hW hd ⟨Nat.zero_le _, Nat.zero_le _⟩
  exact a_back hrun hA Y (fun H1 locs1 Y1 => kk l D C ad p ev R s m args below meth c A0 H1 locs1 ls X hA Y1 hl)
theorem a_callV {ix n i ci ni : Nat} {as : List Value} {M' : MI} {q : Option Value} {σ1 : St} (hs : Sp e M' (.ref i :: as) σ q σ1) (ho : OB i ci ni) (hL : VL M.1.cls ix ci M' n) (hn : as.length = n) (hw : (stk.map fun v => v.category).sum ≤ 8) (hd : decode M.2.1 pc = .ok (.invokevirtual ix, 3)) (kk : A (e + 1) M (pc + 3) loc (q.toList ++ stk) σ1 r τ) : A (e + 1) M pc loc (as.reverse ++ .ref i :: stk) σ r τ := by
  intro l D C ad p ev R s m args below meth c A0 H locs ls X hA Y hl
  obtain ⟨hx, hbb, hml, hr, hlk, hown, hts, hK, hf1, hf2⟩ := id X
  obtain ⟨⟨T, N, hcl⟩, hlink, w2, w5, w3, w4, hdsc, h15⟩ := hL
  obtain ⟨hi, hk, rfl, rfl⟩ := ho
  have hst : (F0 m pc ls ((as.reverse ++ .ref i :: stk).map (rv ad))).stack = (as.map (rv ad)).reverse ++ .ref (ad i) :: stk.map (rv ad) := by simp [rv]
  have hW : 2 * (F0 m pc ls ((as.reverse ++ .ref i :: stk).map (rv ad))).monitorRoom + ((stk.map (rv ad)).map fun v => v.category).sum ≤ 8 := by
    rw [cat_map]; exact lv_room hw
  have hroom : e + 1 ≤ R.frames ∧ 8 + (M'.2.2.1 + 11) + 34 * e ≤ R.locals := ⟨hf1, by omega⟩
  have hpre : PreV s H M'.1.cls (ad i) (va_Pc ((.ref i :: as).map (rv ad)) (fun U => U.heap.size = H.size ∧ va_P D vwCl (wsE ad C σ) U.heap ∧ aK D C U ∧ va_D (fun _ => True) (wsE ad C σ))) (as.map (rv ad)) :=
    ⟨a_blind, va_recv hK.1 Y.1 hcl (wsE_at ad C σ hi |>.trans (by rw [cellE_1 ad C σ hk])), fun U hU hW => (a_preS (as := .ref i :: as) Y hK).2 U hU hW⟩
  have hrun : va_Run p l ev R s m args below meth c H locs 0 0 0 0 (F0 m pc ls ((as.reverse ++ .ref i :: stk).map (rv ad))) (stk.map (rv ad)) (aQ D C ad (va_A (wsE ad C σ) H.size) q σ1 (.ref (ad i) :: as.map (rv ad)).toArray) (va_A (wsE ad C σ) H.size) := by
    rcases hlink with w1 | ⟨host, w1⟩
    · exact va_runV ⟨hx, hbb, hml, hown, hts⟩ (hs l D C ad H.size) ⟨callB_of (ws' := aT) n hts (mWs_good w4) rfl rfl rfl (hts _ w3) (hts _ w1) hdsc hroom, hts _ w2, hts _ w5⟩ hpre rfl (by simpa using hn) hl.1 hst hW hd ⟨Nat.zero_le _, Nat.zero_le _⟩
    · exact va_runVN ⟨hx, hbb, hml, hown, hts⟩ (hs l D C ad H.size) ⟨va_cnB (ws' := aT) n hts (mWs_good w4) rfl rfl rfl (hK.2 _ w1) (hts _ w3) hdsc hroom, hts _ w2, hts _ w5⟩ hpre rfl (by simpa using hn) hl.1 hst hW hd ⟨Nat.zero_le _, Nat.zero_le _⟩
  exact a_back hrun hA Y (fun H1 locs1 Y1 => kk l D C ad p ev R s m args below meth c A0 H1 locs1 ls X hA Y1 hl)
theorem lv_args_lm (ad : Nat → Nat) : ∀ (as : List Value) (k : Nat), lv_args k (as.map (rv ad)) = lm ad (lv_args k as)
  | [], _ => rfl
  | v :: as, k => by
    show (k, rv ad v) :: lv_args (if (rv ad v).category = 2 then k + 2 else k + 1) (as.map (rv ad)) = (k, rv ad v) :: lm ad (lv_args (if v.category = 2 then k + 2 else k + 1) as)
    rw [rv_cat, lv_args_lm ad as]
theorem lg_len (ad : Nat → Nat) : ∀ as : List Value, (lg_sl (as.map (rv ad))).length = (lg_sl as).length
  | [] => rfl
  | v :: as => by
    have h := lg_len ad as
    simp only [lg_sl, List.map_cons, List.flatMap_cons, List.length_append, rv_cat] at h ⊢
    rw [h]
    split <;> rfl
/-- a method's contract out of the walk of its body -/
theorem sp_of {as : List Value} (hy : plainName M.1.cls = true) (hlen : (lg_sl as).length ≤ M.2.2.1) (hq : lv_args 0 as = loc) (h : A e M 0 loc [] σ r τ) : Sp e M as σ r τ := by
  intro l D C ad sz
  refine Met.ofW (cc := M.2.1) (maxL := M.2.2.1) (ret := M.2.2.2) (ws' := aT) hy rfl ?_
  intro p ev s m args below meth c s₁ B hml hv
  obtain ⟨rfl, hsz, hP, hK, hD0⟩ := hv
  have hts := atoms_spec (ws := mWs M) B.pre
  have hown : s.vm.findClass M.1.cls = some m.cls := findClass_of_methodNamed B.named
  have hl := lv_entry (as.map (rv ad)) (n := M.2.2.1) (by rw [lg_len]; exact hlen)
  rw [lg_entry_eq]
  generalize (lg_sl (as.map (rv ad)) ++ List.replicate (M.2.2.1 - (lg_sl (as.map (rv ad))).length) Slot.unset).toArray = ls at hl ⊢
  rw [lv_args_lm, hq] at hl
  subst hsz
  exact h l D C ad p ev _ s m _ below meth c (va_A (wsE ad C σ) s.heap.size) s.heap [] ls ⟨B.exec, B.bytes, hml, B.returns, B.notSynchronized, hown, fun w hw => hts w (List.mem_cons_of_mem _ hw), hK, Nat.le_refl _, Nat.le_refl _⟩ (fun q hq => Or.inr hq) ⟨hP, hD0.self, va_S.rf⟩ hl
end AH
end
section
theorem aT_in {w : Cond} (i : Nat) (h : lw_tbl[i]? = some w) (hg : goodWord w = true) : w ∈ aT := List.mem_filter.mpr ⟨List.mem_of_getElem? h, hg⟩
theorem aN_in {w : Cond} (i : Nat) (h : lw_tbl[i]? = some w) (hg : isNest w = true) : w ∈ aNst := List.mem_filter.mpr ⟨List.mem_of_getElem? h, hg⟩
theorem aT_r (ws : List Cond) (ps : List Nat) (hp : ws = ps.filterMap (fun i => lw_tbl[i]?)) (h : ws.all goodWord = true) : ∀ w ∈ ws, w ∈ aT := by
  intro w hw
  have h1 := List.all_eq_true.mp h w hw
  rw [hp] at hw
  obtain ⟨i, -, hi⟩ := List.mem_filterMap.mp hw
  exact aT_in i hi h1
/-- a WORLD's number, a GIFT's number -/
def isW (w : Nat) : Prop := w = 4 ∨ w = 19 ∨ w = 34
theorem ob_0 : OB 0 8 11 := ⟨by decide, rfl, rfl, rfl⟩
theorem ob_1 : OB 1 5 2 := ⟨by decide, rfl, rfl, rfl⟩
theorem ia_2 : IA 2 16 := ⟨by decide, rfl, rfl⟩
theorem ob_3 : OB 3 4 4 := ⟨by decide, rfl, rfl, rfl⟩
theorem ob_4 : OB 4 7 9 := ⟨by decide, rfl, rfl, rfl⟩
theorem ia_5 : IA 5 8 := ⟨by decide, rfl, rfl⟩
theorem ia_6 : IA 6 8 := ⟨by decide, rfl, rfl⟩
theorem ia_7 : IA 7 8 := ⟨by decide, rfl, rfl⟩
theorem ia_8 : IA 8 64 := ⟨by decide, rfl, rfl⟩
theorem ia_9 : IA 9 64 := ⟨by decide, rfl, rfl⟩
theorem ga_10 : GA 10 8 := ⟨by decide, rfl, rfl⟩
theorem ob_11 : OB 11 3 8 := ⟨by decide, rfl, rfl, rfl⟩
theorem ob_12 : OB 12 3 8 := ⟨by decide, rfl, rfl, rfl⟩
theorem ob_13 : OB 13 3 8 := ⟨by decide, rfl, rfl, rfl⟩
theorem ob_14 : OB 14 3 8 := ⟨by decide, rfl, rfl, rfl⟩
theorem ob_15 : OB 15 3 8 := ⟨by decide, rfl, rfl, rfl⟩
theorem ob_16 : OB 16 3 8 := ⟨by decide, rfl, rfl, rfl⟩
theorem ob_17 : OB 17 3 8 := ⟨by decide, rfl, rfl, rfl⟩
theorem ob_18 : OB 18 3 8 := ⟨by decide, rfl, rfl, rfl⟩
theorem ob_19 : OB 19 7 9 := ⟨by decide, rfl, rfl, rfl⟩
theorem ia_20 : IA 20 8 := ⟨by decide, rfl, rfl⟩
theorem ia_21 : IA 21 8 := ⟨by decide, rfl, rfl⟩
theorem ia_22 : IA 22 8 := ⟨by decide, rfl, rfl⟩
theorem ia_23 : IA 23 64 := ⟨by decide, rfl, rfl⟩
theorem ia_24 : IA 24 64 := ⟨by decide, rfl, rfl⟩
theorem ga_25 : GA 25 8 := ⟨by decide, rfl, rfl⟩
theorem ob_26 : OB 26 3 8 := ⟨by decide, rfl, rfl, rfl⟩
theorem ob_27 : OB 27 3 8 := ⟨by decide, rfl, rfl, rfl⟩
theorem ob_28 : OB 28 3 8 := ⟨by decide, rfl, rfl, rfl⟩
theorem ob_29 : OB 29 3 8 := ⟨by decide, rfl, rfl, rfl⟩
theorem ob_30 : OB 30 3 8 := ⟨by decide, rfl, rfl, rfl⟩
theorem ob_31 : OB 31 3 8 := ⟨by decide, rfl, rfl, rfl⟩
theorem ob_32 : OB 32 3 8 := ⟨by decide, rfl, rfl, rfl⟩
theorem ob_33 : OB 33 3 8 := ⟨by decide, rfl, rfl, rfl⟩
theorem ob_34 : OB 34 7 9 := ⟨by decide, rfl, rfl, rfl⟩
theorem ia_35 : IA 35 8 := ⟨by decide, rfl, rfl⟩
theorem ia_36 : IA 36 8 := ⟨by decide, rfl, rfl⟩
theorem ia_37 : IA 37 8 := ⟨by decide, rfl, rfl⟩
theorem ia_38 : IA 38 64 := ⟨by decide, rfl, rfl⟩
theorem ia_39 : IA 39 64 := ⟨by decide, rfl, rfl⟩
theorem ga_40 : GA 40 8 := ⟨by decide, rfl, rfl⟩
theorem ob_41 : OB 41 3 8 := ⟨by decide, rfl, rfl, rfl⟩
theorem ob_42 : OB 42 3 8 := ⟨by decide, rfl, rfl, rfl⟩
theorem ob_43 : OB 43 3 8 := ⟨by decide, rfl, rfl, rfl⟩
theorem ob_44 : OB 44 3 8 := ⟨by decide, rfl, rfl, rfl⟩
theorem ob_45 : OB 45 3 8 := ⟨by decide, rfl, rfl, rfl⟩
theorem ob_46 : OB 46 3 8 := ⟨by decide, rfl, rfl, rfl⟩
theorem ob_47 : OB 47 3 8 := ⟨by decide, rfl, rfl, rfl⟩
theorem ob_48 : OB 48 3 8 := ⟨by decide, rfl, rfl, rfl⟩
theorem ob_49 : OB 49 2 1 := ⟨by decide, rfl, rfl, rfl⟩
theorem ob_50 : OB 50 6 2 := ⟨by decide, rfl, rfl, rfl⟩
theorem la_51 : LA 51 72 := ⟨by decide, rfl, rfl⟩
theorem la_52 : LA 52 72 := ⟨by decide, rfl, rfl⟩
theorem ob_53 : OB 53 1 2 := ⟨by decide, rfl, rfl, rfl⟩
theorem ia_54 : IA 54 256 := ⟨by decide, rfl, rfl⟩
theorem ia_55 : IA 55 8 := ⟨by decide, rfl, rfl⟩
theorem ob_56 : OB 56 0 3 := ⟨by decide, rfl, rfl, rfl⟩
theorem ia_57 : IA 57 8 := ⟨by decide, rfl, rfl⟩
theorem ob_58 : OB 58 9 46 := ⟨by decide, rfl, rfl, rfl⟩
theorem ia_59 : IA 59 16 := ⟨by decide, rfl, rfl⟩
theorem ia_60 : IA 60 8 := ⟨by decide, rfl, rfl⟩
theorem ia_61 : IA 61 8 := ⟨by decide, rfl, rfl⟩
theorem ia_62 : IA 62 64 := ⟨by decide, rfl, rfl⟩
theorem ia_63 : IA 63 64 := ⟨by decide, rfl, rfl⟩
theorem ia_64 : IA 64 8 := ⟨by decide, rfl, rfl⟩
theorem ia_65 : IA 65 64 := ⟨by decide, rfl, rfl⟩
theorem ia_66 : IA 66 8 := ⟨by decide, rfl, rfl⟩
theorem la_67 : LA 67 72 := ⟨by decide, rfl, rfl⟩
theorem la_68 : LA 68 72 := ⟨by decide, rfl, rfl⟩
theorem la_69 : LA 69 9 := ⟨by decide, rfl, rfl⟩
theorem ia_70 : IA 70 2304 := ⟨by decide, rfl, rfl⟩
theorem ia_71 : IA 71 8 := ⟨by decide, rfl, rfl⟩
theorem ia_72 : IA 72 8 := ⟨by decide, rfl, rfl⟩
theorem ia_73 : IA 73 64 := ⟨by decide, rfl, rfl⟩
theorem ia_74 : IA 74 64 := ⟨by decide, rfl, rfl⟩
theorem ia_75 : IA 75 8 := ⟨by decide, rfl, rfl⟩
theorem ia_76 : IA 76 8 := ⟨by decide, rfl, rfl⟩
theorem ia_77 : IA 77 64 := ⟨by decide, rfl, rfl⟩
theorem ia_78 : IA 78 64 := ⟨by decide, rfl, rfl⟩
theorem ia_79 : IA 79 64 := ⟨by decide, rfl, rfl⟩
theorem ia_80 : IA 80 8 := ⟨by decide, rfl, rfl⟩
theorem ia_81 : IA 81 8 := ⟨by decide, rfl, rfl⟩
theorem isW_4 : isW 4 := Or.inl rfl
theorem isW_19 : isW 19 := Or.inr (Or.inl rfl)
theorem isW_34 : isW 34 := Or.inr (Or.inr rfl)
section FW
variable {w : Nat} {σ : St}
theorem obW (h : isW w) : OB w 7 9 := by rcases h with rfl | rfl | rfl <;> exact ⟨by decide, rfl, rfl, rfl⟩
theorem iaW1 (h : isW w) : IA (w + 1) 8 := by rcases h with rfl | rfl | rfl <;> exact ⟨by decide, rfl, rfl⟩
theorem iaW2 (h : isW w) : IA (w + 2) 8 := by rcases h with rfl | rfl | rfl <;> exact ⟨by decide, rfl, rfl⟩
theorem iaW3 (h : isW w) : IA (w + 3) 8 := by rcases h with rfl | rfl | rfl <;> exact ⟨by decide, rfl, rfl⟩
theorem iaW4 (h : isW w) : IA (w + 4) 64 := by rcases h with rfl | rfl | rfl <;> exact ⟨by decide, rfl, rfl⟩
theorem iaW5 (h : isW w) : IA (w + 5) 64 := by rcases h with rfl | rfl | rfl <;> exact ⟨by decide, rfl, rfl⟩
theorem gaW (h : isW w) : GA (w + 6) 8 := by rcases h with rfl | rfl | rfl <;> exact ⟨by decide, rfl, rfl⟩
theorem avW0 (h : isW w) : av σ w 0 = .int (σ.1 w 0) := by rcases h with rfl | rfl | rfl <;> rfl
theorem avW6 (h : isW w) : av σ w 6 = .int (σ.1 w 6) := by rcases h with rfl | rfl | rfl <;> rfl
theorem avW8 (h : isW w) : av σ w 8 = .int (σ.1 w 8) := by rcases h with rfl | rfl | rfl <;> rfl
theorem avW1 (h : isW w) : av σ w 1 = .ref (w + 1) := by rcases h with rfl | rfl | rfl <;> rfl
theorem avW2 (h : isW w) : av σ w 2 = .ref (w + 2) := by rcases h with rfl | rfl | rfl <;> rfl
theorem avW3 (h : isW w) : av σ w 3 = .ref (w + 3) := by rcases h with rfl | rfl | rfl <;> rfl
theorem avW4 (h : isW w) : av σ w 4 = .ref (w + 4) := by rcases h with rfl | rfl | rfl <;> rfl
theorem avW5 (h : isW w) : av σ w 5 = .ref (w + 5) := by rcases h with rfl | rfl | rfl <;> rfl
theorem avW7 (h : isW w) : av σ w 7 = .ref (w + 6) := by rcases h with rfl | rfl | rfl <;> rfl
theorem inb_iff {j : Int32} {n : Nat} (hn : n < 2 ^ 31) : inb j n = true ↔ ∃ k : Nat, k < n ∧ j = nI k := by
  constructor
  · intro h
    exact vp_in_of (inb_vp h) hn
  · rintro ⟨k, hk, rfl⟩
    exact decide_eq_true (vp_in_nI hk hn)
theorem rfG (h : isW w) {j : Int32} (hj : inb j 8 = true) : rfv (w + 6) j.toNatClampNeg = w + 7 + j.toNatClampNeg := by
  obtain ⟨k, hk, rfl⟩ := (inb_iff (by decide)).mp hj
  rw [nI_clamp (by omega)]
  rcases h with rfl | rfl | rfl <;> (rcases (show k = 0 ∨ k = 1 ∨ k = 2 ∨ k = 3 ∨ k = 4 ∨ k = 5 ∨ k = 6 ∨ k = 7 by omega) with rfl | rfl | rfl | rfl | rfl | rfl | rfl | rfl <;> rfl)
theorem obGn (h : isW w) {k : Nat} (hk : k < 8) : OB (w + 7 + k) 3 8 := by
  rcases h with rfl | rfl | rfl <;> (rcases (show k = 0 ∨ k = 1 ∨ k = 2 ∨ k = 3 ∨ k = 4 ∨ k = 5 ∨ k = 6 ∨ k = 7 by omega) with rfl | rfl | rfl | rfl | rfl | rfl | rfl | rfl <;> exact ⟨by decide, rfl, rfl, rfl⟩)
theorem obG (h : isW w) {j : Int32} (hj : inb j 8 = true) : OB (w + 7 + j.toNatClampNeg) 3 8 := by
  obtain ⟨k, hk, rfl⟩ := (inb_iff (by decide)).mp hj
  rw [nI_clamp (by omega)]
  exact obGn h hk
theorem avG {g : Nat} (h : OB g 3 8) (k : Nat) (hs : sty 3 k = 0) : av σ g k = .int (σ.1 g k) := by
  obtain ⟨-, -, hc, -⟩ := h
  simp [av, hc, hs]
end FW
def MX8_init : MI := (yX8_init, cX8_init, 1, none)
theorem cw_X8_init : Cond.code MX8_init.1 MX8_init.2.1 MX8_init.2.2.1 MX8_init.2.2.2 ∈ aT := aT_in 65 (by decide +kernel) rfl
def MX8_letters : MI := (yX8_letters, cX8_letters, 4, some .int)
theorem cw_X8_letters : Cond.code MX8_letters.1 MX8_letters.2.1 MX8_letters.2.2.1 MX8_letters.2.2.2 ∈ aT := aT_in 298 (by decide +kernel) rfl
def MX8_blank : MI := (yX8_blank, cX8_blank, 2, some .int)
theorem cw_X8_blank : Cond.code MX8_blank.1 MX8_blank.2.1 MX8_blank.2.2.1 MX8_blank.2.2.2 ∈ aT := aT_in 313 (by decide +kernel) rfl
def MX8_fault : MI := (yX8_fault, cX8_fault, 1, some .int)
theorem cw_X8_fault : Cond.code MX8_fault.1 MX8_fault.2.1 MX8_fault.2.2.1 MX8_fault.2.2.2 ∈ aT := aT_in 317 (by decide +kernel) rfl
def MX8_law : MI := (yX8_law, cX8_law, 1, some .int)
theorem cw_X8_law : Cond.code MX8_law.1 MX8_law.2.1 MX8_law.2.2.1 MX8_law.2.2.2 ∈ aT := aT_in 331 (by decide +kernel) rfl
def MX8_lawTold : MI := (yX8_lawTold, cX8_lawTold, 2, some .int)
theorem cw_X8_lawTold : Cond.code MX8_lawTold.1 MX8_lawTold.2.1 MX8_lawTold.2.2.1 MX8_lawTold.2.2.2 ∈ aT := aT_in 343 (by decide +kernel) rfl
def MX8_person : MI := (yX8_person, cX8_person, 2, some .int)
theorem cw_X8_person : Cond.code MX8_person.1 MX8_person.2.1 MX8_person.2.2.1 MX8_person.2.2.2 ∈ aT := aT_in 348 (by decide +kernel) rfl
def MX8_know : MI := (yX8_know, cX8_know, 5, some .int)
theorem cw_X8_know : Cond.code MX8_know.1 MX8_know.2.1 MX8_know.2.2.1 MX8_know.2.2.2 ∈ aT := aT_in 356 (by decide +kernel) rfl
def MX8_like : MI := (yX8_like, cX8_like, 5, some .int)
theorem cw_X8_like : Cond.code MX8_like.1 MX8_like.2.1 MX8_like.2.2.1 MX8_like.2.2.2 ∈ aT := aT_in 379 (by decide +kernel) rfl
def MX8_about : MI := (yX8_about, cX8_about, 3, some .int)
theorem cw_X8_about : Cond.code MX8_about.1 MX8_about.2.1 MX8_about.2.2.1 MX8_about.2.2.2 ∈ aT := aT_in 386 (by decide +kernel) rfl
def MX8_owes : MI := (yX8_owes, cX8_owes, 3, some .int)
theorem cw_X8_owes : Cond.code MX8_owes.1 MX8_owes.2.1 MX8_owes.2.2.1 MX8_owes.2.2.2 ∈ aT := aT_in 398 (by decide +kernel) rfl
def MX8_rest : MI := (yX8_rest, cX8_rest, 2, some .int)
theorem cw_X8_rest : Cond.code MX8_rest.1 MX8_rest.2.1 MX8_rest.2.2.1 MX8_rest.2.2.2 ∈ aT := aT_in 402 (by decide +kernel) rfl
def MX8_gift : MI := (yX8_gift, cX8_gift, 3, some .int)
theorem cw_X8_gift : Cond.code MX8_gift.1 MX8_gift.2.1 MX8_gift.2.2.1 MX8_gift.2.2.2 ∈ aT := aT_in 412 (by decide +kernel) rfl
def MX8_told : MI := (yX8_told, cX8_told, 4, some .int)
theorem cw_X8_told : Cond.code MX8_told.1 MX8_told.2.1 MX8_told.2.2.1 MX8_told.2.2.2 ∈ aT := aT_in 424 (by decide +kernel) rfl
def MX8_as : MI := (yX8_as, cX8_as, 3, some .int)
theorem cw_X8_as : Cond.code MX8_as.1 MX8_as.2.1 MX8_as.2.2.1 MX8_as.2.2.2 ∈ aT := aT_in 442 (by decide +kernel) rfl
def MX8_may : MI := (yX8_may, cX8_may, 2, some .int)
theorem cw_X8_may : Cond.code MX8_may.1 MX8_may.2.1 MX8_may.2.2.1 MX8_may.2.2.2 ∈ aT := aT_in 450 (by decide +kernel) rfl
def MX8_give : MI := (yX8_give, cX8_give, 3, some .int)
theorem cw_X8_give : Cond.code MX8_give.1 MX8_give.2.1 MX8_give.2.2.1 MX8_give.2.2.2 ∈ aT := aT_in 463 (by decide +kernel) rfl
def MX8_years : MI := (yX8_years, cX8_years, 4, some .int)
theorem cw_X8_years : Cond.code MX8_years.1 MX8_years.2.1 MX8_years.2.2.1 MX8_years.2.2.2 ∈ aT := aT_in 478 (by decide +kernel) rfl
def MX8_ways : MI := (yX8_ways, cX8_ways, 7, some .int)
theorem cw_X8_ways : Cond.code MX8_ways.1 MX8_ways.2.1 MX8_ways.2.2.1 MX8_ways.2.2.2 ∈ aT := aT_in 517 (by decide +kernel) rfl
def MX8_soonest : MI := (yX8_soonest, cX8_soonest, 4, some .int)
theorem cw_X8_soonest : Cond.code MX8_soonest.1 MX8_soonest.2.1 MX8_soonest.2.2.1 MX8_soonest.2.2.2 ∈ aT := aT_in 546 (by decide +kernel) rfl
def MX8_likely : MI := (yX8_likely, cX8_likely, 11, some .long)
theorem cw_X8_likely : Cond.code MX8_likely.1 MX8_likely.2.1 MX8_likely.2.2.1 MX8_likely.2.2.2 ∈ aT := aT_in 550 (by decide +kernel) rfl
def MX8_traps : MI := (yX8_traps, cX8_traps, 3, some .int)
theorem cw_X8_traps : Cond.code MX8_traps.1 MX8_traps.2.1 MX8_traps.2.2.1 MX8_traps.2.2.2 ∈ aT := aT_in 562 (by decide +kernel) rfl
def MX8_round : MI := (yX8_round, cX8_round, 3, some .int)
theorem cw_X8_round : Cond.code MX8_round.1 MX8_round.2.1 MX8_round.2.2.1 MX8_round.2.2.2 ∈ aT := aT_in 567 (by decide +kernel) rfl
def MX8_stranger : MI := (yX8_stranger, cX8_stranger, 4, some .int)
theorem cw_X8_stranger : Cond.code MX8_stranger.1 MX8_stranger.2.1 MX8_stranger.2.2.1 MX8_stranger.2.2.2 ∈ aT := aT_in 601 (by decide +kernel) rfl
def MX8_drawn : MI := (yX8_drawn, cX8_drawn, 6, some .int)
theorem cw_X8_drawn : Cond.code MX8_drawn.1 MX8_drawn.2.1 MX8_drawn.2.2.1 MX8_drawn.2.2.2 ∈ aT := aT_in 619 (by decide +kernel) rfl
def MX8_open : MI := (yX8_open, cX8_open, 3, some .int)
theorem cw_X8_open : Cond.code MX8_open.1 MX8_open.2.1 MX8_open.2.2.1 MX8_open.2.2.2 ∈ aT := aT_in 640 (by decide +kernel) rfl
def MX8_write : MI := (yX8_write, cX8_write, 4, some .int)
theorem cw_X8_write : Cond.code MX8_write.1 MX8_write.2.1 MX8_write.2.2.1 MX8_write.2.2.2 ∈ aT := aT_in 648 (by decide +kernel) rfl
def MX8_filled : MI := (yX8_filled, cX8_filled, 1, some .int)
theorem cw_X8_filled : Cond.code MX8_filled.1 MX8_filled.2.1 MX8_filled.2.2.1 MX8_filled.2.2.2 ∈ aT := aT_in 661 (by decide +kernel) rfl
def MX8_sure : MI := (yX8_sure, cX8_sure, 2, some .int)
theorem cw_X8_sure : Cond.code MX8_sure.1 MX8_sure.2.1 MX8_sure.2.2.1 MX8_sure.2.2.2 ∈ aT := aT_in 679 (by decide +kernel) rfl
def MX8_image : MI := (yX8_image, cX8_image, 1, some .int)
theorem cw_X8_image : Cond.code MX8_image.1 MX8_image.2.1 MX8_image.2.2.1 MX8_image.2.2.2 ∈ aT := aT_in 688 (by decide +kernel) rfl
def MX8_restore : MI := (yX8_restore, cX8_restore, 1, some .int)
theorem cw_X8_restore : Cond.code MX8_restore.1 MX8_restore.2.1 MX8_restore.2.2.1 MX8_restore.2.2.2 ∈ aT := aT_in 692 (by decide +kernel) rfl
def MX8_count : MI := (yX8_count, cX8_count, 2, some .int)
theorem cw_X8_count : Cond.code MX8_count.1 MX8_count.2.1 MX8_count.2.2.1 MX8_count.2.2.2 ∈ aT := aT_in 696 (by decide +kernel) rfl
def MX8_digest : MI := (yX8_digest, cX8_digest, 4, some .long)
theorem cw_X8_digest : Cond.code MX8_digest.1 MX8_digest.2.1 MX8_digest.2.2.1 MX8_digest.2.2.2 ∈ aT := aT_in 700 (by decide +kernel) rfl
def MX8_withPerson : MI := (yX8_withPerson, cX8_withPerson, 7, some .long)
theorem cw_X8_withPerson : Cond.code MX8_withPerson.1 MX8_withPerson.2.1 MX8_withPerson.2.2.1 MX8_withPerson.2.2.2 ∈ aT := aT_in 710 (by decide +kernel) rfl
def MX8_withGift : MI := (yX8_withGift, cX8_withGift, 7, some .long)
theorem cw_X8_withGift : Cond.code MX8_withGift.1 MX8_withGift.2.1 MX8_withGift.2.2.1 MX8_withGift.2.2.2 ∈ aT := aT_in 716 (by decide +kernel) rfl
def MX8_isPerson : MI := (yX8_isPerson, cX8_isPerson, 2, some .boolean)
theorem cw_X8_isPerson : Cond.code MX8_isPerson.1 MX8_isPerson.2.1 MX8_isPerson.2.2.1 MX8_isPerson.2.2.2 ∈ aT := aT_in 364 (by decide +kernel) rfl
def MX8_areTwo : MI := (yX8_areTwo, cX8_areTwo, 3, some .boolean)
theorem cw_X8_areTwo : Cond.code MX8_areTwo.1 MX8_areTwo.2.1 MX8_areTwo.2.2.1 MX8_areTwo.2.2.2 ∈ aT := aT_in 360 (by decide +kernel) rfl
def MX8_isGift : MI := (yX8_isGift, cX8_isGift, 2, some .boolean)
theorem cw_X8_isGift : Cond.code MX8_isGift.1 MX8_isGift.2.1 MX8_isGift.2.2.1 MX8_isGift.2.2.2 ∈ aT := aT_in 428 (by decide +kernel) rfl
def MX8_whoMayHave : MI := (yX8_whoMayHave, cX8_whoMayHave, 3, some .int)
theorem cw_X8_whoMayHave : Cond.code MX8_whoMayHave.1 MX8_whoMayHave.2.1 MX8_whoMayHave.2.2.1 MX8_whoMayHave.2.2.2 ∈ aT := aT_in 455 (by decide +kernel) rfl
def MX8_mixed : MI := (yX8_mixed, cX8_mixed, 4, some .long)
theorem cw_X8_mixed : Cond.code MX8_mixed.1 MX8_mixed.2.1 MX8_mixed.2.2.1 MX8_mixed.2.2.2 ∈ aT := aT_in 705 (by decide +kernel) rfl
def MX8_within : MI := (yX8_within, cX8_within, 3, some .boolean)
theorem cw_X8_within : Cond.code MX8_within.1 MX8_within.2.1 MX8_within.2.2.1 MX8_within.2.2.2 ∈ aT := aT_in 327 (by decide +kernel) rfl
def MX8_pair : MI := (yX8_pair, cX8_pair, 2, some .int)
theorem cw_X8_pair : Cond.code MX8_pair.1 MX8_pair.2.1 MX8_pair.2.2.1 MX8_pair.2.2.2 ∈ aT := aT_in 382 (by decide +kernel) rfl
def MX8_bit : MI := (yX8_bit, cX8_bit, 1, some .int)
theorem cw_X8_bit : Cond.code MX8_bit.1 MX8_bit.2.1 MX8_bit.2.2.1 MX8_bit.2.2.2 ∈ aT := aT_in 371 (by decide +kernel) rfl
def MX8_greatestCommon : MI := (yX8_greatestCommon, cX8_greatestCommon, 11, some .long)
theorem cw_X8_greatestCommon : Cond.code MX8_greatestCommon.1 MX8_greatestCommon.2.1 MX8_greatestCommon.2.2.1 MX8_greatestCommon.2.2.2 ∈ aT := aT_in 557 (by decide +kernel) rfl
def MX9_init : MI := (yX9_init, cX9_init, 1, none)
theorem cw_X9_init : Cond.code MX9_init.1 MX9_init.2.1 MX9_init.2.2.1 MX9_init.2.2.2 ∈ aT := aT_in 728 (by decide +kernel) rfl
def MX9_in : MI := (yX9_in, cX9_in, 6, some .boolean)
theorem cw_X9_in : Cond.code MX9_in.1 MX9_in.2.1 MX9_in.2.2.1 MX9_in.2.2.2 ∈ aT := aT_in 894 (by decide +kernel) rfl
def MX9_letters : MI := (yX9_letters, cX9_letters, 9, some .int)
theorem cw_X9_letters : Cond.code MX9_letters.1 MX9_letters.2.1 MX9_letters.2.2.1 MX9_letters.2.2.2 ∈ aT := aT_in 872 (by decide +kernel) rfl
def MX9_blank : MI := (yX9_blank, cX9_blank, 2, some .int)
theorem cw_X9_blank : Cond.code MX9_blank.1 MX9_blank.2.1 MX9_blank.2.2.1 MX9_blank.2.2.2 ∈ aT := aT_in 877 (by decide +kernel) rfl
def MX9_go : MI := (yX9_go, cX9_go, 3, some .boolean)
theorem cw_X9_go : Cond.code MX9_go.1 MX9_go.2.1 MX9_go.2.2.1 MX9_go.2.2.2 ∈ aT := aT_in 889 (by decide +kernel) rfl
def MX9_faultOf : MI := (yX9_faultOf, cX9_faultOf, 2, some .int)
theorem cw_X9_faultOf : Cond.code MX9_faultOf.1 MX9_faultOf.2.1 MX9_faultOf.2.2.1 MX9_faultOf.2.2.2 ∈ aT := aT_in 885 (by decide +kernel) rfl
def MX9_fault : MI := (yX9_fault, cX9_fault, 1, some .int)
theorem cw_X9_fault : Cond.code MX9_fault.1 MX9_fault.2.1 MX9_fault.2.2.1 MX9_fault.2.2.2 ∈ aT := aT_in 881 (by decide +kernel) rfl
def MX9_law : MI := (yX9_law, cX9_law, 1, some .int)
theorem cw_X9_law : Cond.code MX9_law.1 MX9_law.2.1 MX9_law.2.2.1 MX9_law.2.2.2 ∈ aT := aT_in 899 (by decide +kernel) rfl
def MX9_tellLaw : MI := (yX9_tellLaw, cX9_tellLaw, 2, some .int)
theorem cw_X9_tellLaw : Cond.code MX9_tellLaw.1 MX9_tellLaw.2.1 MX9_tellLaw.2.2.1 MX9_tellLaw.2.2.2 ∈ aT := aT_in 907 (by decide +kernel) rfl
def MX9_lawTold : MI := (yX9_lawTold, cX9_lawTold, 2, some .int)
theorem cw_X9_lawTold : Cond.code MX9_lawTold.1 MX9_lawTold.2.1 MX9_lawTold.2.2.1 MX9_lawTold.2.2.2 ∈ aT := aT_in 903 (by decide +kernel) rfl
def MX9_isPerson : MI := (yX9_isPerson, cX9_isPerson, 2, some .boolean)
theorem cw_X9_isPerson : Cond.code MX9_isPerson.1 MX9_isPerson.2.1 MX9_isPerson.2.2.1 MX9_isPerson.2.2.2 ∈ aT := aT_in 924 (by decide +kernel) rfl
def MX9_arePair : MI := (yX9_arePair, cX9_arePair, 3, some .boolean)
theorem cw_X9_arePair : Cond.code MX9_arePair.1 MX9_arePair.2.1 MX9_arePair.2.2.1 MX9_arePair.2.2.2 ∈ aT := aT_in 920 (by decide +kernel) rfl
def MX9_person : MI := (yX9_person, cX9_person, 2, some .int)
theorem cw_X9_person : Cond.code MX9_person.1 MX9_person.2.1 MX9_person.2.2.1 MX9_person.2.2.2 ∈ aT := aT_in 911 (by decide +kernel) rfl
def MX9_know : MI := (yX9_know, cX9_know, 5, some .int)
theorem cw_X9_know : Cond.code MX9_know.1 MX9_know.2.1 MX9_know.2.2.1 MX9_know.2.2.2 ∈ aT := aT_in 916 (by decide +kernel) rfl
def MX9_like : MI := (yX9_like, cX9_like, 5, some .int)
theorem cw_X9_like : Cond.code MX9_like.1 MX9_like.2.1 MX9_like.2.2.1 MX9_like.2.2.2 ∈ aT := aT_in 928 (by decide +kernel) rfl
def MX9_isGift : MI := (yX9_isGift, cX9_isGift, 2, some .boolean)
theorem cw_X9_isGift : Cond.code MX9_isGift.1 MX9_isGift.2.1 MX9_isGift.2.2.1 MX9_isGift.2.2.2 ∈ aT := aT_in 971 (by decide +kernel) rfl
def MX9_lives : MI := (yX9_lives, cX9_lives, 2, some .boolean)
theorem cw_X9_lives : Cond.code MX9_lives.1 MX9_lives.2.1 MX9_lives.2.2.1 MX9_lives.2.2.2 ∈ aT := aT_in 945 (by decide +kernel) rfl
def MX9_holds : MI := (yX9_holds, cX9_holds, 4, some .int)
theorem cw_X9_holds : Cond.code MX9_holds.1 MX9_holds.2.1 MX9_holds.2.2.1 MX9_holds.2.2.2 ∈ aT := aT_in 941 (by decide +kernel) rfl
def MX9_tellPerson : MI := (yX9_tellPerson, cX9_tellPerson, 3, some .int)
theorem cw_X9_tellPerson : Cond.code MX9_tellPerson.1 MX9_tellPerson.2.1 MX9_tellPerson.2.2.1 MX9_tellPerson.2.2.2 ∈ aT := aT_in 937 (by decide +kernel) rfl
def MX9_about : MI := (yX9_about, cX9_about, 3, some .int)
theorem cw_X9_about : Cond.code MX9_about.1 MX9_about.2.1 MX9_about.2.2.1 MX9_about.2.2.2 ∈ aT := aT_in 933 (by decide +kernel) rfl
def MX9_owes : MI := (yX9_owes, cX9_owes, 3, some .int)
theorem cw_X9_owes : Cond.code MX9_owes.1 MX9_owes.2.1 MX9_owes.2.2.1 MX9_owes.2.2.2 ∈ aT := aT_in 949 (by decide +kernel) rfl
def MX9_restOf : MI := (yX9_restOf, cX9_restOf, 4, some .int)
theorem cw_X9_restOf : Cond.code MX9_restOf.1 MX9_restOf.2.1 MX9_restOf.2.2.1 MX9_restOf.2.2.2 ∈ aT := aT_in 957 (by decide +kernel) rfl
def MX9_rest : MI := (yX9_rest, cX9_rest, 2, some .int)
theorem cw_X9_rest : Cond.code MX9_rest.1 MX9_rest.2.1 MX9_rest.2.2.1 MX9_rest.2.2.2 ∈ aT := aT_in 953 (by decide +kernel) rfl
def MX9_gift : MI := (yX9_gift, cX9_gift, 4, some .int)
theorem cw_X9_gift : Cond.code MX9_gift.1 MX9_gift.2.1 MX9_gift.2.2.1 MX9_gift.2.2.2 ∈ aT := aT_in 962 (by decide +kernel) rfl
def MX9_worthOf : MI := (yX9_worthOf, cX9_worthOf, 4, some .int)
theorem cw_X9_worthOf : Cond.code MX9_worthOf.1 MX9_worthOf.2.1 MX9_worthOf.2.2.1 MX9_worthOf.2.2.2 ∈ aT := aT_in 979 (by decide +kernel) rfl
def MX9_tellGift : MI := (yX9_tellGift, cX9_tellGift, 3, some .int)
theorem cw_X9_tellGift : Cond.code MX9_tellGift.1 MX9_tellGift.2.1 MX9_tellGift.2.2.1 MX9_tellGift.2.2.2 ∈ aT := aT_in 975 (by decide +kernel) rfl
def MX9_told : MI := (yX9_told, cX9_told, 3, some .int)
theorem cw_X9_told : Cond.code MX9_told.1 MX9_told.2.1 MX9_told.2.2.1 MX9_told.2.2.2 ∈ aT := aT_in 967 (by decide +kernel) rfl
def MX9_as : MI := (yX9_as, cX9_as, 5, some .int)
theorem cw_X9_as : Cond.code MX9_as.1 MX9_as.2.1 MX9_as.2.2.1 MX9_as.2.2.2 ∈ aT := aT_in 984 (by decide +kernel) rfl
def MX9_mayHave : MI := (yX9_mayHave, cX9_mayHave, 4, some .int)
theorem cw_X9_mayHave : Cond.code MX9_mayHave.1 MX9_mayHave.2.1 MX9_mayHave.2.2.1 MX9_mayHave.2.2.2 ∈ aT := aT_in 996 (by decide +kernel) rfl
def MX9_mayOf : MI := (yX9_mayOf, cX9_mayOf, 2, some .int)
theorem cw_X9_mayOf : Cond.code MX9_mayOf.1 MX9_mayOf.2.1 MX9_mayOf.2.2.1 MX9_mayOf.2.2.2 ∈ aT := aT_in 992 (by decide +kernel) rfl
def MX9_may : MI := (yX9_may, cX9_may, 2, some .int)
theorem cw_X9_may : Cond.code MX9_may.1 MX9_may.2.1 MX9_may.2.2.1 MX9_may.2.2.2 ∈ aT := aT_in 988 (by decide +kernel) rfl
def MX9_goOn : MI := (yX9_goOn, cX9_goOn, 6, some .int)
theorem cw_X9_goOn : Cond.code MX9_goOn.1 MX9_goOn.2.1 MX9_goOn.2.2.1 MX9_goOn.2.2.2 ∈ aT := aT_in 1004 (by decide +kernel) rfl
def MX9_give : MI := (yX9_give, cX9_give, 3, some .int)
theorem cw_X9_give : Cond.code MX9_give.1 MX9_give.2.1 MX9_give.2.2.1 MX9_give.2.2.2 ∈ aT := aT_in 1000 (by decide +kernel) rfl
def MX9_ones : MI := (yX9_ones, cX9_ones, 3, some .int)
theorem cw_X9_ones : Cond.code MX9_ones.1 MX9_ones.2.1 MX9_ones.2.2.1 MX9_ones.2.2.2 ∈ aT := aT_in 1020 (by decide +kernel) rfl
def MX9_byHabit : MI := (yX9_byHabit, cX9_byHabit, 7, some .int)
theorem cw_X9_byHabit : Cond.code MX9_byHabit.1 MX9_byHabit.2.1 MX9_byHabit.2.2.1 MX9_byHabit.2.2.2 ∈ aT := aT_in 1032 (by decide +kernel) rfl
def MX9_draw : MI := (yX9_draw, cX9_draw, 2, some .int)
theorem cw_X9_draw : Cond.code MX9_draw.1 MX9_draw.2.1 MX9_draw.2.2.1 MX9_draw.2.2.2 ∈ aT := aT_in 1024 (by decide +kernel) rfl
def MX9_byDraw : MI := (yX9_byDraw, cX9_byDraw, 4, some .int)
theorem cw_X9_byDraw : Cond.code MX9_byDraw.1 MX9_byDraw.2.1 MX9_byDraw.2.2.1 MX9_byDraw.2.2.2 ∈ aT := aT_in 1017 (by decide +kernel) rfl
def MX9_year : MI := (yX9_year, cX9_year, 9, some .int)
theorem cw_X9_year : Cond.code MX9_year.1 MX9_year.2.1 MX9_year.2.2.1 MX9_year.2.2.2 ∈ aT := aT_in 1013 (by decide +kernel) rfl
def MX9_years : MI := (yX9_years, cX9_years, 5, some .int)
theorem cw_X9_years : Cond.code MX9_years.1 MX9_years.2.1 MX9_years.2.2.1 MX9_years.2.2.2 ∈ aT := aT_in 1008 (by decide +kernel) rfl
def MX9_goAll : MI := (yX9_goAll, cX9_goAll, 11, some .long)
theorem cw_X9_goAll : Cond.code MX9_goAll.1 MX9_goAll.2.1 MX9_goAll.2.2.1 MX9_goAll.2.2.2 ∈ aT := aT_in 1048 (by decide +kernel) rfl
def MX9_beginWays : MI := (yX9_beginWays, cX9_beginWays, 3, none)
theorem cw_X9_beginWays : Cond.code MX9_beginWays.1 MX9_beginWays.2.1 MX9_beginWays.2.2.1 MX9_beginWays.2.2.2 ∈ aT := aT_in 1044 (by decide +kernel) rfl
def MX9_layWays : MI := (yX9_layWays, cX9_layWays, 3, none)
theorem cw_X9_layWays : Cond.code MX9_layWays.1 MX9_layWays.2.1 MX9_layWays.2.2.1 MX9_layWays.2.2.2 ∈ aT := aT_in 1040 (by decide +kernel) rfl
def MX9_ways : MI := (yX9_ways, cX9_ways, 3, some .int)
theorem cw_X9_ways : Cond.code MX9_ways.1 MX9_ways.2.1 MX9_ways.2.2.1 MX9_ways.2.2.2 ∈ aT := aT_in 1036 (by decide +kernel) rfl
def MX9_soonestOf : MI := (yX9_soonestOf, cX9_soonestOf, 3, some .int)
theorem cw_X9_soonestOf : Cond.code MX9_soonestOf.1 MX9_soonestOf.2.1 MX9_soonestOf.2.2.1 MX9_soonestOf.2.2.2 ∈ aT := aT_in 1056 (by decide +kernel) rfl
def MX9_soonest : MI := (yX9_soonest, cX9_soonest, 2, some .int)
theorem cw_X9_soonest : Cond.code MX9_soonest.1 MX9_soonest.2.1 MX9_soonest.2.2.1 MX9_soonest.2.2.2 ∈ aT := aT_in 1052 (by decide +kernel) rfl
def MX9_term : MI := (yX9_term, cX9_term, 11, some .long)
theorem cw_X9_term : Cond.code MX9_term.1 MX9_term.2.1 MX9_term.2.2.1 MX9_term.2.2.2 ∈ aT := aT_in 1068 (by decide +kernel) rfl
def MX9_likely : MI := (yX9_likely, cX9_likely, 11, some .long)
theorem cw_X9_likely : Cond.code MX9_likely.1 MX9_likely.2.1 MX9_likely.2.2.1 MX9_likely.2.2.2 ∈ aT := aT_in 1060 (by decide +kernel) rfl
def MX9_trapsOf : MI := (yX9_trapsOf, cX9_trapsOf, 3, some .int)
theorem cw_X9_trapsOf : Cond.code MX9_trapsOf.1 MX9_trapsOf.2.1 MX9_trapsOf.2.2.1 MX9_trapsOf.2.2.2 ∈ aT := aT_in 1076 (by decide +kernel) rfl
def MX9_traps : MI := (yX9_traps, cX9_traps, 1, some .int)
theorem cw_X9_traps : Cond.code MX9_traps.1 MX9_traps.2.1 MX9_traps.2.2.1 MX9_traps.2.2.2 ∈ aT := aT_in 1072 (by decide +kernel) rfl
def MX9_layRound : MI := (yX9_layRound, cX9_layRound, 8, none)
theorem cw_X9_layRound : Cond.code MX9_layRound.1 MX9_layRound.2.1 MX9_layRound.2.2.1 MX9_layRound.2.2.2 ∈ aT := aT_in 1090 (by decide +kernel) rfl
def MX9_tellRound : MI := (yX9_tellRound, cX9_tellRound, 3, some .int)
theorem cw_X9_tellRound : Cond.code MX9_tellRound.1 MX9_tellRound.2.1 MX9_tellRound.2.2.1 MX9_tellRound.2.2.2 ∈ aT := aT_in 1086 (by decide +kernel) rfl
def MX9_round : MI := (yX9_round, cX9_round, 2, some .int)
theorem cw_X9_round : Cond.code MX9_round.1 MX9_round.2.1 MX9_round.2.2.1 MX9_round.2.2.2 ∈ aT := aT_in 1080 (by decide +kernel) rfl
def MX9_layFar : MI := (yX9_layFar, cX9_layFar, 6, none)
theorem cw_X9_layFar : Cond.code MX9_layFar.1 MX9_layFar.2.1 MX9_layFar.2.2.1 MX9_layFar.2.2.2 ∈ aT := aT_in 1102 (by decide +kernel) rfl
def MX9_tellStranger : MI := (yX9_tellStranger, cX9_tellStranger, 5, some .int)
theorem cw_X9_tellStranger : Cond.code MX9_tellStranger.1 MX9_tellStranger.2.1 MX9_tellStranger.2.2.1 MX9_tellStranger.2.2.2 ∈ aT := aT_in 1098 (by decide +kernel) rfl
def MX9_stranger : MI := (yX9_stranger, cX9_stranger, 4, some .int)
theorem cw_X9_stranger : Cond.code MX9_stranger.1 MX9_stranger.2.1 MX9_stranger.2.2.1 MX9_stranger.2.2.2 ∈ aT := aT_in 1094 (by decide +kernel) rfl
def MX9_livesMany : MI := (yX9_livesMany, cX9_livesMany, 3, some .int)
theorem cw_X9_livesMany : Cond.code MX9_livesMany.1 MX9_livesMany.2.1 MX9_livesMany.2.2.1 MX9_livesMany.2.2.2 ∈ aT := aT_in 1113 (by decide +kernel) rfl
def MX9_copy : MI := (yX9_copy, cX9_copy, 4, none)
theorem cw_X9_copy : Cond.code MX9_copy.1 MX9_copy.2.1 MX9_copy.2.2.1 MX9_copy.2.2.2 ∈ aT := aT_in 1109 (by decide +kernel) rfl
def MX9_drawn : MI := (yX9_drawn, cX9_drawn, 8, some .int)
theorem cw_X9_drawn : Cond.code MX9_drawn.1 MX9_drawn.2.1 MX9_drawn.2.2.1 MX9_drawn.2.2.2 ∈ aT := aT_in 1106 (by decide +kernel) rfl
def MX9_open : MI := (yX9_open, cX9_open, 4, some .int)
theorem cw_X9_open : Cond.code MX9_open.1 MX9_open.2.1 MX9_open.2.2.1 MX9_open.2.2.2 ∈ aT := aT_in 1117 (by decide +kernel) rfl
def MX9_isYear : MI := (yX9_isYear, cX9_isYear, 2, some .boolean)
theorem cw_X9_isYear : Cond.code MX9_isYear.1 MX9_isYear.2.1 MX9_isYear.2.2.1 MX9_isYear.2.2.2 ∈ aT := aT_in 1125 (by decide +kernel) rfl
def MX9_write : MI := (yX9_write, cX9_write, 4, some .int)
theorem cw_X9_write : Cond.code MX9_write.1 MX9_write.2.1 MX9_write.2.2.1 MX9_write.2.2.2 ∈ aT := aT_in 1121 (by decide +kernel) rfl
def MX9_filledOf : MI := (yX9_filledOf, cX9_filledOf, 6, some .int)
theorem cw_X9_filledOf : Cond.code MX9_filledOf.1 MX9_filledOf.2.1 MX9_filledOf.2.2.1 MX9_filledOf.2.2.2 ∈ aT := aT_in 1133 (by decide +kernel) rfl
def MX9_filled : MI := (yX9_filled, cX9_filled, 1, some .int)
theorem cw_X9_filled : Cond.code MX9_filled.1 MX9_filled.2.1 MX9_filled.2.2.1 MX9_filled.2.2.2 ∈ aT := aT_in 1129 (by decide +kernel) rfl
def MX9_sure : MI := (yX9_sure, cX9_sure, 7, some .int)
theorem cw_X9_sure : Cond.code MX9_sure.1 MX9_sure.2.1 MX9_sure.2.2.1 MX9_sure.2.2.2 ∈ aT := aT_in 1137 (by decide +kernel) rfl
def MX9_image : MI := (yX9_image, cX9_image, 1, some .int)
theorem cw_X9_image : Cond.code MX9_image.1 MX9_image.2.1 MX9_image.2.2.1 MX9_image.2.2.2 ∈ aT := aT_in 1141 (by decide +kernel) rfl
def MX9_restore : MI := (yX9_restore, cX9_restore, 1, some .int)
theorem cw_X9_restore : Cond.code MX9_restore.1 MX9_restore.2.1 MX9_restore.2.2.1 MX9_restore.2.2.2 ∈ aT := aT_in 1145 (by decide +kernel) rfl
def MX9_countOf : MI := (yX9_countOf, cX9_countOf, 2, some .int)
theorem cw_X9_countOf : Cond.code MX9_countOf.1 MX9_countOf.2.1 MX9_countOf.2.2.1 MX9_countOf.2.2.2 ∈ aT := aT_in 1153 (by decide +kernel) rfl
def MX9_count : MI := (yX9_count, cX9_count, 2, some .int)
theorem cw_X9_count : Cond.code MX9_count.1 MX9_count.2.1 MX9_count.2.2.1 MX9_count.2.2.2 ∈ aT := aT_in 1149 (by decide +kernel) rfl
def MX9_say : MI := (yX9_say, cX9_say, 3, none)
theorem cw_X9_say : Cond.code MX9_say.1 MX9_say.2.1 MX9_say.2.2.1 MX9_say.2.2.2 ∈ aT := aT_in 1162 (by decide +kernel) rfl
def MX9_sayGift : MI := (yX9_sayGift, cX9_sayGift, 3, none)
theorem cw_X9_sayGift : Cond.code MX9_sayGift.1 MX9_sayGift.2.1 MX9_sayGift.2.2.1 MX9_sayGift.2.2.2 ∈ aT := aT_in 1167 (by decide +kernel) rfl
def MX9_digest : MI := (yX9_digest, cX9_digest, 3, some .long)
theorem cw_X9_digest : Cond.code MX9_digest.1 MX9_digest.2.1 MX9_digest.2.2.1 MX9_digest.2.2.2 ∈ aT := aT_in 1157 (by decide +kernel) rfl
def MX0_init : MI := (yX0_init, cX0_init, 1, none)
theorem cw_X0_init : Cond.code MX0_init.1 MX0_init.2.1 MX0_init.2.2.1 MX0_init.2.2.2 ∈ aT := aT_in 248 (by decide +kernel) rfl
def MX0_isOpen : MI := (yX0_isOpen, cX0_isOpen, 1, some .boolean)
theorem cw_X0_isOpen : Cond.code MX0_isOpen.1 MX0_isOpen.2.1 MX0_isOpen.2.2.1 MX0_isOpen.2.2.2 ∈ aT := aT_in 652 (by decide +kernel) rfl
def MX0_hasYear : MI := (yX0_hasYear, cX0_hasYear, 2, some .boolean)
theorem cw_X0_hasYear : Cond.code MX0_hasYear.1 MX0_hasYear.2.1 MX0_hasYear.2.2.1 MX0_hasYear.2.2.2 ∈ aT := aT_in 656 (by decide +kernel) rfl
def MX0_begin : MI := (yX0_begin, cX0_begin, 4, none)
theorem cw_X0_begin : Cond.code MX0_begin.1 MX0_begin.2.1 MX0_begin.2.2.1 MX0_begin.2.2.2 ∈ aT := aT_in 644 (by decide +kernel) rfl
def MX0_fillings : MI := (yX0_fillings, cX0_fillings, 4, some .int)
theorem cw_X0_fillings : Cond.code MX0_fillings.1 MX0_fillings.2.1 MX0_fillings.2.2.1 MX0_fillings.2.2.2 ∈ aT := aT_in 665 (by decide +kernel) rfl
def MX0_onlyOneIn : MI := (yX0_onlyOneIn, cX0_onlyOneIn, 8, some .int)
theorem cw_X0_onlyOneIn : Cond.code MX0_onlyOneIn.1 MX0_onlyOneIn.2.1 MX0_onlyOneIn.2.2.1 MX0_onlyOneIn.2.2.2 ∈ aT := aT_in 683 (by decide +kernel) rfl
def MX1_init : MI := (yX1_init, cX1_init, 1, none)
theorem cw_X1_init : Cond.code MX1_init.1 MX1_init.2.1 MX1_init.2.2.1 MX1_init.2.2.2 ∈ aT := aT_in 234 (by decide +kernel) rfl
def MX1_find : MI := (yX1_find, cX1_find, 5, none)
theorem cw_X1_find : Cond.code MX1_find.1 MX1_find.2.1 MX1_find.2.2.1 MX1_find.2.2.2 ∈ aT := aT_in 571 (by decide +kernel) rfl
def MX1_mostBehind : MI := (yX1_mostBehind, cX1_mostBehind, 5, some .int)
theorem cw_X1_mostBehind : Cond.code MX1_mostBehind.1 MX1_mostBehind.2.1 MX1_mostBehind.2.2.1 MX1_mostBehind.2.2.2 ∈ aT := aT_in 575 (by decide +kernel) rfl
def MX1_firstOfMost : MI := (yX1_firstOfMost, cX1_firstOfMost, 5, some .int)
theorem cw_X1_firstOfMost : Cond.code MX1_firstOfMost.1 MX1_firstOfMost.2.1 MX1_firstOfMost.2.2.1 MX1_firstOfMost.2.2.2 ∈ aT := aT_in 588 (by decide +kernel) rfl
def MX1_mostBy : MI := (yX1_mostBy, cX1_mostBy, 6, some .int)
theorem cw_X1_mostBy : Cond.code MX1_mostBy.1 MX1_mostBy.2.1 MX1_mostBy.2.2.1 MX1_mostBy.2.2.2 ∈ aT := aT_in 579 (by decide +kernel) rfl
def MX1_isThere : MI := (yX1_isThere, cX1_isThere, 1, some .boolean)
theorem cw_X1_isThere : Cond.code MX1_isThere.1 MX1_isThere.2.1 MX1_isThere.2.2.1 MX1_isThere.2.2.2 ∈ aT := aT_in 592 (by decide +kernel) rfl
def MX1_likingTogether : MI := (yX1_likingTogether, cX1_likingTogether, 1, some .int)
theorem cw_X1_likingTogether : Cond.code MX1_likingTogether.1 MX1_likingTogether.2.1 MX1_likingTogether.2.2.1 MX1_likingTogether.2.2.2 ∈ aT := aT_in 597 (by decide +kernel) rfl
def MX2_init : MI := (yX2_init, cX2_init, 1, none)
theorem cw_X2_init : Cond.code MX2_init.1 MX2_init.2.1 MX2_init.2.2.1 MX2_init.2.2.2 ∈ aT := aT_in 209 (by decide +kernel) rfl
def MX2_oneOf : MI := (yX2_oneOf, cX2_oneOf, 5, some .int)
theorem cw_X2_oneOf : Cond.code MX2_oneOf.1 MX2_oneOf.2.1 MX2_oneOf.2.2.1 MX2_oneOf.2.2.2 ∈ aT := aT_in 501 (by decide +kernel) rfl
def MX3_init : MI := (yX3_init, cX3_init, 1, none)
theorem cw_X3_init : Cond.code MX3_init.1 MX3_init.2.1 MX3_init.2.2.1 MX3_init.2.2.2 ∈ aT := aT_in 125 (by decide +kernel) rfl
def MX3_begin : MI := (yX3_begin, cX3_begin, 3, none)
theorem cw_X3_begin : Cond.code MX3_begin.1 MX3_begin.2.1 MX3_begin.2.2.1 MX3_begin.2.2.2 ∈ aT := aT_in 420 (by decide +kernel) rfl
def MX3_copyFrom : MI := (yX3_copyFrom, cX3_copyFrom, 2, none)
theorem cw_X3_copyFrom : Cond.code MX3_copyFrom.1 MX3_copyFrom.2.1 MX3_copyFrom.2.2.1 MX3_copyFrom.2.2.2 ∈ aT := aT_in 628 (by decide +kernel) rfl
def MX3_lives : MI := (yX3_lives, cX3_lives, 1, some .boolean)
theorem cw_X3_lives : Cond.code MX3_lives.1 MX3_lives.2.1 MX3_lives.2.2.1 MX3_lives.2.2.2 ∈ aT := aT_in 394 (by decide +kernel) rfl
def MX3_isOf : MI := (yX3_isOf, cX3_isOf, 2, some .boolean)
theorem cw_X3_isOf : Cond.code MX3_isOf.1 MX3_isOf.2.1 MX3_isOf.2.2.1 MX3_isOf.2.2.2 ∈ aT := aT_in 446 (by decide +kernel) rfl
def MX3_worth : MI := (yX3_worth, cX3_worth, 2, some .int)
theorem cw_X3_worth : Cond.code MX3_worth.1 MX3_worth.2.1 MX3_worth.2.2.1 MX3_worth.2.2.2 ∈ aT := aT_in 432 (by decide +kernel) rfl
def MX3_mustGo : MI := (yX3_mustGo, cX3_mustGo, 2, some .boolean)
theorem cw_X3_mustGo : Cond.code MX3_mustGo.1 MX3_mustGo.2.1 MX3_mustGo.2.2.1 MX3_mustGo.2.2.2 ∈ aT := aT_in 486 (by decide +kernel) rfl
def MX3_moveTo : MI := (yX3_moveTo, cX3_moveTo, 3, none)
theorem cw_X3_moveTo : Cond.code MX3_moveTo.1 MX3_moveTo.2.1 MX3_moveTo.2.2.1 MX3_moveTo.2.2.2 ∈ aT := aT_in 473 (by decide +kernel) rfl
def MX4_init : MI := (yX4_init, cX4_init, 1, none)
theorem cw_X4_init : Cond.code MX4_init.1 MX4_init.2.1 MX4_init.2.2.1 MX4_init.2.2.2 ∈ aT := aT_in 91 (by decide +kernel) rfl
def MX4_readFrom : MI := (yX4_readFrom, cX4_readFrom, 5, none)
theorem cw_X4_readFrom : Cond.code MX4_readFrom.1 MX4_readFrom.2.1 MX4_readFrom.2.2.1 MX4_readFrom.2.2.2 ∈ aT := aT_in 339 (by decide +kernel) rfl
def MX5_init : MI := (yX5_init, cX5_init, 1, none)
theorem cw_X5_init : Cond.code MX5_init.1 MX5_init.2.1 MX5_init.2.2.1 MX5_init.2.2.2 ∈ aT := aT_in 73 (by decide +kernel) rfl
def MX5_lettersIn : MI := (yX5_lettersIn, cX5_lettersIn, 6, some .int)
theorem cw_X5_lettersIn : Cond.code MX5_lettersIn.1 MX5_lettersIn.2.1 MX5_lettersIn.2.2.1 MX5_lettersIn.2.2.2 ∈ aT := aT_in 301 (by decide +kernel) rfl
def MX5_byteOf : MI := (yX5_byteOf, cX5_byteOf, 3, some .int)
theorem cw_X5_byteOf : Cond.code MX5_byteOf.1 MX5_byteOf.2.1 MX5_byteOf.2.2.1 MX5_byteOf.2.2.2 ∈ aT := aT_in 304 (by decide +kernel) rfl
def MX5_append : MI := (yX5_append, cX5_append, 5, none)
theorem cw_X5_append : Cond.code MX5_append.1 MX5_append.2.1 MX5_append.2.2.1 MX5_append.2.2.2 ∈ aT := aT_in 309 (by decide +kernel) rfl
def MX5_firstFault : MI := (yX5_firstFault, cX5_firstFault, 3, some .int)
theorem cw_X5_firstFault : Cond.code MX5_firstFault.1 MX5_firstFault.2.1 MX5_firstFault.2.2.1 MX5_firstFault.2.2.2 ∈ aT := aT_in 321 (by decide +kernel) rfl
def MX5_isLaw : MI := (yX5_isLaw, cX5_isLaw, 3, some .boolean)
theorem cw_X5_isLaw : Cond.code MX5_isLaw.1 MX5_isLaw.2.1 MX5_isLaw.2.2.1 MX5_isLaw.2.2.2 ∈ aT := aT_in 335 (by decide +kernel) rfl
def MX5_behind : MI := (yX5_behind, cX5_behind, 2, some .int)
theorem cw_X5_behind : Cond.code MX5_behind.1 MX5_behind.2.1 MX5_behind.2.2.1 MX5_behind.2.2.2 ∈ aT := aT_in 324 (by decide +kernel) rfl
def MX6_init : MI := (yX6_init, cX6_init, 1, none)
theorem cw_X6_init : Cond.code MX6_init.1 MX6_init.2.1 MX6_init.2.2.1 MX6_init.2.2.2 ∈ aT := aT_in 220 (by decide +kernel) rfl
def MX6_begin : MI := (yX6_begin, cX6_begin, 3, none)
theorem cw_X6_begin : Cond.code MX6_begin.1 MX6_begin.2.1 MX6_begin.2.2.1 MX6_begin.2.2.2 ∈ aT := aT_in 521 (by decide +kernel) rfl
def MX6_goOn : MI := (yX6_goOn, cX6_goOn, 14, some .long)
theorem cw_X6_goOn : Cond.code MX6_goOn.1 MX6_goOn.2.1 MX6_goOn.2.2.1 MX6_goOn.2.2.2 ∈ aT := aT_in 531 (by decide +kernel) rfl
def MX6_spread : MI := (yX6_spread, cX6_spread, 6, none)
theorem cw_X6_spread : Cond.code MX6_spread.1 MX6_spread.2.1 MX6_spread.2.2.1 MX6_spread.2.2.2 ∈ aT := aT_in 539 (by decide +kernel) rfl
def MX6_keepOnly : MI := (yX6_keepOnly, cX6_keepOnly, 3, none)
theorem cw_X6_keepOnly : Cond.code MX6_keepOnly.1 MX6_keepOnly.2.1 MX6_keepOnly.2.2.1 MX6_keepOnly.2.2.2 ∈ aT := aT_in 671 (by decide +kernel) rfl
def MX6_sum : MI := (yX6_sum, cX6_sum, 4, some .long)
theorem cw_X6_sum : Cond.code MX6_sum.1 MX6_sum.2.1 MX6_sum.2.2.1 MX6_sum.2.2.2 ∈ aT := aT_in 675 (by decide +kernel) rfl
def MX6_spot : MI := (yX6_spot, cX6_spot, 2, some .int)
theorem cw_X6_spot : Cond.code MX6_spot.1 MX6_spot.2.1 MX6_spot.2.2.1 MX6_spot.2.2.2 ∈ aT := aT_in 527 (by decide +kernel) rfl
def MX6_clear : MI := (yX6_clear, cX6_clear, 2, none)
theorem cw_X6_clear : Cond.code MX6_clear.1 MX6_clear.2.1 MX6_clear.2.2.1 MX6_clear.2.2.2 ∈ aT := aT_in 524 (by decide +kernel) rfl
def MX7_init : MI := (yX7_init, cX7_init, 2, none)
theorem cw_X7_init : Cond.code MX7_init.1 MX7_init.2.1 MX7_init.2.2.1 MX7_init.2.2.2 ∈ aT := aT_in 118 (by decide +kernel) rfl
def MX7_copyFrom : MI := (yX7_copyFrom, cX7_copyFrom, 3, none)
theorem cw_X7_copyFrom : Cond.code MX7_copyFrom.1 MX7_copyFrom.2.1 MX7_copyFrom.2.2.1 MX7_copyFrom.2.2.2 ∈ aT := aT_in 623 (by decide +kernel) rfl
def MX7_addPerson : MI := (yX7_addPerson, cX7_addPerson, 2, some .int)
theorem cw_X7_addPerson : Cond.code MX7_addPerson.1 MX7_addPerson.2.1 MX7_addPerson.2.2.1 MX7_addPerson.2.2.2 ∈ aT := aT_in 352 (by decide +kernel) rfl
def MX7_addGift : MI := (yX7_addGift, cX7_addGift, 3, some .int)
theorem cw_X7_addGift : Cond.code MX7_addGift.1 MX7_addGift.2.1 MX7_addGift.2.2.1 MX7_addGift.2.2.2 ∈ aT := aT_in 416 (by decide +kernel) rfl
def MX7_knows : MI := (yX7_knows, cX7_knows, 3, some .boolean)
theorem cw_X7_knows : Cond.code MX7_knows.1 MX7_knows.2.1 MX7_knows.2.2.1 MX7_knows.2.2.2 ∈ aT := aT_in 368 (by decide +kernel) rfl
def MX7_setKnown : MI := (yX7_setKnown, cX7_setKnown, 4, none)
theorem cw_X7_setKnown : Cond.code MX7_setKnown.1 MX7_setKnown.2.1 MX7_setKnown.2.2.1 MX7_setKnown.2.2.2 ∈ aT := aT_in 375 (by decide +kernel) rfl
def MX7_heldBy : MI := (yX7_heldBy, cX7_heldBy, 4, some .int)
theorem cw_X7_heldBy : Cond.code MX7_heldBy.1 MX7_heldBy.2.1 MX7_heldBy.2.2.1 MX7_heldBy.2.2.2 ∈ aT := aT_in 390 (by decide +kernel) rfl
def MX7_living : MI := (yX7_living, cX7_living, 3, some .int)
theorem cw_X7_living : Cond.code MX7_living.1 MX7_living.2.1 MX7_living.2.2.1 MX7_living.2.2.2 ∈ aT := aT_in 632 (by decide +kernel) rfl
def MX7_allFeasts : MI := (yX7_allFeasts, cX7_allFeasts, 3, some .int)
theorem cw_X7_allFeasts : Cond.code MX7_allFeasts.1 MX7_allFeasts.2.1 MX7_allFeasts.2.2.1 MX7_allFeasts.2.2.2 ∈ aT := aT_in 636 (by decide +kernel) rfl
def MX7_balance : MI := (yX7_balance, cX7_balance, 4, some .int)
theorem cw_X7_balance : Cond.code MX7_balance.1 MX7_balance.2.1 MX7_balance.2.2.1 MX7_balance.2.2.2 ∈ aT := aT_in 407 (by decide +kernel) rfl
def MX7_mayHave : MI := (yX7_mayHave, cX7_mayHave, 5, some .int)
theorem cw_X7_mayHave : Cond.code MX7_mayHave.1 MX7_mayHave.2.1 MX7_mayHave.2.2.1 MX7_mayHave.2.2.2 ∈ aT := aT_in 459 (by decide +kernel) rfl
def MX7_handOn : MI := (yX7_handOn, cX7_handOn, 4, none)
theorem cw_X7_handOn : Cond.code MX7_handOn.1 MX7_handOn.2.1 MX7_handOn.2.2.1 MX7_handOn.2.2.2 ∈ aT := aT_in 468 (by decide +kernel) rfl
def MX7_passYear : MI := (yX7_passYear, cX7_passYear, 9, some .int)
theorem cw_X7_passYear : Cond.code MX7_passYear.1 MX7_passYear.2.1 MX7_passYear.2.2.1 MX7_passYear.2.2.2 ∈ aT := aT_in 482 (by decide +kernel) rfl
def MX7_chosenBy : MI := (yX7_chosenBy, cX7_chosenBy, 7, some .int)
theorem cw_X7_chosenBy : Cond.code MX7_chosenBy.1 MX7_chosenBy.2.1 MX7_chosenBy.2.2.1 MX7_chosenBy.2.2.2 ∈ aT := aT_in 492 (by decide +kernel) rfl
def MX7_markOf : MI := (yX7_markOf, cX7_markOf, 3, some .int)
theorem cw_X7_markOf : Cond.code MX7_markOf.1 MX7_markOf.2.1 MX7_markOf.2.2.1 MX7_markOf.2.2.2 ∈ aT := aT_in 496 (by decide +kernel) rfl
def MX7_handsBetween : MI := (yX7_handsBetween, cX7_handsBetween, 5, some .int)
theorem cw_X7_handsBetween : Cond.code MX7_handsBetween.1 MX7_handsBetween.2.1 MX7_handsBetween.2.2.1 MX7_handsBetween.2.2.2 ∈ aT := aT_in 605 (by decide +kernel) rfl
def MX7_knownByAny : MI := (yX7_knownByAny, cX7_knownByAny, 4, some .int)
theorem cw_X7_knownByAny : Cond.code MX7_knownByAny.1 MX7_knownByAny.2.1 MX7_knownByAny.2.2.1 MX7_knownByAny.2.2.2 ∈ aT := aT_in 609 (by decide +kernel) rfl
def MX7_firstBetween : MI := (yX7_firstBetween, cX7_firstBetween, 5, some .int)
theorem cw_X7_firstBetween : Cond.code MX7_firstBetween.1 MX7_firstBetween.2.1 MX7_firstBetween.2.2.1 MX7_firstBetween.2.2.2 ∈ aT := aT_in 613 (by decide +kernel) rfl
def MJ6_bitCount_0f7a4 : MI := (yJ6_bitCount_0f7a4, cJ6_bitCount_0f7a4, 1, some .int)
theorem cw_J6_bitCount_0f7a4 : Cond.code MJ6_bitCount_0f7a4.1 MJ6_bitCount_0f7a4.2.1 MJ6_bitCount_0f7a4.2.2.1 MJ6_bitCount_0f7a4.2.2.2 ∈ aT := aT_in 504 (by decide +kernel) rfl
def MJ9_max_7cf53 : MI := (yJ9_max_7cf53, cJ9_max_7cf53, 2, some .int)
theorem cw_J9_max_7cf53 : Cond.code MJ9_max_7cf53.1 MJ9_max_7cf53.2.1 MJ9_max_7cf53.2.2.1 MJ9_max_7cf53.2.2.2 ∈ aT := aT_in 435 (by decide +kernel) rfl
def MJ9_min_7cf53 : MI := (yJ9_min_7cf53, cJ9_min_7cf53, 2, some .int)
theorem cw_J9_min_7cf53 : Cond.code MJ9_min_7cf53.1 MJ9_min_7cf53.2.1 MJ9_min_7cf53.2.2.1 MJ9_min_7cf53.2.2.2 ∈ aT := aT_in 438 (by decide +kernel) rfl
set_option maxRecDepth 20000 in
theorem lays_X0 : ∀ w ∈ u_ws RX0 TX0 3, w ∈ aT := aT_r _ [254, 256, 258] (by decide +kernel) (by decide +kernel)
set_option maxRecDepth 20000 in
theorem lays_X1 : ∀ w ∈ u_ws RX1 TX1 2, w ∈ aT := aT_r _ [239, 241] (by decide +kernel) (by decide +kernel)
set_option maxRecDepth 20000 in
theorem lays_X2 : ∀ w ∈ u_ws RX2 TX2 1, w ∈ aT := aT_r _ [213] (by decide +kernel) (by decide +kernel)
set_option maxRecDepth 20000 in
theorem lays_X3 : ∀ w ∈ u_ws RX3 TX3 8, w ∈ aT := aT_r _ [147, 149, 151, 153, 155, 157, 159, 161] (by decide +kernel) (by decide +kernel)
set_option maxRecDepth 20000 in
theorem lays_X4 : ∀ w ∈ u_ws RX4 TX4 4, w ∈ aT := aT_r _ [105, 107, 109, 111] (by decide +kernel) (by decide +kernel)
set_option maxRecDepth 20000 in
theorem lays_X5 : ∀ w ∈ u_ws RX5 TX5 2, w ∈ aT := aT_r _ [81, 83] (by decide +kernel) (by decide +kernel)
set_option maxRecDepth 20000 in
theorem lays_X6 : ∀ w ∈ u_ws RX6 TX6 2, w ∈ aT := aT_r _ [224, 226] (by decide +kernel) (by decide +kernel)
set_option maxRecDepth 20000 in
theorem lays_X7 : ∀ w ∈ u_ws RX7 TX7 9, w ∈ aT := aT_r _ [186, 188, 190, 192, 194, 196, 198, 200, 202] (by decide +kernel) (by decide +kernel)
set_option maxRecDepth 20000 in
theorem lays_X8 : ∀ w ∈ u_ws RX8 TX8 11, w ∈ aT := aT_r _ [272, 274, 276, 278, 280, 282, 284, 286, 288, 290, 292] (by decide +kernel) (by decide +kernel)
set_option maxRecDepth 20000 in
theorem lays_X9 : ∀ w ∈ u_ws RX9 TX9 46, w ∈ aT := aT_r _ [776, 778, 780, 782, 784, 786, 788, 790, 792, 794, 796, 798, 800, 802, 804, 806, 808, 810, 812, 814, 816, 818, 820, 822, 824, 826, 828, 830, 832, 834, 836, 838, 840, 842, 844, 846, 848, 850, 852, 854, 856, 858, 860, 862, 864, 866] (by decide +kernel) (by decide +kernel)
theorem fl_X8_12 : FL RX8 12 8 0 := ⟨RX8, TX8, 11, rfl, by decide, rfl, aT_in 261 (by decide +kernel) rfl, lays_X8⟩
theorem fl_X8_19 : FL RX8 19 8 1 := ⟨RX8, TX8, 11, rfl, by decide, rfl, aT_in 262 (by decide +kernel) rfl, lays_X8⟩
theorem fl_X8_26 : FL RX8 26 8 2 := ⟨RX8, TX8, 11, rfl, by decide, rfl, aT_in 263 (by decide +kernel) rfl, lays_X8⟩
theorem fl_X8_30 : FL RX8 30 8 3 := ⟨RX8, TX8, 11, rfl, by decide, rfl, aT_in 264 (by decide +kernel) rfl, lays_X8⟩
theorem fl_X8_33 : FL RX8 33 8 4 := ⟨RX8, TX8, 11, rfl, by decide, rfl, aT_in 265 (by decide +kernel) rfl, lays_X8⟩
theorem fl_X8_39 : FL RX8 39 8 5 := ⟨RX8, TX8, 11, rfl, by decide, rfl, aT_in 266 (by decide +kernel) rfl, lays_X8⟩
theorem fl_X8_46 : FL RX8 46 8 6 := ⟨RX8, TX8, 11, rfl, by decide, rfl, aT_in 267 (by decide +kernel) rfl, lays_X8⟩
theorem fl_X8_53 : FL RX8 53 8 7 := ⟨RX8, TX8, 11, rfl, by decide, rfl, aT_in 268 (by decide +kernel) rfl, lays_X8⟩
theorem fl_X8_60 : FL RX8 60 8 8 := ⟨RX8, TX8, 11, rfl, by decide, rfl, aT_in 269 (by decide +kernel) rfl, lays_X8⟩
theorem sl_X8_64 : SL RX8 64 MX5_lettersIn 1 := ⟨Or.inl (aT_in 299 (by decide +kernel) rfl), aT_in 300 (by decide +kernel) rfl, aT_in 49 (by decide +kernel) rfl, cw_X5_lettersIn, ⟨by decide +kernel, by decide +kernel, by decide +kernel⟩, by decide⟩
theorem fl_X8_68 : FL RX8 68 5 1 := ⟨RX5, TX5, 2, rfl, by decide, rfl, aT_in 78 (by decide +kernel) rfl, lays_X5⟩
theorem vl_X8_72 : VL RX8 72 5 MX5_append 2 := ⟨⟨TX5, 2, rfl⟩, Or.inl (aT_in 306 (by decide +kernel) rfl), aT_in 307 (by decide +kernel) rfl, aT_in 308 (by decide +kernel) rfl, aT_in 49 (by decide +kernel) rfl, cw_X5_append, ⟨by decide +kernel, by decide +kernel, by decide +kernel⟩, by decide⟩
theorem fp_X8_68 : FP RX8 68 5 1 := ⟨RX5, TX5, 2, tyX5, rfl, by decide, rfl, aT_in 78 (by decide +kernel) rfl, lays_X5, tyX5_ok, nmX5, rfl, tyX5_ok 1 (by decide)⟩
theorem vl_X8_76 : VL RX8 76 5 MX5_firstFault 0 := ⟨⟨TX5, 2, rfl⟩, Or.inl (aT_in 318 (by decide +kernel) rfl), aT_in 319 (by decide +kernel) rfl, aT_in 320 (by decide +kernel) rfl, aT_in 49 (by decide +kernel) rfl, cw_X5_firstFault, ⟨by decide +kernel, by decide +kernel, by decide +kernel⟩, by decide⟩
theorem vl_X8_80 : VL RX8 80 5 MX5_isLaw 0 := ⟨⟨TX5, 2, rfl⟩, Or.inl (aT_in 332 (by decide +kernel) rfl), aT_in 333 (by decide +kernel) rfl, aT_in 334 (by decide +kernel) rfl, aT_in 49 (by decide +kernel) rfl, cw_X5_isLaw, ⟨by decide +kernel, by decide +kernel, by decide +kernel⟩, by decide⟩
theorem vl_X8_84 : VL RX8 84 4 MX4_readFrom 1 := ⟨⟨TX4, 4, rfl⟩, Or.inl (aT_in 336 (by decide +kernel) rfl), aT_in 337 (by decide +kernel) rfl, aT_in 338 (by decide +kernel) rfl, aT_in 50 (by decide +kernel) rfl, cw_X4_readFrom, ⟨by decide +kernel, by decide +kernel, by decide +kernel⟩, by decide⟩
theorem fl_X8_88 : FL RX8 88 8 9 := ⟨RX8, TX8, 11, rfl, by decide, rfl, aT_in 270 (by decide +kernel) rfl, lays_X8⟩
theorem fp_X8_88 : FP RX8 88 8 9 := ⟨RX8, TX8, 11, tyX8, rfl, by decide, rfl, aT_in 270 (by decide +kernel) rfl, lays_X8, tyX8_ok, nmX8, rfl, tyX8_ok 9 (by decide)⟩
theorem sl_X8_91 : SL RX8 91 MX8_within 3 := ⟨Or.inl (aT_in 344 (by decide +kernel) rfl), aT_in 326 (by decide +kernel) rfl, aT_in 48 (by decide +kernel) rfl, cw_X8_within, ⟨by decide +kernel, by decide +kernel, by decide +kernel⟩, by decide⟩
theorem fl_X8_95 : FL RX8 95 4 0 := ⟨RX4, TX4, 4, rfl, by decide, rfl, aT_in 94 (by decide +kernel) rfl, lays_X4⟩
theorem fl_X8_98 : FL RX8 98 4 1 := ⟨RX4, TX4, 4, rfl, by decide, rfl, aT_in 97 (by decide +kernel) rfl, lays_X4⟩
theorem fl_X8_102 : FL RX8 102 4 2 := ⟨RX4, TX4, 4, rfl, by decide, rfl, aT_in 100 (by decide +kernel) rfl, lays_X4⟩
theorem fl_X8_105 : FL RX8 105 4 3 := ⟨RX4, TX4, 4, rfl, by decide, rfl, aT_in 103 (by decide +kernel) rfl, lays_X4⟩
theorem fl_X8_108 : FL RX8 108 7 0 := ⟨RX7, TX7, 9, rfl, by decide, rfl, aT_in 168 (by decide +kernel) rfl, lays_X7⟩
theorem vl_X8_111 : VL RX8 111 7 MX7_addPerson 1 := ⟨⟨TX7, 9, rfl⟩, Or.inl (aT_in 349 (by decide +kernel) rfl), aT_in 350 (by decide +kernel) rfl, aT_in 351 (by decide +kernel) rfl, aT_in 51 (by decide +kernel) rfl, cw_X7_addPerson, ⟨by decide +kernel, by decide +kernel, by decide +kernel⟩, by decide⟩
theorem vl_X8_115 : VL RX8 115 8 MX8_areTwo 2 := ⟨⟨TX8, 11, rfl⟩, Or.inl (aT_in 357 (by decide +kernel) rfl), aT_in 359 (by decide +kernel) rfl, aT_in 0 (by decide +kernel) rfl, aT_in 48 (by decide +kernel) rfl, cw_X8_areTwo, ⟨by decide +kernel, by decide +kernel, by decide +kernel⟩, by decide⟩
theorem vl_X8_119 : VL RX8 119 7 MX7_knows 2 := ⟨⟨TX7, 9, rfl⟩, Or.inl (aT_in 365 (by decide +kernel) rfl), aT_in 366 (by decide +kernel) rfl, aT_in 367 (by decide +kernel) rfl, aT_in 51 (by decide +kernel) rfl, cw_X7_knows, ⟨by decide +kernel, by decide +kernel, by decide +kernel⟩, by decide⟩
theorem vl_X8_122 : VL RX8 122 7 MX7_setKnown 3 := ⟨⟨TX7, 9, rfl⟩, Or.inl (aT_in 372 (by decide +kernel) rfl), aT_in 373 (by decide +kernel) rfl, aT_in 374 (by decide +kernel) rfl, aT_in 51 (by decide +kernel) rfl, cw_X7_setKnown, ⟨by decide +kernel, by decide +kernel, by decide +kernel⟩, by decide⟩
theorem fl_X8_126 : FL RX8 126 7 4 := ⟨RX7, TX7, 9, rfl, by decide, rfl, aT_in 177 (by decide +kernel) rfl, lays_X7⟩
theorem sl_X8_130 : SL RX8 130 MX8_pair 2 := ⟨Or.inl (aT_in 380 (by decide +kernel) rfl), aT_in 381 (by decide +kernel) rfl, aT_in 48 (by decide +kernel) rfl, cw_X8_pair, ⟨by decide +kernel, by decide +kernel, by decide +kernel⟩, by decide⟩
theorem vl_X8_134 : VL RX8 134 8 MX8_isPerson 1 := ⟨⟨TX8, 11, rfl⟩, Or.inl (aT_in 361 (by decide +kernel) rfl), aT_in 363 (by decide +kernel) rfl, aT_in 1 (by decide +kernel) rfl, aT_in 48 (by decide +kernel) rfl, cw_X8_isPerson, ⟨by decide +kernel, by decide +kernel, by decide +kernel⟩, by decide⟩
theorem fl_X8_138 : FL RX8 138 7 1 := ⟨RX7, TX7, 9, rfl, by decide, rfl, aT_in 170 (by decide +kernel) rfl, lays_X7⟩
theorem vl_X8_141 : VL RX8 141 7 MX7_heldBy 1 := ⟨⟨TX7, 9, rfl⟩, Or.inl (aT_in 387 (by decide +kernel) rfl), aT_in 388 (by decide +kernel) rfl, aT_in 389 (by decide +kernel) rfl, aT_in 51 (by decide +kernel) rfl, cw_X7_heldBy, ⟨by decide +kernel, by decide +kernel, by decide +kernel⟩, by decide⟩
theorem fl_X8_144 : FL RX8 144 7 2 := ⟨RX7, TX7, 9, rfl, by decide, rfl, aT_in 172 (by decide +kernel) rfl, lays_X7⟩
theorem fl_X8_147 : FL RX8 147 7 3 := ⟨RX7, TX7, 9, rfl, by decide, rfl, aT_in 174 (by decide +kernel) rfl, lays_X7⟩
theorem fl_X8_150 : FL RX8 150 7 5 := ⟨RX7, TX7, 9, rfl, by decide, rfl, aT_in 179 (by decide +kernel) rfl, lays_X7⟩
theorem kc_X8_153 : Cond.constant RX8 153 (-100001) ∈ aT := aT_in 403 (by decide +kernel) rfl
theorem vl_X8_154 : VL RX8 154 7 MX7_balance 1 := ⟨⟨TX7, 9, rfl⟩, Or.inl (aT_in 404 (by decide +kernel) rfl), aT_in 405 (by decide +kernel) rfl, aT_in 406 (by decide +kernel) rfl, aT_in 51 (by decide +kernel) rfl, cw_X7_balance, ⟨by decide +kernel, by decide +kernel, by decide +kernel⟩, by decide⟩
theorem fl_X8_157 : FL RX8 157 7 6 := ⟨RX7, TX7, 9, rfl, by decide, rfl, aT_in 181 (by decide +kernel) rfl, lays_X7⟩
theorem vl_X8_160 : VL RX8 160 7 MX7_addGift 2 := ⟨⟨TX7, 9, rfl⟩, Or.inl (aT_in 413 (by decide +kernel) rfl), aT_in 414 (by decide +kernel) rfl, aT_in 415 (by decide +kernel) rfl, aT_in 51 (by decide +kernel) rfl, cw_X7_addGift, ⟨by decide +kernel, by decide +kernel, by decide +kernel⟩, by decide⟩
theorem vl_X8_163 : VL RX8 163 8 MX8_isGift 1 := ⟨⟨TX8, 11, rfl⟩, Or.inl (aT_in 425 (by decide +kernel) rfl), aT_in 427 (by decide +kernel) rfl, aT_in 2 (by decide +kernel) rfl, aT_in 48 (by decide +kernel) rfl, cw_X8_isGift, ⟨by decide +kernel, by decide +kernel, by decide +kernel⟩, by decide⟩
theorem fl_X8_166 : FL RX8 166 7 7 := ⟨RX7, TX7, 9, rfl, by decide, rfl, aT_in 183 (by decide +kernel) rfl, lays_X7⟩
theorem fl_X8_170 : FL RX8 170 3 0 := ⟨RX3, TX3, 8, rfl, by decide, rfl, aT_in 128 (by decide +kernel) rfl, lays_X3⟩
theorem fl_X8_175 : FL RX8 175 3 1 := ⟨RX3, TX3, 8, rfl, by decide, rfl, aT_in 130 (by decide +kernel) rfl, lays_X3⟩
theorem fl_X8_178 : FL RX8 178 3 2 := ⟨RX3, TX3, 8, rfl, by decide, rfl, aT_in 133 (by decide +kernel) rfl, lays_X3⟩
theorem fl_X8_181 : FL RX8 181 3 3 := ⟨RX3, TX3, 8, rfl, by decide, rfl, aT_in 136 (by decide +kernel) rfl, lays_X3⟩
theorem fl_X8_184 : FL RX8 184 3 4 := ⟨RX3, TX3, 8, rfl, by decide, rfl, aT_in 138 (by decide +kernel) rfl, lays_X3⟩
theorem fl_X8_187 : FL RX8 187 3 5 := ⟨RX3, TX3, 8, rfl, by decide, rfl, aT_in 141 (by decide +kernel) rfl, lays_X3⟩
theorem vl_X8_190 : VL RX8 190 3 MX3_worth 0 := ⟨⟨TX3, 8, rfl⟩, Or.inl (aT_in 429 (by decide +kernel) rfl), aT_in 430 (by decide +kernel) rfl, aT_in 431 (by decide +kernel) rfl, aT_in 52 (by decide +kernel) rfl, cw_X3_worth, ⟨by decide +kernel, by decide +kernel, by decide +kernel⟩, by decide⟩
theorem fl_X8_193 : FL RX8 193 3 6 := ⟨RX3, TX3, 8, rfl, by decide, rfl, aT_in 144 (by decide +kernel) rfl, lays_X3⟩
theorem fl_X8_196 : FL RX8 196 3 7 := ⟨RX3, TX3, 8, rfl, by decide, rfl, aT_in 146 (by decide +kernel) rfl, lays_X3⟩
theorem vl_X8_199 : VL RX8 199 3 MX3_isOf 1 := ⟨⟨TX3, 8, rfl⟩, Or.inl (aT_in 443 (by decide +kernel) rfl), aT_in 444 (by decide +kernel) rfl, aT_in 445 (by decide +kernel) rfl, aT_in 52 (by decide +kernel) rfl, cw_X3_isOf, ⟨by decide +kernel, by decide +kernel, by decide +kernel⟩, by decide⟩
theorem vl_X8_202 : VL RX8 202 3 MX3_lives 0 := ⟨⟨TX3, 8, rfl⟩, Or.inl (aT_in 451 (by decide +kernel) rfl), aT_in 392 (by decide +kernel) rfl, aT_in 393 (by decide +kernel) rfl, aT_in 52 (by decide +kernel) rfl, cw_X3_lives, ⟨by decide +kernel, by decide +kernel, by decide +kernel⟩, by decide⟩
theorem vl_X8_205 : VL RX8 205 8 MX8_whoMayHave 1 := ⟨⟨TX8, 11, rfl⟩, Or.inl (aT_in 452 (by decide +kernel) rfl), aT_in 454 (by decide +kernel) rfl, aT_in 3 (by decide +kernel) rfl, aT_in 48 (by decide +kernel) rfl, cw_X8_whoMayHave, ⟨by decide +kernel, by decide +kernel, by decide +kernel⟩, by decide⟩
theorem sl_X8_208 : SL RX8 208 MX8_bit 1 := ⟨Or.inl (aT_in 464 (by decide +kernel) rfl), aT_in 370 (by decide +kernel) rfl, aT_in 48 (by decide +kernel) rfl, cw_X8_bit, ⟨by decide +kernel, by decide +kernel, by decide +kernel⟩, by decide⟩
theorem vl_X8_211 : VL RX8 211 7 MX7_handOn 3 := ⟨⟨TX7, 9, rfl⟩, Or.inl (aT_in 465 (by decide +kernel) rfl), aT_in 466 (by decide +kernel) rfl, aT_in 467 (by decide +kernel) rfl, aT_in 51 (by decide +kernel) rfl, cw_X7_handOn, ⟨by decide +kernel, by decide +kernel, by decide +kernel⟩, by decide⟩
theorem vl_X8_215 : VL RX8 215 7 MX7_passYear 2 := ⟨⟨TX7, 9, rfl⟩, Or.inl (aT_in 479 (by decide +kernel) rfl), aT_in 480 (by decide +kernel) rfl, aT_in 481 (by decide +kernel) rfl, aT_in 51 (by decide +kernel) rfl, cw_X7_passYear, ⟨by decide +kernel, by decide +kernel, by decide +kernel⟩, by decide⟩
theorem vl_X8_219 : VL RX8 219 6 MX6_begin 2 := ⟨⟨TX6, 2, rfl⟩, Or.inl (aT_in 518 (by decide +kernel) rfl), aT_in 519 (by decide +kernel) rfl, aT_in 520 (by decide +kernel) rfl, aT_in 54 (by decide +kernel) rfl, cw_X6_begin, ⟨by decide +kernel, by decide +kernel, by decide +kernel⟩, by decide⟩
theorem vl_X8_223 : VL RX8 223 6 MX6_goOn 4 := ⟨⟨TX6, 2, rfl⟩, Or.inl (aT_in 528 (by decide +kernel) rfl), aT_in 529 (by decide +kernel) rfl, aT_in 530 (by decide +kernel) rfl, aT_in 54 (by decide +kernel) rfl, cw_X6_goOn, ⟨by decide +kernel, by decide +kernel, by decide +kernel⟩, by decide⟩
theorem kc_X8_227 : Cond.constantLong RX8 227 (-101) ∈ aT := aT_in 551 (by decide +kernel) rfl
theorem kc_X8_229 : Cond.constantLong RX8 229 (-103) ∈ aT := aT_in 552 (by decide +kernel) rfl
theorem kc_X8_231 : Cond.constantLong RX8 231 (-102) ∈ aT := aT_in 553 (by decide +kernel) rfl
theorem kc_X8_233 : Cond.constantLong RX8 233 (420) ∈ aT := aT_in 554 (by decide +kernel) rfl
theorem sl_X8_235 : SL RX8 235 MX8_greatestCommon 2 := ⟨Or.inl (aT_in 555 (by decide +kernel) rfl), aT_in 556 (by decide +kernel) rfl, aT_in 48 (by decide +kernel) rfl, cw_X8_greatestCommon, ⟨by decide +kernel, by decide +kernel, by decide +kernel⟩, by decide⟩
theorem kc_X8_239 : Cond.constantLong RX8 239 (-1) ∈ aT := aT_in 558 (by decide +kernel) rfl
theorem sl_X8_241 : SL RX8 241 MJ6_bitCount_0f7a4 1 := ⟨Or.inl (aT_in 563 (by decide +kernel) rfl), aT_in 503 (by decide +kernel) rfl, aT_in 59 (by decide +kernel) rfl, cw_J6_bitCount_0f7a4, ⟨by decide +kernel, by decide +kernel, by decide +kernel⟩, by decide⟩
theorem vl_X8_246 : VL RX8 246 1 MX1_find 1 := ⟨⟨TX1, 2, rfl⟩, Or.inl (aT_in 568 (by decide +kernel) rfl), aT_in 569 (by decide +kernel) rfl, aT_in 570 (by decide +kernel) rfl, aT_in 55 (by decide +kernel) rfl, cw_X1_find, ⟨by decide +kernel, by decide +kernel, by decide +kernel⟩, by decide⟩
theorem vl_X8_250 : VL RX8 250 1 MX1_isThere 0 := ⟨⟨TX1, 2, rfl⟩, Or.inl (aT_in 593 (by decide +kernel) rfl), aT_in 590 (by decide +kernel) rfl, aT_in 591 (by decide +kernel) rfl, aT_in 55 (by decide +kernel) rfl, cw_X1_isThere, ⟨by decide +kernel, by decide +kernel, by decide +kernel⟩, by decide⟩
theorem vl_X8_253 : VL RX8 253 1 MX1_likingTogether 0 := ⟨⟨TX1, 2, rfl⟩, Or.inl (aT_in 594 (by decide +kernel) rfl), aT_in 595 (by decide +kernel) rfl, aT_in 596 (by decide +kernel) rfl, aT_in 55 (by decide +kernel) rfl, cw_X1_likingTogether, ⟨by decide +kernel, by decide +kernel, by decide +kernel⟩, by decide⟩
theorem fl_X8_256 : FL RX8 256 1 1 := ⟨RX1, TX1, 2, rfl, by decide, rfl, aT_in 238 (by decide +kernel) rfl, lays_X1⟩
theorem vl_X8_259 : VL RX8 259 7 MX7_handsBetween 2 := ⟨⟨TX7, 9, rfl⟩, Or.inl (aT_in 602 (by decide +kernel) rfl), aT_in 603 (by decide +kernel) rfl, aT_in 604 (by decide +kernel) rfl, aT_in 51 (by decide +kernel) rfl, cw_X7_handsBetween, ⟨by decide +kernel, by decide +kernel, by decide +kernel⟩, by decide⟩
theorem vl_X8_262 : VL RX8 262 7 MX7_firstBetween 2 := ⟨⟨TX7, 9, rfl⟩, Or.inl (aT_in 610 (by decide +kernel) rfl), aT_in 611 (by decide +kernel) rfl, aT_in 612 (by decide +kernel) rfl, aT_in 51 (by decide +kernel) rfl, cw_X7_firstBetween, ⟨by decide +kernel, by decide +kernel, by decide +kernel⟩, by decide⟩
theorem vl_X8_265 : VL RX8 265 7 MX7_copyFrom 1 := ⟨⟨TX7, 9, rfl⟩, Or.inl (aT_in 620 (by decide +kernel) rfl), aT_in 621 (by decide +kernel) rfl, aT_in 622 (by decide +kernel) rfl, aT_in 51 (by decide +kernel) rfl, cw_X7_copyFrom, ⟨by decide +kernel, by decide +kernel, by decide +kernel⟩, by decide⟩
theorem fl_X8_268 : FL RX8 268 2 0 := ⟨RX2, TX2, 1, rfl, by decide, rfl, aT_in 212 (by decide +kernel) rfl, lays_X2⟩
theorem fp_X8_268 : FP RX8 268 2 0 := ⟨RX2, TX2, 1, tyX2, rfl, by decide, rfl, aT_in 212 (by decide +kernel) rfl, lays_X2, tyX2_ok, nmX2, rfl, tyX2_ok 0 (by decide)⟩
theorem vl_X8_272 : VL RX8 272 7 MX7_living 0 := ⟨⟨TX7, 9, rfl⟩, Or.inl (aT_in 629 (by decide +kernel) rfl), aT_in 630 (by decide +kernel) rfl, aT_in 631 (by decide +kernel) rfl, aT_in 51 (by decide +kernel) rfl, cw_X7_living, ⟨by decide +kernel, by decide +kernel, by decide +kernel⟩, by decide⟩
theorem vl_X8_275 : VL RX8 275 7 MX7_allFeasts 0 := ⟨⟨TX7, 9, rfl⟩, Or.inl (aT_in 633 (by decide +kernel) rfl), aT_in 634 (by decide +kernel) rfl, aT_in 635 (by decide +kernel) rfl, aT_in 51 (by decide +kernel) rfl, cw_X7_allFeasts, ⟨by decide +kernel, by decide +kernel, by decide +kernel⟩, by decide⟩
theorem vl_X8_278 : VL RX8 278 0 MX0_begin 2 := ⟨⟨TX0, 3, rfl⟩, Or.inl (aT_in 641 (by decide +kernel) rfl), aT_in 642 (by decide +kernel) rfl, aT_in 643 (by decide +kernel) rfl, aT_in 56 (by decide +kernel) rfl, cw_X0_begin, ⟨by decide +kernel, by decide +kernel, by decide +kernel⟩, by decide⟩
theorem vl_X8_279 : VL RX8 279 0 MX0_isOpen 0 := ⟨⟨TX0, 3, rfl⟩, Or.inl (aT_in 649 (by decide +kernel) rfl), aT_in 650 (by decide +kernel) rfl, aT_in 651 (by decide +kernel) rfl, aT_in 56 (by decide +kernel) rfl, cw_X0_isOpen, ⟨by decide +kernel, by decide +kernel, by decide +kernel⟩, by decide⟩
theorem vl_X8_282 : VL RX8 282 0 MX0_hasYear 1 := ⟨⟨TX0, 3, rfl⟩, Or.inl (aT_in 653 (by decide +kernel) rfl), aT_in 654 (by decide +kernel) rfl, aT_in 655 (by decide +kernel) rfl, aT_in 56 (by decide +kernel) rfl, cw_X0_hasYear, ⟨by decide +kernel, by decide +kernel, by decide +kernel⟩, by decide⟩
theorem fl_X8_285 : FL RX8 285 0 0 := ⟨RX0, TX0, 3, rfl, by decide, rfl, aT_in 251 (by decide +kernel) rfl, lays_X0⟩
theorem vl_X8_288 : VL RX8 288 0 MX0_fillings 2 := ⟨⟨TX0, 3, rfl⟩, Or.inl (aT_in 662 (by decide +kernel) rfl), aT_in 663 (by decide +kernel) rfl, aT_in 664 (by decide +kernel) rfl, aT_in 56 (by decide +kernel) rfl, cw_X0_fillings, ⟨by decide +kernel, by decide +kernel, by decide +kernel⟩, by decide⟩
theorem vl_X8_292 : VL RX8 292 0 MX0_onlyOneIn 3 := ⟨⟨TX0, 3, rfl⟩, Or.inl (aT_in 680 (by decide +kernel) rfl), aT_in 681 (by decide +kernel) rfl, aT_in 682 (by decide +kernel) rfl, aT_in 56 (by decide +kernel) rfl, cw_X0_onlyOneIn, ⟨by decide +kernel, by decide +kernel, by decide +kernel⟩, by decide⟩
theorem fl_X8_296 : FL RX8 296 8 10 := ⟨RX8, TX8, 11, rfl, by decide, rfl, aT_in 271 (by decide +kernel) rfl, lays_X8⟩
theorem fp_X8_296 : FP RX8 296 8 10 := ⟨RX8, TX8, 11, tyX8, rfl, by decide, rfl, aT_in 271 (by decide +kernel) rfl, lays_X8, tyX8_ok, nmX8, rfl, tyX8_ok 10 (by decide)⟩
theorem fl_X8_299 : FL RX8 299 7 8 := ⟨RX7, TX7, 9, rfl, by decide, rfl, aT_in 185 (by decide +kernel) rfl, lays_X7⟩
theorem kc_X8_302 : Cond.constantLong RX8 302 (607) ∈ aT := aT_in 701 (by decide +kernel) rfl
theorem vl_X8_304 : VL RX8 304 8 MX8_lawTold 1 := ⟨⟨TX8, 11, rfl⟩, Or.inl (aT_in 702 (by decide +kernel) rfl), aT_in 341 (by decide +kernel) rfl, aT_in 342 (by decide +kernel) rfl, aT_in 48 (by decide +kernel) rfl, cw_X8_lawTold, ⟨by decide +kernel, by decide +kernel, by decide +kernel⟩, by decide⟩
theorem sl_X8_307 : SL RX8 307 MX8_mixed 2 := ⟨Or.inl (aT_in 703 (by decide +kernel) rfl), aT_in 704 (by decide +kernel) rfl, aT_in 48 (by decide +kernel) rfl, cw_X8_mixed, ⟨by decide +kernel, by decide +kernel, by decide +kernel⟩, by decide⟩
theorem vl_X8_310 : VL RX8 310 8 MX8_withPerson 2 := ⟨⟨TX8, 11, rfl⟩, Or.inl (aT_in 707 (by decide +kernel) rfl), aT_in 709 (by decide +kernel) rfl, aT_in 11 (by decide +kernel) rfl, aT_in 48 (by decide +kernel) rfl, cw_X8_withPerson, ⟨by decide +kernel, by decide +kernel, by decide +kernel⟩, by decide⟩
theorem vl_X8_314 : VL RX8 314 8 MX8_withGift 2 := ⟨⟨TX8, 11, rfl⟩, Or.inl (aT_in 713 (by decide +kernel) rfl), aT_in 715 (by decide +kernel) rfl, aT_in 12 (by decide +kernel) rfl, aT_in 48 (by decide +kernel) rfl, cw_X8_withGift, ⟨by decide +kernel, by decide +kernel, by decide +kernel⟩, by decide⟩
theorem vl_X8_317 : VL RX8 317 8 MX8_traps 0 := ⟨⟨TX8, 11, rfl⟩, Or.inl (aT_in 720 (by decide +kernel) rfl), aT_in 560 (by decide +kernel) rfl, aT_in 561 (by decide +kernel) rfl, aT_in 48 (by decide +kernel) rfl, cw_X8_traps, ⟨by decide +kernel, by decide +kernel, by decide +kernel⟩, by decide⟩
theorem vl_X8_320 : VL RX8 320 8 MX8_round 1 := ⟨⟨TX8, 11, rfl⟩, Or.inl (aT_in 721 (by decide +kernel) rfl), aT_in 565 (by decide +kernel) rfl, aT_in 566 (by decide +kernel) rfl, aT_in 48 (by decide +kernel) rfl, cw_X8_round, ⟨by decide +kernel, by decide +kernel, by decide +kernel⟩, by decide⟩
theorem vl_X8_323 : VL RX8 323 8 MX8_filled 0 := ⟨⟨TX8, 11, rfl⟩, Or.inl (aT_in 722 (by decide +kernel) rfl), aT_in 659 (by decide +kernel) rfl, aT_in 660 (by decide +kernel) rfl, aT_in 48 (by decide +kernel) rfl, cw_X8_filled, ⟨by decide +kernel, by decide +kernel, by decide +kernel⟩, by decide⟩
theorem fl_X8_326 : FL RX8 326 5 0 := ⟨RX5, TX5, 2, rfl, by decide, rfl, aT_in 77 (by decide +kernel) rfl, lays_X5⟩
theorem vl_X8_329 : VL RX8 329 8 MX8_count 1 := ⟨⟨TX8, 11, rfl⟩, Or.inl (aT_in 723 (by decide +kernel) rfl), aT_in 694 (by decide +kernel) rfl, aT_in 695 (by decide +kernel) rfl, aT_in 48 (by decide +kernel) rfl, cw_X8_count, ⟨by decide +kernel, by decide +kernel, by decide +kernel⟩, by decide⟩
theorem vl_X8_332 : VL RX8 332 8 MX8_about 2 := ⟨⟨TX8, 11, rfl⟩, Or.inl (aT_in 711 (by decide +kernel) rfl), aT_in 384 (by decide +kernel) rfl, aT_in 385 (by decide +kernel) rfl, aT_in 48 (by decide +kernel) rfl, cw_X8_about, ⟨by decide +kernel, by decide +kernel, by decide +kernel⟩, by decide⟩
theorem vl_X8_335 : VL RX8 335 8 MX8_rest 1 := ⟨⟨TX8, 11, rfl⟩, Or.inl (aT_in 712 (by decide +kernel) rfl), aT_in 400 (by decide +kernel) rfl, aT_in 401 (by decide +kernel) rfl, aT_in 48 (by decide +kernel) rfl, cw_X8_rest, ⟨by decide +kernel, by decide +kernel, by decide +kernel⟩, by decide⟩
theorem vl_X8_338 : VL RX8 338 8 MX8_told 2 := ⟨⟨TX8, 11, rfl⟩, Or.inl (aT_in 717 (by decide +kernel) rfl), aT_in 422 (by decide +kernel) rfl, aT_in 423 (by decide +kernel) rfl, aT_in 48 (by decide +kernel) rfl, cw_X8_told, ⟨by decide +kernel, by decide +kernel, by decide +kernel⟩, by decide⟩
theorem vl_X8_341 : VL RX8 341 8 MX8_may 1 := ⟨⟨TX8, 11, rfl⟩, Or.inl (aT_in 718 (by decide +kernel) rfl), aT_in 448 (by decide +kernel) rfl, aT_in 449 (by decide +kernel) rfl, aT_in 48 (by decide +kernel) rfl, cw_X8_may, ⟨by decide +kernel, by decide +kernel, by decide +kernel⟩, by decide⟩
theorem vl_X8_344 : VL RX8 344 8 MX8_soonest 1 := ⟨⟨TX8, 11, rfl⟩, Or.inl (aT_in 719 (by decide +kernel) rfl), aT_in 544 (by decide +kernel) rfl, aT_in 545 (by decide +kernel) rfl, aT_in 48 (by decide +kernel) rfl, cw_X8_soonest, ⟨by decide +kernel, by decide +kernel, by decide +kernel⟩, by decide⟩
theorem vl_X8_347 : VL RX8 347 7 MX7_mayHave 3 := ⟨⟨TX7, 9, rfl⟩, Or.inl (aT_in 456 (by decide +kernel) rfl), aT_in 457 (by decide +kernel) rfl, aT_in 458 (by decide +kernel) rfl, aT_in 51 (by decide +kernel) rfl, cw_X7_mayHave, ⟨by decide +kernel, by decide +kernel, by decide +kernel⟩, by decide⟩
theorem kc_X8_351 : Cond.constantLong RX8 351 (31) ∈ aT := aT_in 706 (by decide +kernel) rfl
theorem fl_X9_7 : FL RX9 7 9 0 := ⟨RX9, TX9, 46, rfl, by decide, rfl, aT_in 730 (by decide +kernel) rfl, lays_X9⟩
theorem fl_X9_13 : FL RX9 13 9 13 := ⟨RX9, TX9, 46, rfl, by decide, rfl, aT_in 743 (by decide +kernel) rfl, lays_X9⟩
theorem fl_X9_16 : FL RX9 16 9 14 := ⟨RX9, TX9, 46, rfl, by decide, rfl, aT_in 744 (by decide +kernel) rfl, lays_X9⟩
theorem fl_X9_19 : FL RX9 19 9 15 := ⟨RX9, TX9, 46, rfl, by decide, rfl, aT_in 745 (by decide +kernel) rfl, lays_X9⟩
theorem fl_X9_22 : FL RX9 22 9 16 := ⟨RX9, TX9, 46, rfl, by decide, rfl, aT_in 746 (by decide +kernel) rfl, lays_X9⟩
theorem fl_X9_25 : FL RX9 25 9 17 := ⟨RX9, TX9, 46, rfl, by decide, rfl, aT_in 747 (by decide +kernel) rfl, lays_X9⟩
theorem fl_X9_28 : FL RX9 28 9 21 := ⟨RX9, TX9, 46, rfl, by decide, rfl, aT_in 751 (by decide +kernel) rfl, lays_X9⟩
theorem fl_X9_31 : FL RX9 31 9 23 := ⟨RX9, TX9, 46, rfl, by decide, rfl, aT_in 753 (by decide +kernel) rfl, lays_X9⟩
theorem fl_X9_34 : FL RX9 34 9 24 := ⟨RX9, TX9, 46, rfl, by decide, rfl, aT_in 754 (by decide +kernel) rfl, lays_X9⟩
theorem fl_X9_38 : FL RX9 38 9 25 := ⟨RX9, TX9, 46, rfl, by decide, rfl, aT_in 755 (by decide +kernel) rfl, lays_X9⟩
theorem fl_X9_41 : FL RX9 41 9 26 := ⟨RX9, TX9, 46, rfl, by decide, rfl, aT_in 756 (by decide +kernel) rfl, lays_X9⟩
theorem fl_X9_44 : FL RX9 44 9 27 := ⟨RX9, TX9, 46, rfl, by decide, rfl, aT_in 757 (by decide +kernel) rfl, lays_X9⟩
theorem fl_X9_47 : FL RX9 47 9 28 := ⟨RX9, TX9, 46, rfl, by decide, rfl, aT_in 758 (by decide +kernel) rfl, lays_X9⟩
theorem fl_X9_50 : FL RX9 50 9 29 := ⟨RX9, TX9, 46, rfl, by decide, rfl, aT_in 759 (by decide +kernel) rfl, lays_X9⟩
theorem fl_X9_53 : FL RX9 53 9 30 := ⟨RX9, TX9, 46, rfl, by decide, rfl, aT_in 760 (by decide +kernel) rfl, lays_X9⟩
theorem fl_X9_56 : FL RX9 56 9 31 := ⟨RX9, TX9, 46, rfl, by decide, rfl, aT_in 761 (by decide +kernel) rfl, lays_X9⟩
theorem fl_X9_59 : FL RX9 59 9 32 := ⟨RX9, TX9, 46, rfl, by decide, rfl, aT_in 762 (by decide +kernel) rfl, lays_X9⟩
theorem fl_X9_62 : FL RX9 62 9 35 := ⟨RX9, TX9, 46, rfl, by decide, rfl, aT_in 765 (by decide +kernel) rfl, lays_X9⟩
theorem fl_X9_65 : FL RX9 65 9 40 := ⟨RX9, TX9, 46, rfl, by decide, rfl, aT_in 770 (by decide +kernel) rfl, lays_X9⟩
theorem fl_X9_68 : FL RX9 68 9 41 := ⟨RX9, TX9, 46, rfl, by decide, rfl, aT_in 771 (by decide +kernel) rfl, lays_X9⟩
theorem fl_X9_71 : FL RX9 71 9 42 := ⟨RX9, TX9, 46, rfl, by decide, rfl, aT_in 772 (by decide +kernel) rfl, lays_X9⟩
theorem fl_X9_74 : FL RX9 74 9 43 := ⟨RX9, TX9, 46, rfl, by decide, rfl, aT_in 773 (by decide +kernel) rfl, lays_X9⟩
theorem fl_X9_77 : FL RX9 77 9 44 := ⟨RX9, TX9, 46, rfl, by decide, rfl, aT_in 774 (by decide +kernel) rfl, lays_X9⟩
theorem fl_X9_80 : FL RX9 80 9 36 := ⟨RX9, TX9, 46, rfl, by decide, rfl, aT_in 766 (by decide +kernel) rfl, lays_X9⟩
theorem fp_X9_80 : FP RX9 80 9 36 := ⟨RX9, TX9, 46, tyX9, rfl, by decide, rfl, aT_in 766 (by decide +kernel) rfl, lays_X9, tyX9_ok, nmX9, rfl, tyX9_ok 36 (by decide)⟩
theorem fl_X9_84 : FL RX9 84 9 2 := ⟨RX9, TX9, 46, rfl, by decide, rfl, aT_in 732 (by decide +kernel) rfl, lays_X9⟩
theorem fp_X9_84 : FP RX9 84 9 2 := ⟨RX9, TX9, 46, tyX9, rfl, by decide, rfl, aT_in 732 (by decide +kernel) rfl, lays_X9, tyX9_ok, nmX9, rfl, tyX9_ok 2 (by decide)⟩
theorem fl_X9_87 : FL RX9 87 9 5 := ⟨RX9, TX9, 46, rfl, by decide, rfl, aT_in 735 (by decide +kernel) rfl, lays_X9⟩
theorem fp_X9_87 : FP RX9 87 9 5 := ⟨RX9, TX9, 46, tyX9, rfl, by decide, rfl, aT_in 735 (by decide +kernel) rfl, lays_X9, tyX9_ok, nmX9, rfl, tyX9_ok 5 (by decide)⟩
theorem fl_X9_90 : FL RX9 90 9 33 := ⟨RX9, TX9, 46, rfl, by decide, rfl, aT_in 763 (by decide +kernel) rfl, lays_X9⟩
theorem fp_X9_90 : FP RX9 90 9 33 := ⟨RX9, TX9, 46, tyX9, rfl, by decide, rfl, aT_in 763 (by decide +kernel) rfl, lays_X9, tyX9_ok, nmX9, rfl, tyX9_ok 33 (by decide)⟩
theorem kc_X9_93 : Cond.constantLong RX9 93 (255) ∈ aT := aT_in 873 (by decide +kernel) rfl
theorem fl_X9_95 : FL RX9 95 9 1 := ⟨RX9, TX9, 46, rfl, by decide, rfl, aT_in 731 (by decide +kernel) rfl, lays_X9⟩
theorem fp_X9_95 : FP RX9 95 9 1 := ⟨RX9, TX9, 46, tyX9, rfl, by decide, rfl, aT_in 731 (by decide +kernel) rfl, lays_X9, tyX9_ok, nmX9, rfl, tyX9_ok 1 (by decide)⟩
theorem fl_X9_98 : FL RX9 98 9 7 := ⟨RX9, TX9, 46, rfl, by decide, rfl, aT_in 737 (by decide +kernel) rfl, lays_X9⟩
theorem fl_X9_101 : FL RX9 101 9 8 := ⟨RX9, TX9, 46, rfl, by decide, rfl, aT_in 738 (by decide +kernel) rfl, lays_X9⟩
theorem fp_X9_101 : FP RX9 101 9 8 := ⟨RX9, TX9, 46, tyX9, rfl, by decide, rfl, aT_in 738 (by decide +kernel) rfl, lays_X9, tyX9_ok, nmX9, rfl, tyX9_ok 8 (by decide)⟩
theorem fp_X9_98 : FP RX9 98 9 7 := ⟨RX9, TX9, 46, tyX9, rfl, by decide, rfl, aT_in 737 (by decide +kernel) rfl, lays_X9, tyX9_ok, nmX9, rfl, tyX9_ok 7 (by decide)⟩
theorem kc_X9_104 : Cond.constantLong RX9 104 (49) ∈ aT := aT_in 890 (by decide +kernel) rfl
theorem kc_X9_106 : Cond.constantLong RX9 106 (51) ∈ aT := aT_in 891 (by decide +kernel) rfl
theorem sl_X9_108 : SL RX9 108 MX9_in 3 := ⟨Or.inl (aT_in 892 (by decide +kernel) rfl), aT_in 893 (by decide +kernel) rfl, aT_in 57 (by decide +kernel) rfl, cw_X9_in, ⟨by decide +kernel, by decide +kernel, by decide +kernel⟩, by decide⟩
theorem fl_X9_112 : FL RX9 112 9 11 := ⟨RX9, TX9, 46, rfl, by decide, rfl, aT_in 741 (by decide +kernel) rfl, lays_X9⟩
theorem fp_X9_112 : FP RX9 112 9 11 := ⟨RX9, TX9, 46, tyX9, rfl, by decide, rfl, aT_in 741 (by decide +kernel) rfl, lays_X9, tyX9_ok, nmX9, rfl, tyX9_ok 11 (by decide)⟩
theorem kc_X9_115 : Cond.constantLong RX9 115 (57) ∈ aT := aT_in 895 (by decide +kernel) rfl
theorem fl_X9_117 : FL RX9 117 9 9 := ⟨RX9, TX9, 46, rfl, by decide, rfl, aT_in 739 (by decide +kernel) rfl, lays_X9⟩
theorem fp_X9_117 : FP RX9 117 9 9 := ⟨RX9, TX9, 46, tyX9, rfl, by decide, rfl, aT_in 739 (by decide +kernel) rfl, lays_X9, tyX9_ok, nmX9, rfl, tyX9_ok 9 (by decide)⟩
theorem fl_X9_120 : FL RX9 120 9 10 := ⟨RX9, TX9, 46, rfl, by decide, rfl, aT_in 740 (by decide +kernel) rfl, lays_X9⟩
theorem fp_X9_120 : FP RX9 120 9 10 := ⟨RX9, TX9, 46, tyX9, rfl, by decide, rfl, aT_in 740 (by decide +kernel) rfl, lays_X9, tyX9_ok, nmX9, rfl, tyX9_ok 10 (by decide)⟩
theorem vl_X9_123 : VL RX9 123 9 MX9_go 1 := ⟨⟨TX9, 46, rfl⟩, Or.inl (aT_in 886 (by decide +kernel) rfl), aT_in 888 (by decide +kernel) rfl, aT_in 14 (by decide +kernel) rfl, aT_in 57 (by decide +kernel) rfl, cw_X9_go, ⟨by decide +kernel, by decide +kernel, by decide +kernel⟩, by decide⟩
theorem vl_X9_127 : VL RX9 127 9 MX9_faultOf 0 := ⟨⟨TX9, 46, rfl⟩, Or.inl (aT_in 882 (by decide +kernel) rfl), aT_in 884 (by decide +kernel) rfl, aT_in 13 (by decide +kernel) rfl, aT_in 57 (by decide +kernel) rfl, cw_X9_faultOf, ⟨by decide +kernel, by decide +kernel, by decide +kernel⟩, by decide⟩
theorem fl_X9_131 : FL RX9 131 9 3 := ⟨RX9, TX9, 46, rfl, by decide, rfl, aT_in 733 (by decide +kernel) rfl, lays_X9⟩
theorem fp_X9_131 : FP RX9 131 9 3 := ⟨RX9, TX9, 46, tyX9, rfl, by decide, rfl, aT_in 733 (by decide +kernel) rfl, lays_X9, tyX9_ok, nmX9, rfl, tyX9_ok 3 (by decide)⟩
theorem fl_X9_134 : FL RX9 134 9 4 := ⟨RX9, TX9, 46, rfl, by decide, rfl, aT_in 734 (by decide +kernel) rfl, lays_X9⟩
theorem fp_X9_134 : FP RX9 134 9 4 := ⟨RX9, TX9, 46, tyX9, rfl, by decide, rfl, aT_in 734 (by decide +kernel) rfl, lays_X9, tyX9_ok, nmX9, rfl, tyX9_ok 4 (by decide)⟩
theorem fl_X9_137 : FL RX9 137 9 6 := ⟨RX9, TX9, 46, rfl, by decide, rfl, aT_in 736 (by decide +kernel) rfl, lays_X9⟩
theorem fp_X9_137 : FP RX9 137 9 6 := ⟨RX9, TX9, 46, tyX9, rfl, by decide, rfl, aT_in 736 (by decide +kernel) rfl, lays_X9, tyX9_ok, nmX9, rfl, tyX9_ok 6 (by decide)⟩
theorem vl_X9_140 : VL RX9 140 9 MX9_tellLaw 1 := ⟨⟨TX9, 46, rfl⟩, Or.inl (aT_in 904 (by decide +kernel) rfl), aT_in 906 (by decide +kernel) rfl, aT_in 15 (by decide +kernel) rfl, aT_in 57 (by decide +kernel) rfl, cw_X9_tellLaw, ⟨by decide +kernel, by decide +kernel, by decide +kernel⟩, by decide⟩
theorem fl_X9_144 : FL RX9 144 9 12 := ⟨RX9, TX9, 46, rfl, by decide, rfl, aT_in 742 (by decide +kernel) rfl, lays_X9⟩
theorem vl_X9_147 : VL RX9 147 9 MX9_isPerson 1 := ⟨⟨TX9, 46, rfl⟩, Or.inl (aT_in 921 (by decide +kernel) rfl), aT_in 923 (by decide +kernel) rfl, aT_in 17 (by decide +kernel) rfl, aT_in 57 (by decide +kernel) rfl, cw_X9_isPerson, ⟨by decide +kernel, by decide +kernel, by decide +kernel⟩, by decide⟩
theorem kc_X9_150 : Cond.constantLong RX9 150 (3) ∈ aT := aT_in 912 (by decide +kernel) rfl
theorem fp_X9_144 : FP RX9 144 9 12 := ⟨RX9, TX9, 46, tyX9, rfl, by decide, rfl, aT_in 742 (by decide +kernel) rfl, lays_X9, tyX9_ok, nmX9, rfl, tyX9_ok 12 (by decide)⟩
theorem vl_X9_152 : VL RX9 152 9 MX9_arePair 2 := ⟨⟨TX9, 46, rfl⟩, Or.inl (aT_in 917 (by decide +kernel) rfl), aT_in 919 (by decide +kernel) rfl, aT_in 16 (by decide +kernel) rfl, aT_in 57 (by decide +kernel) rfl, cw_X9_arePair, ⟨by decide +kernel, by decide +kernel, by decide +kernel⟩, by decide⟩
theorem kc_X9_156 : Cond.constantLong RX9 156 (9) ∈ aT := aT_in 929 (by decide +kernel) rfl
theorem fl_X9_158 : FL RX9 158 9 20 := ⟨RX9, TX9, 46, rfl, by decide, rfl, aT_in 750 (by decide +kernel) rfl, lays_X9⟩
theorem vl_X9_161 : VL RX9 161 9 MX9_lives 1 := ⟨⟨TX9, 46, rfl⟩, Or.inl (aT_in 942 (by decide +kernel) rfl), aT_in 944 (by decide +kernel) rfl, aT_in 20 (by decide +kernel) rfl, aT_in 57 (by decide +kernel) rfl, cw_X9_lives, ⟨by decide +kernel, by decide +kernel, by decide +kernel⟩, by decide⟩
theorem vl_X9_164 : VL RX9 164 9 MX9_holds 1 := ⟨⟨TX9, 46, rfl⟩, Or.inl (aT_in 938 (by decide +kernel) rfl), aT_in 940 (by decide +kernel) rfl, aT_in 19 (by decide +kernel) rfl, aT_in 57 (by decide +kernel) rfl, cw_X9_holds, ⟨by decide +kernel, by decide +kernel, by decide +kernel⟩, by decide⟩
theorem vl_X9_167 : VL RX9 167 9 MX9_tellPerson 2 := ⟨⟨TX9, 46, rfl⟩, Or.inl (aT_in 934 (by decide +kernel) rfl), aT_in 936 (by decide +kernel) rfl, aT_in 18 (by decide +kernel) rfl, aT_in 57 (by decide +kernel) rfl, cw_X9_tellPerson, ⟨by decide +kernel, by decide +kernel, by decide +kernel⟩, by decide⟩
theorem vl_X9_171 : VL RX9 171 9 MX9_restOf 1 := ⟨⟨TX9, 46, rfl⟩, Or.inl (aT_in 954 (by decide +kernel) rfl), aT_in 956 (by decide +kernel) rfl, aT_in 21 (by decide +kernel) rfl, aT_in 57 (by decide +kernel) rfl, cw_X9_restOf, ⟨by decide +kernel, by decide +kernel, by decide +kernel⟩, by decide⟩
theorem kc_X9_174 : Cond.constant RX9 174 (-100001) ∈ aT := aT_in 958 (by decide +kernel) rfl
theorem kc_X9_175 : Cond.constantLong RX9 175 (4) ∈ aT := aT_in 963 (by decide +kernel) rfl
theorem fp_X9_158 : FP RX9 158 9 20 := ⟨RX9, TX9, 46, tyX9, rfl, by decide, rfl, aT_in 750 (by decide +kernel) rfl, lays_X9, tyX9_ok, nmX9, rfl, tyX9_ok 20 (by decide)⟩
theorem vl_X9_177 : VL RX9 177 9 MX9_worthOf 1 := ⟨⟨TX9, 46, rfl⟩, Or.inl (aT_in 976 (by decide +kernel) rfl), aT_in 978 (by decide +kernel) rfl, aT_in 24 (by decide +kernel) rfl, aT_in 57 (by decide +kernel) rfl, cw_X9_worthOf, ⟨by decide +kernel, by decide +kernel, by decide +kernel⟩, by decide⟩
theorem kc_X9_180 : Cond.constantLong RX9 180 (8) ∈ aT := aT_in 980 (by decide +kernel) rfl
theorem vl_X9_182 : VL RX9 182 9 MX9_isGift 1 := ⟨⟨TX9, 46, rfl⟩, Or.inl (aT_in 968 (by decide +kernel) rfl), aT_in 970 (by decide +kernel) rfl, aT_in 22 (by decide +kernel) rfl, aT_in 57 (by decide +kernel) rfl, cw_X9_isGift, ⟨by decide +kernel, by decide +kernel, by decide +kernel⟩, by decide⟩
theorem vl_X9_185 : VL RX9 185 9 MX9_tellGift 2 := ⟨⟨TX9, 46, rfl⟩, Or.inl (aT_in 972 (by decide +kernel) rfl), aT_in 974 (by decide +kernel) rfl, aT_in 23 (by decide +kernel) rfl, aT_in 57 (by decide +kernel) rfl, cw_X9_tellGift, ⟨by decide +kernel, by decide +kernel, by decide +kernel⟩, by decide⟩
theorem vl_X9_188 : VL RX9 188 9 MX9_mayHave 2 := ⟨⟨TX9, 46, rfl⟩, Or.inl (aT_in 993 (by decide +kernel) rfl), aT_in 995 (by decide +kernel) rfl, aT_in 26 (by decide +kernel) rfl, aT_in 57 (by decide +kernel) rfl, cw_X9_mayHave, ⟨by decide +kernel, by decide +kernel, by decide +kernel⟩, by decide⟩
theorem vl_X9_191 : VL RX9 191 9 MX9_mayOf 1 := ⟨⟨TX9, 46, rfl⟩, Or.inl (aT_in 989 (by decide +kernel) rfl), aT_in 991 (by decide +kernel) rfl, aT_in 25 (by decide +kernel) rfl, aT_in 57 (by decide +kernel) rfl, cw_X9_mayOf, ⟨by decide +kernel, by decide +kernel, by decide +kernel⟩, by decide⟩
theorem fl_X9_194 : FL RX9 194 9 18 := ⟨RX9, TX9, 46, rfl, by decide, rfl, aT_in 748 (by decide +kernel) rfl, lays_X9⟩
theorem fp_X9_194 : FP RX9 194 9 18 := ⟨RX9, TX9, 46, tyX9, rfl, by decide, rfl, aT_in 748 (by decide +kernel) rfl, lays_X9, tyX9_ok, nmX9, rfl, tyX9_ok 18 (by decide)⟩
theorem vl_X9_197 : VL RX9 197 9 MX9_goOn 2 := ⟨⟨TX9, 46, rfl⟩, Or.inl (aT_in 1001 (by decide +kernel) rfl), aT_in 1003 (by decide +kernel) rfl, aT_in 27 (by decide +kernel) rfl, aT_in 57 (by decide +kernel) rfl, cw_X9_goOn, ⟨by decide +kernel, by decide +kernel, by decide +kernel⟩, by decide⟩
theorem kc_X9_200 : Cond.constantLong RX9 200 (1103515245) ∈ aT := aT_in 1025 (by decide +kernel) rfl
theorem fl_X9_202 : FL RX9 202 9 22 := ⟨RX9, TX9, 46, rfl, by decide, rfl, aT_in 752 (by decide +kernel) rfl, lays_X9⟩
theorem kc_X9_205 : Cond.constantLong RX9 205 (12345) ∈ aT := aT_in 1026 (by decide +kernel) rfl
theorem kc_X9_207 : Cond.constantLong RX9 207 (2147483647) ∈ aT := aT_in 1027 (by decide +kernel) rfl
theorem fp_X9_202 : FP RX9 202 9 22 := ⟨RX9, TX9, 46, tyX9, rfl, by decide, rfl, aT_in 752 (by decide +kernel) rfl, lays_X9, tyX9_ok, nmX9, rfl, tyX9_ok 22 (by decide)⟩
theorem kc_X9_209 : Cond.constant RX9 209 (65536) ∈ aT := aT_in 1028 (by decide +kernel) rfl
theorem sl_X9_210 : SL RX9 210 MX9_ones 1 := ⟨Or.inl (aT_in 1018 (by decide +kernel) rfl), aT_in 1019 (by decide +kernel) rfl, aT_in 57 (by decide +kernel) rfl, cw_X9_ones, ⟨by decide +kernel, by decide +kernel, by decide +kernel⟩, by decide⟩
theorem vl_X9_213 : VL RX9 213 9 MX9_draw 1 := ⟨⟨TX9, 46, rfl⟩, Or.inl (aT_in 1021 (by decide +kernel) rfl), aT_in 1023 (by decide +kernel) rfl, aT_in 30 (by decide +kernel) rfl, aT_in 57 (by decide +kernel) rfl, cw_X9_draw, ⟨by decide +kernel, by decide +kernel, by decide +kernel⟩, by decide⟩
theorem vl_X9_216 : VL RX9 216 9 MX9_byDraw 1 := ⟨⟨TX9, 46, rfl⟩, Or.inl (aT_in 1014 (by decide +kernel) rfl), aT_in 1016 (by decide +kernel) rfl, aT_in 29 (by decide +kernel) rfl, aT_in 57 (by decide +kernel) rfl, cw_X9_byDraw, ⟨by decide +kernel, by decide +kernel, by decide +kernel⟩, by decide⟩
theorem vl_X9_219 : VL RX9 219 9 MX9_byHabit 2 := ⟨⟨TX9, 46, rfl⟩, Or.inl (aT_in 1029 (by decide +kernel) rfl), aT_in 1031 (by decide +kernel) rfl, aT_in 31 (by decide +kernel) rfl, aT_in 57 (by decide +kernel) rfl, cw_X9_byHabit, ⟨by decide +kernel, by decide +kernel, by decide +kernel⟩, by decide⟩
theorem fl_X9_222 : FL RX9 222 9 19 := ⟨RX9, TX9, 46, rfl, by decide, rfl, aT_in 749 (by decide +kernel) rfl, lays_X9⟩
theorem fp_X9_222 : FP RX9 222 9 19 := ⟨RX9, TX9, 46, tyX9, rfl, by decide, rfl, aT_in 749 (by decide +kernel) rfl, lays_X9, tyX9_ok, nmX9, rfl, tyX9_ok 19 (by decide)⟩
theorem kc_X9_225 : Cond.constantLong RX9 225 (30) ∈ aT := aT_in 1009 (by decide +kernel) rfl
theorem vl_X9_227 : VL RX9 227 9 MX9_year 1 := ⟨⟨TX9, 46, rfl⟩, Or.inl (aT_in 1010 (by decide +kernel) rfl), aT_in 1012 (by decide +kernel) rfl, aT_in 28 (by decide +kernel) rfl, aT_in 57 (by decide +kernel) rfl, cw_X9_year, ⟨by decide +kernel, by decide +kernel, by decide +kernel⟩, by decide⟩
theorem vl_X9_231 : VL RX9 231 9 MX9_beginWays 1 := ⟨⟨TX9, 46, rfl⟩, Or.inl (aT_in 1041 (by decide +kernel) rfl), aT_in 1043 (by decide +kernel) rfl, aT_in 33 (by decide +kernel) rfl, aT_in 57 (by decide +kernel) rfl, cw_X9_beginWays, ⟨by decide +kernel, by decide +kernel, by decide +kernel⟩, by decide⟩
theorem vl_X9_235 : VL RX9 235 9 MX9_goAll 2 := ⟨⟨TX9, 46, rfl⟩, Or.inl (aT_in 1045 (by decide +kernel) rfl), aT_in 1047 (by decide +kernel) rfl, aT_in 34 (by decide +kernel) rfl, aT_in 57 (by decide +kernel) rfl, cw_X9_goAll, ⟨by decide +kernel, by decide +kernel, by decide +kernel⟩, by decide⟩
theorem vl_X9_239 : VL RX9 239 9 MX9_layWays 1 := ⟨⟨TX9, 46, rfl⟩, Or.inl (aT_in 1037 (by decide +kernel) rfl), aT_in 1039 (by decide +kernel) rfl, aT_in 32 (by decide +kernel) rfl, aT_in 57 (by decide +kernel) rfl, cw_X9_layWays, ⟨by decide +kernel, by decide +kernel, by decide +kernel⟩, by decide⟩
theorem vl_X9_242 : VL RX9 242 9 MX9_soonestOf 1 := ⟨⟨TX9, 46, rfl⟩, Or.inl (aT_in 1053 (by decide +kernel) rfl), aT_in 1055 (by decide +kernel) rfl, aT_in 35 (by decide +kernel) rfl, aT_in 57 (by decide +kernel) rfl, cw_X9_soonestOf, ⟨by decide +kernel, by decide +kernel, by decide +kernel⟩, by decide⟩
theorem kc_X9_245 : Cond.constantLong RX9 245 (-101) ∈ aT := aT_in 1061 (by decide +kernel) rfl
theorem kc_X9_247 : Cond.constantLong RX9 247 (-103) ∈ aT := aT_in 1062 (by decide +kernel) rfl
theorem kc_X9_249 : Cond.constantLong RX9 249 (7) ∈ aT := aT_in 1063 (by decide +kernel) rfl
theorem kc_X9_251 : Cond.constantLong RX9 251 (-102) ∈ aT := aT_in 1064 (by decide +kernel) rfl
theorem kc_X9_253 : Cond.constantLong RX9 253 (420) ∈ aT := aT_in 1065 (by decide +kernel) rfl
theorem sl_X9_255 : SL RX9 255 MX9_term 3 := ⟨Or.inl (aT_in 1066 (by decide +kernel) rfl), aT_in 1067 (by decide +kernel) rfl, aT_in 57 (by decide +kernel) rfl, cw_X9_term, ⟨by decide +kernel, by decide +kernel, by decide +kernel⟩, by decide⟩
theorem vl_X9_259 : VL RX9 259 9 MX9_trapsOf 0 := ⟨⟨TX9, 46, rfl⟩, Or.inl (aT_in 1073 (by decide +kernel) rfl), aT_in 1075 (by decide +kernel) rfl, aT_in 36 (by decide +kernel) rfl, aT_in 57 (by decide +kernel) rfl, cw_X9_trapsOf, ⟨by decide +kernel, by decide +kernel, by decide +kernel⟩, by decide⟩
theorem vl_X9_262 : VL RX9 262 9 MX9_layRound 0 := ⟨⟨TX9, 46, rfl⟩, Or.inl (aT_in 1087 (by decide +kernel) rfl), aT_in 1089 (by decide +kernel) rfl, aT_in 38 (by decide +kernel) rfl, aT_in 57 (by decide +kernel) rfl, cw_X9_layRound, ⟨by decide +kernel, by decide +kernel, by decide +kernel⟩, by decide⟩
theorem kc_X9_265 : Cond.constantLong RX9 265 (10) ∈ aT := aT_in 1081 (by decide +kernel) rfl
theorem kc_X9_267 : Cond.constantLong RX9 267 (17) ∈ aT := aT_in 1082 (by decide +kernel) rfl
theorem vl_X9_269 : VL RX9 269 9 MX9_tellRound 1 := ⟨⟨TX9, 46, rfl⟩, Or.inl (aT_in 1083 (by decide +kernel) rfl), aT_in 1085 (by decide +kernel) rfl, aT_in 37 (by decide +kernel) rfl, aT_in 57 (by decide +kernel) rfl, cw_X9_tellRound, ⟨by decide +kernel, by decide +kernel, by decide +kernel⟩, by decide⟩
theorem vl_X9_272 : VL RX9 272 9 MX9_layFar 1 := ⟨⟨TX9, 46, rfl⟩, Or.inl (aT_in 1099 (by decide +kernel) rfl), aT_in 1101 (by decide +kernel) rfl, aT_in 40 (by decide +kernel) rfl, aT_in 57 (by decide +kernel) rfl, cw_X9_layFar, ⟨by decide +kernel, by decide +kernel, by decide +kernel⟩, by decide⟩
theorem vl_X9_275 : VL RX9 275 9 MX9_tellStranger 3 := ⟨⟨TX9, 46, rfl⟩, Or.inl (aT_in 1095 (by decide +kernel) rfl), aT_in 1097 (by decide +kernel) rfl, aT_in 39 (by decide +kernel) rfl, aT_in 57 (by decide +kernel) rfl, cw_X9_tellStranger, ⟨by decide +kernel, by decide +kernel, by decide +kernel⟩, by decide⟩
theorem sl_X9_279 : SL RX9 279 MX9_copy 3 := ⟨Or.inl (aT_in 1107 (by decide +kernel) rfl), aT_in 1108 (by decide +kernel) rfl, aT_in 57 (by decide +kernel) rfl, cw_X9_copy, ⟨by decide +kernel, by decide +kernel, by decide +kernel⟩, by decide⟩
theorem vl_X9_283 : VL RX9 283 9 MX9_livesMany 0 := ⟨⟨TX9, 46, rfl⟩, Or.inl (aT_in 1110 (by decide +kernel) rfl), aT_in 1112 (by decide +kernel) rfl, aT_in 41 (by decide +kernel) rfl, aT_in 57 (by decide +kernel) rfl, cw_X9_livesMany, ⟨by decide +kernel, by decide +kernel, by decide +kernel⟩, by decide⟩
theorem fl_X9_286 : FL RX9 286 9 34 := ⟨RX9, TX9, 46, rfl, by decide, rfl, aT_in 764 (by decide +kernel) rfl, lays_X9⟩
theorem fp_X9_286 : FP RX9 286 9 34 := ⟨RX9, TX9, 46, tyX9, rfl, by decide, rfl, aT_in 764 (by decide +kernel) rfl, lays_X9, tyX9_ok, nmX9, rfl, tyX9_ok 34 (by decide)⟩
theorem vl_X9_289 : VL RX9 289 9 MX9_isYear 1 := ⟨⟨TX9, 46, rfl⟩, Or.inl (aT_in 1122 (by decide +kernel) rfl), aT_in 1124 (by decide +kernel) rfl, aT_in 42 (by decide +kernel) rfl, aT_in 57 (by decide +kernel) rfl, cw_X9_isYear, ⟨by decide +kernel, by decide +kernel, by decide +kernel⟩, by decide⟩
theorem vl_X9_292 : VL RX9 292 9 MX9_filledOf 0 := ⟨⟨TX9, 46, rfl⟩, Or.inl (aT_in 1130 (by decide +kernel) rfl), aT_in 1132 (by decide +kernel) rfl, aT_in 43 (by decide +kernel) rfl, aT_in 57 (by decide +kernel) rfl, cw_X9_filledOf, ⟨by decide +kernel, by decide +kernel, by decide +kernel⟩, by decide⟩
theorem fl_X9_295 : FL RX9 295 9 37 := ⟨RX9, TX9, 46, rfl, by decide, rfl, aT_in 767 (by decide +kernel) rfl, lays_X9⟩
theorem fp_X9_295 : FP RX9 295 9 37 := ⟨RX9, TX9, 46, tyX9, rfl, by decide, rfl, aT_in 767 (by decide +kernel) rfl, lays_X9, tyX9_ok, nmX9, rfl, tyX9_ok 37 (by decide)⟩
theorem fl_X9_298 : FL RX9 298 9 38 := ⟨RX9, TX9, 46, rfl, by decide, rfl, aT_in 768 (by decide +kernel) rfl, lays_X9⟩
theorem fp_X9_298 : FP RX9 298 9 38 := ⟨RX9, TX9, 46, tyX9, rfl, by decide, rfl, aT_in 768 (by decide +kernel) rfl, lays_X9, tyX9_ok, nmX9, rfl, tyX9_ok 38 (by decide)⟩
theorem fl_X9_301 : FL RX9 301 9 39 := ⟨RX9, TX9, 46, rfl, by decide, rfl, aT_in 769 (by decide +kernel) rfl, lays_X9⟩
theorem fp_X9_301 : FP RX9 301 9 39 := ⟨RX9, TX9, 46, tyX9, rfl, by decide, rfl, aT_in 769 (by decide +kernel) rfl, lays_X9, tyX9_ok, nmX9, rfl, tyX9_ok 39 (by decide)⟩
theorem vl_X9_304 : VL RX9 304 9 MX9_countOf 1 := ⟨⟨TX9, 46, rfl⟩, Or.inl (aT_in 1150 (by decide +kernel) rfl), aT_in 1152 (by decide +kernel) rfl, aT_in 44 (by decide +kernel) rfl, aT_in 57 (by decide +kernel) rfl, cw_X9_countOf, ⟨by decide +kernel, by decide +kernel, by decide +kernel⟩, by decide⟩
theorem kc_X9_307 : Cond.constantLong RX9 307 (31) ∈ aT := aT_in 1163 (by decide +kernel) rfl
theorem fl_X9_309 : FL RX9 309 9 45 := ⟨RX9, TX9, 46, rfl, by decide, rfl, aT_in 775 (by decide +kernel) rfl, lays_X9⟩
theorem fp_X9_309 : FP RX9 309 9 45 := ⟨RX9, TX9, 46, tyX9, rfl, by decide, rfl, aT_in 775 (by decide +kernel) rfl, lays_X9, tyX9_ok, nmX9, rfl, tyX9_ok 45 (by decide)⟩
theorem vl_X9_313 : VL RX9 313 9 MX9_say 1 := ⟨⟨TX9, 46, rfl⟩, Or.inl (aT_in 1159 (by decide +kernel) rfl), aT_in 1161 (by decide +kernel) rfl, aT_in 45 (by decide +kernel) rfl, aT_in 57 (by decide +kernel) rfl, cw_X9_say, ⟨by decide +kernel, by decide +kernel, by decide +kernel⟩, by decide⟩
theorem kc_X9_317 : Cond.constantLong RX9 317 (607) ∈ aT := aT_in 1158 (by decide +kernel) rfl
theorem vl_X9_319 : VL RX9 319 9 MX9_sayGift 1 := ⟨⟨TX9, 46, rfl⟩, Or.inl (aT_in 1164 (by decide +kernel) rfl), aT_in 1166 (by decide +kernel) rfl, aT_in 46 (by decide +kernel) rfl, aT_in 57 (by decide +kernel) rfl, cw_X9_sayGift, ⟨by decide +kernel, by decide +kernel, by decide +kernel⟩, by decide⟩
theorem fl_X0_9 : FL RX0 9 0 0 := ⟨RX0, TX0, 3, rfl, by decide, rfl, aT_in 250 (by decide +kernel) rfl, lays_X0⟩
theorem fl_X0_15 : FL RX0 15 0 2 := ⟨RX0, TX0, 3, rfl, by decide, rfl, aT_in 253 (by decide +kernel) rfl, lays_X0⟩
theorem sl_X0_19 : SL RX0 19 MX8_within 3 := ⟨Or.inr ⟨"GivenGoesOn", aN_in 657 (by decide +kernel) rfl⟩, aT_in 326 (by decide +kernel) rfl, aT_in 48 (by decide +kernel) rfl, cw_X8_within, ⟨by decide +kernel, by decide +kernel, by decide +kernel⟩, by decide⟩
theorem fl_X0_23 : FL RX0 23 0 1 := ⟨RX0, TX0, 3, rfl, by decide, rfl, aT_in 252 (by decide +kernel) rfl, lays_X0⟩
theorem fp_X0_23 : FP RX0 23 0 1 := ⟨RX0, TX0, 3, tyX0, rfl, by decide, rfl, aT_in 252 (by decide +kernel) rfl, lays_X0, tyX0_ok, nmX0, rfl, tyX0_ok 1 (by decide)⟩
theorem fp_X0_15 : FP RX0 15 0 2 := ⟨RX0, TX0, 3, tyX0, rfl, by decide, rfl, aT_in 253 (by decide +kernel) rfl, lays_X0, tyX0_ok, nmX0, rfl, tyX0_ok 2 (by decide)⟩
theorem vl_X0_26 : VL RX0 26 6 MX6_begin 2 := ⟨⟨TX6, 2, rfl⟩, Or.inl (aT_in 666 (by decide +kernel) rfl), aT_in 519 (by decide +kernel) rfl, aT_in 520 (by decide +kernel) rfl, aT_in 54 (by decide +kernel) rfl, cw_X6_begin, ⟨by decide +kernel, by decide +kernel, by decide +kernel⟩, by decide⟩
theorem vl_X0_32 : VL RX0 32 6 MX6_goOn 4 := ⟨⟨TX6, 2, rfl⟩, Or.inl (aT_in 667 (by decide +kernel) rfl), aT_in 529 (by decide +kernel) rfl, aT_in 530 (by decide +kernel) rfl, aT_in 54 (by decide +kernel) rfl, cw_X6_goOn, ⟨by decide +kernel, by decide +kernel, by decide +kernel⟩, by decide⟩
theorem vl_X0_36 : VL RX0 36 6 MX6_keepOnly 1 := ⟨⟨TX6, 2, rfl⟩, Or.inl (aT_in 668 (by decide +kernel) rfl), aT_in 669 (by decide +kernel) rfl, aT_in 670 (by decide +kernel) rfl, aT_in 54 (by decide +kernel) rfl, cw_X6_keepOnly, ⟨by decide +kernel, by decide +kernel, by decide +kernel⟩, by decide⟩
theorem vl_X0_40 : VL RX0 40 6 MX6_sum 0 := ⟨⟨TX6, 2, rfl⟩, Or.inl (aT_in 672 (by decide +kernel) rfl), aT_in 673 (by decide +kernel) rfl, aT_in 674 (by decide +kernel) rfl, aT_in 54 (by decide +kernel) rfl, cw_X6_sum, ⟨by decide +kernel, by decide +kernel, by decide +kernel⟩, by decide⟩
theorem fl_X0_44 : FL RX0 44 7 0 := ⟨RX7, TX7, 9, rfl, by decide, rfl, aT_in 167 (by decide +kernel) rfl, lays_X7⟩
theorem vl_X0_49 : VL RX0 49 0 MX0_fillings 2 := ⟨⟨TX0, 3, rfl⟩, Or.inl (aT_in 684 (by decide +kernel) rfl), aT_in 663 (by decide +kernel) rfl, aT_in 664 (by decide +kernel) rfl, aT_in 56 (by decide +kernel) rfl, cw_X0_fillings, ⟨by decide +kernel, by decide +kernel, by decide +kernel⟩, by decide⟩
theorem fl_X1_11 : FL RX1 11 1 0 := ⟨RX1, TX1, 2, rfl, by decide, rfl, aT_in 236 (by decide +kernel) rfl, lays_X1⟩
theorem fl_X1_15 : FL RX1 15 1 1 := ⟨RX1, TX1, 2, rfl, by decide, rfl, aT_in 237 (by decide +kernel) rfl, lays_X1⟩
theorem fl_X1_18 : FL RX1 18 7 0 := ⟨RX7, TX7, 9, rfl, by decide, rfl, aT_in 164 (by decide +kernel) rfl, lays_X7⟩
theorem vl_X1_24 : VL RX1 24 1 MX1_mostBehind 2 := ⟨⟨TX1, 2, rfl⟩, Or.inl (aT_in 572 (by decide +kernel) rfl), aT_in 574 (by decide +kernel) rfl, aT_in 7 (by decide +kernel) rfl, aT_in 55 (by decide +kernel) rfl, cw_X1_mostBehind, ⟨by decide +kernel, by decide +kernel, by decide +kernel⟩, by decide⟩
theorem vl_X1_28 : VL RX1 28 1 MX1_firstOfMost 2 := ⟨⟨TX1, 2, rfl⟩, Or.inl (aT_in 585 (by decide +kernel) rfl), aT_in 587 (by decide +kernel) rfl, aT_in 9 (by decide +kernel) rfl, aT_in 55 (by decide +kernel) rfl, cw_X1_firstOfMost, ⟨by decide +kernel, by decide +kernel, by decide +kernel⟩, by decide⟩
theorem sl_X1_31 : SL RX1 31 MX8_bit 1 := ⟨Or.inr ⟨"GivenGoesOn", aN_in 581 (by decide +kernel) rfl⟩, aT_in 370 (by decide +kernel) rfl, aT_in 48 (by decide +kernel) rfl, cw_X8_bit, ⟨by decide +kernel, by decide +kernel, by decide +kernel⟩, by decide⟩
theorem vl_X1_35 : VL RX1 35 1 MX1_mostBy 3 := ⟨⟨TX1, 2, rfl⟩, Or.inl (aT_in 576 (by decide +kernel) rfl), aT_in 578 (by decide +kernel) rfl, aT_in 8 (by decide +kernel) rfl, aT_in 55 (by decide +kernel) rfl, cw_X1_mostBy, ⟨by decide +kernel, by decide +kernel, by decide +kernel⟩, by decide⟩
theorem sl_X1_39 : SL RX1 39 MJ9_max_7cf53 2 := ⟨Or.inl (aT_in 584 (by decide +kernel) rfl), aT_in 434 (by decide +kernel) rfl, aT_in 58 (by decide +kernel) rfl, cw_J9_max_7cf53, ⟨by decide +kernel, by decide +kernel, by decide +kernel⟩, by decide⟩
theorem vl_X1_45 : VL RX1 45 1 MX1_isThere 0 := ⟨⟨TX1, 2, rfl⟩, Or.inl (aT_in 589 (by decide +kernel) rfl), aT_in 590 (by decide +kernel) rfl, aT_in 591 (by decide +kernel) rfl, aT_in 55 (by decide +kernel) rfl, cw_X1_isThere, ⟨by decide +kernel, by decide +kernel, by decide +kernel⟩, by decide⟩
theorem sl_X1_49 : SL RX1 49 MJ6_bitCount_0f7a4 1 := ⟨Or.inl (aT_in 580 (by decide +kernel) rfl), aT_in 503 (by decide +kernel) rfl, aT_in 59 (by decide +kernel) rfl, cw_J6_bitCount_0f7a4, ⟨by decide +kernel, by decide +kernel, by decide +kernel⟩, by decide⟩
theorem vl_X1_54 : VL RX1 54 7 MX7_knows 2 := ⟨⟨TX7, 9, rfl⟩, Or.inl (aT_in 582 (by decide +kernel) rfl), aT_in 366 (by decide +kernel) rfl, aT_in 367 (by decide +kernel) rfl, aT_in 51 (by decide +kernel) rfl, cw_X7_knows, ⟨by decide +kernel, by decide +kernel, by decide +kernel⟩, by decide⟩
theorem fl_X1_58 : FL RX1 58 7 4 := ⟨RX7, TX7, 9, rfl, by decide, rfl, aT_in 176 (by decide +kernel) rfl, lays_X7⟩
theorem sl_X1_61 : SL RX1 61 MX8_pair 2 := ⟨Or.inr ⟨"GivenGoesOn", aN_in 583 (by decide +kernel) rfl⟩, aT_in 381 (by decide +kernel) rfl, aT_in 48 (by decide +kernel) rfl, cw_X8_pair, ⟨by decide +kernel, by decide +kernel, by decide +kernel⟩, by decide⟩
theorem sl_X2_9 : SL RX2 9 MJ6_bitCount_0f7a4 1 := ⟨Or.inl (aT_in 502 (by decide +kernel) rfl), aT_in 503 (by decide +kernel) rfl, aT_in 59 (by decide +kernel) rfl, cw_J6_bitCount_0f7a4, ⟨by decide +kernel, by decide +kernel, by decide +kernel⟩, by decide⟩
theorem kc_X2_15 : Cond.constantLong RX2 15 (1103515245) ∈ aT := aT_in 508 (by decide +kernel) rfl
theorem fl_X2_17 : FL RX2 17 2 0 := ⟨RX2, TX2, 1, rfl, by decide, rfl, aT_in 211 (by decide +kernel) rfl, lays_X2⟩
theorem kc_X2_23 : Cond.constantLong RX2 23 (12345) ∈ aT := aT_in 509 (by decide +kernel) rfl
theorem kc_X2_25 : Cond.constantLong RX2 25 (2147483647) ∈ aT := aT_in 510 (by decide +kernel) rfl
theorem fp_X2_17 : FP RX2 17 2 0 := ⟨RX2, TX2, 1, tyX2, rfl, by decide, rfl, aT_in 211 (by decide +kernel) rfl, lays_X2, tyX2_ok, nmX2, rfl, tyX2_ok 0 (by decide)⟩
theorem kc_X2_27 : Cond.constantLong RX2 27 (65536) ∈ aT := aT_in 511 (by decide +kernel) rfl
theorem sl_X2_29 : SL RX2 29 MX8_bit 1 := ⟨Or.inr ⟨"GivenGoesOn", aN_in 512 (by decide +kernel) rfl⟩, aT_in 370 (by decide +kernel) rfl, aT_in 48 (by decide +kernel) rfl, cw_X8_bit, ⟨by decide +kernel, by decide +kernel, by decide +kernel⟩, by decide⟩
theorem fl_X3_9 : FL RX3 9 3 0 := ⟨RX3, TX3, 8, rfl, by decide, rfl, aT_in 127 (by decide +kernel) rfl, lays_X3⟩
theorem fp_X3_9 : FP RX3 9 3 0 := ⟨RX3, TX3, 8, tyX3, rfl, by decide, rfl, aT_in 127 (by decide +kernel) rfl, lays_X3, tyX3_ok, nmX3, rfl, tyX3_ok 0 (by decide)⟩
theorem fl_X3_15 : FL RX3 15 3 1 := ⟨RX3, TX3, 8, rfl, by decide, rfl, aT_in 129 (by decide +kernel) rfl, lays_X3⟩
theorem fp_X3_15 : FP RX3 15 3 1 := ⟨RX3, TX3, 8, tyX3, rfl, by decide, rfl, aT_in 129 (by decide +kernel) rfl, lays_X3, tyX3_ok, nmX3, rfl, tyX3_ok 1 (by decide)⟩
theorem fl_X3_18 : FL RX3 18 3 2 := ⟨RX3, TX3, 8, rfl, by decide, rfl, aT_in 131 (by decide +kernel) rfl, lays_X3⟩
theorem fp_X3_18 : FP RX3 18 3 2 := ⟨RX3, TX3, 8, tyX3, rfl, by decide, rfl, aT_in 131 (by decide +kernel) rfl, lays_X3, tyX3_ok, nmX3, rfl, tyX3_ok 2 (by decide)⟩
theorem fl_X3_21 : FL RX3 21 3 3 := ⟨RX3, TX3, 8, rfl, by decide, rfl, aT_in 134 (by decide +kernel) rfl, lays_X3⟩
theorem fp_X3_21 : FP RX3 21 3 3 := ⟨RX3, TX3, 8, tyX3, rfl, by decide, rfl, aT_in 134 (by decide +kernel) rfl, lays_X3, tyX3_ok, nmX3, rfl, tyX3_ok 3 (by decide)⟩
theorem fl_X3_24 : FL RX3 24 3 4 := ⟨RX3, TX3, 8, rfl, by decide, rfl, aT_in 137 (by decide +kernel) rfl, lays_X3⟩
theorem fp_X3_24 : FP RX3 24 3 4 := ⟨RX3, TX3, 8, tyX3, rfl, by decide, rfl, aT_in 137 (by decide +kernel) rfl, lays_X3, tyX3_ok, nmX3, rfl, tyX3_ok 4 (by decide)⟩
theorem fl_X3_27 : FL RX3 27 3 5 := ⟨RX3, TX3, 8, rfl, by decide, rfl, aT_in 139 (by decide +kernel) rfl, lays_X3⟩
theorem fp_X3_27 : FP RX3 27 3 5 := ⟨RX3, TX3, 8, tyX3, rfl, by decide, rfl, aT_in 139 (by decide +kernel) rfl, lays_X3, tyX3_ok, nmX3, rfl, tyX3_ok 5 (by decide)⟩
theorem fl_X3_30 : FL RX3 30 3 6 := ⟨RX3, TX3, 8, rfl, by decide, rfl, aT_in 142 (by decide +kernel) rfl, lays_X3⟩
theorem fp_X3_30 : FP RX3 30 3 6 := ⟨RX3, TX3, 8, tyX3, rfl, by decide, rfl, aT_in 142 (by decide +kernel) rfl, lays_X3, tyX3_ok, nmX3, rfl, tyX3_ok 6 (by decide)⟩
theorem fl_X3_33 : FL RX3 33 3 7 := ⟨RX3, TX3, 8, rfl, by decide, rfl, aT_in 145 (by decide +kernel) rfl, lays_X3⟩
theorem fp_X3_33 : FP RX3 33 3 7 := ⟨RX3, TX3, 8, tyX3, rfl, by decide, rfl, aT_in 145 (by decide +kernel) rfl, lays_X3, tyX3_ok, nmX3, rfl, tyX3_ok 7 (by decide)⟩
theorem sl_X3_36 : SL RX3 36 MJ9_max_7cf53 2 := ⟨Or.inl (aT_in 433 (by decide +kernel) rfl), aT_in 434 (by decide +kernel) rfl, aT_in 58 (by decide +kernel) rfl, cw_J9_max_7cf53, ⟨by decide +kernel, by decide +kernel, by decide +kernel⟩, by decide⟩
theorem sl_X3_42 : SL RX3 42 MJ9_min_7cf53 2 := ⟨Or.inl (aT_in 436 (by decide +kernel) rfl), aT_in 437 (by decide +kernel) rfl, aT_in 58 (by decide +kernel) rfl, cw_J9_min_7cf53, ⟨by decide +kernel, by decide +kernel, by decide +kernel⟩, by decide⟩
theorem vl_X3_45 : VL RX3 45 3 MX3_lives 0 := ⟨⟨TX3, 8, rfl⟩, Or.inl (aT_in 487 (by decide +kernel) rfl), aT_in 392 (by decide +kernel) rfl, aT_in 393 (by decide +kernel) rfl, aT_in 52 (by decide +kernel) rfl, cw_X3_lives, ⟨by decide +kernel, by decide +kernel, by decide +kernel⟩, by decide⟩
theorem vl_X3_49 : VL RX3 49 3 MX3_isOf 1 := ⟨⟨TX3, 8, rfl⟩, Or.inl (aT_in 474 (by decide +kernel) rfl), aT_in 444 (by decide +kernel) rfl, aT_in 445 (by decide +kernel) rfl, aT_in 52 (by decide +kernel) rfl, cw_X3_isOf, ⟨by decide +kernel, by decide +kernel, by decide +kernel⟩, by decide⟩
theorem fl_X4_11 : FL RX4 11 4 0 := ⟨RX4, TX4, 4, rfl, by decide, rfl, aT_in 93 (by decide +kernel) rfl, lays_X4⟩
theorem fp_X4_11 : FP RX4 11 4 0 := ⟨RX4, TX4, 4, tyX4, rfl, by decide, rfl, aT_in 93 (by decide +kernel) rfl, lays_X4, tyX4_ok, nmX4, rfl, tyX4_ok 0 (by decide)⟩
theorem fl_X4_15 : FL RX4 15 4 3 := ⟨RX4, TX4, 4, rfl, by decide, rfl, aT_in 102 (by decide +kernel) rfl, lays_X4⟩
theorem fp_X4_15 : FP RX4 15 4 3 := ⟨RX4, TX4, 4, tyX4, rfl, by decide, rfl, aT_in 102 (by decide +kernel) rfl, lays_X4, tyX4_ok, nmX4, rfl, tyX4_ok 3 (by decide)⟩
theorem fl_X4_18 : FL RX4 18 4 1 := ⟨RX4, TX4, 4, rfl, by decide, rfl, aT_in 96 (by decide +kernel) rfl, lays_X4⟩
theorem fp_X4_18 : FP RX4 18 4 1 := ⟨RX4, TX4, 4, tyX4, rfl, by decide, rfl, aT_in 96 (by decide +kernel) rfl, lays_X4, tyX4_ok, nmX4, rfl, tyX4_ok 1 (by decide)⟩
theorem fl_X4_22 : FL RX4 22 4 2 := ⟨RX4, TX4, 4, rfl, by decide, rfl, aT_in 99 (by decide +kernel) rfl, lays_X4⟩
theorem fp_X4_22 : FP RX4 22 4 2 := ⟨RX4, TX4, 4, tyX4, rfl, by decide, rfl, aT_in 99 (by decide +kernel) rfl, lays_X4, tyX4_ok, nmX4, rfl, tyX4_ok 2 (by decide)⟩
theorem fl_X4_25 : FL RX4 25 5 1 := ⟨RX5, TX5, 2, rfl, by decide, rfl, aT_in 79 (by decide +kernel) rfl, lays_X5⟩
theorem fl_X4_30 : FL RX4 30 5 0 := ⟨RX5, TX5, 2, rfl, by decide, rfl, aT_in 76 (by decide +kernel) rfl, lays_X5⟩
theorem fl_X5_9 : FL RX5 9 5 0 := ⟨RX5, TX5, 2, rfl, by decide, rfl, aT_in 75 (by decide +kernel) rfl, lays_X5⟩
theorem sl_X5_15 : SL RX5 15 MX5_byteOf 2 := ⟨Or.inl (aT_in 302 (by decide +kernel) rfl), aT_in 303 (by decide +kernel) rfl, aT_in 49 (by decide +kernel) rfl, cw_X5_byteOf, ⟨by decide +kernel, by decide +kernel, by decide +kernel⟩, by decide⟩
theorem kc_X5_19 : Cond.constantLong RX5 19 (255) ∈ aT := aT_in 305 (by decide +kernel) rfl
theorem fl_X5_21 : FL RX5 21 5 1 := ⟨RX5, TX5, 2, rfl, by decide, rfl, aT_in 80 (by decide +kernel) rfl, lays_X5⟩
theorem fp_X5_21 : FP RX5 21 5 1 := ⟨RX5, TX5, 2, tyX5, rfl, by decide, rfl, aT_in 80 (by decide +kernel) rfl, lays_X5, tyX5_ok, nmX5, rfl, tyX5_ok 1 (by decide)⟩
theorem sl_X5_25 : SL RX5 25 MX5_behind 2 := ⟨Or.inl (aT_in 322 (by decide +kernel) rfl), aT_in 323 (by decide +kernel) rfl, aT_in 49 (by decide +kernel) rfl, cw_X5_behind, ⟨by decide +kernel, by decide +kernel, by decide +kernel⟩, by decide⟩
theorem sl_X5_29 : SL RX5 29 MX8_within 3 := ⟨Or.inr ⟨"GivenGoesOn", aN_in 325 (by decide +kernel) rfl⟩, aT_in 326 (by decide +kernel) rfl, aT_in 48 (by decide +kernel) rfl, cw_X8_within, ⟨by decide +kernel, by decide +kernel, by decide +kernel⟩, by decide⟩
theorem fl_X6_11 : FL RX6 11 6 0 := ⟨RX6, TX6, 2, rfl, by decide, rfl, aT_in 222 (by decide +kernel) rfl, lays_X6⟩
theorem fl_X6_15 : FL RX6 15 6 1 := ⟨RX6, TX6, 2, rfl, by decide, rfl, aT_in 223 (by decide +kernel) rfl, lays_X6⟩
theorem sl_X6_18 : SL RX6 18 MX6_clear 1 := ⟨Or.inl (aT_in 522 (by decide +kernel) rfl), aT_in 523 (by decide +kernel) rfl, aT_in 54 (by decide +kernel) rfl, cw_X6_clear, ⟨by decide +kernel, by decide +kernel, by decide +kernel⟩, by decide⟩
theorem sl_X6_22 : SL RX6 22 MX6_spot 2 := ⟨Or.inl (aT_in 525 (by decide +kernel) rfl), aT_in 526 (by decide +kernel) rfl, aT_in 54 (by decide +kernel) rfl, cw_X6_spot, ⟨by decide +kernel, by decide +kernel, by decide +kernel⟩, by decide⟩
theorem fl_X6_26 : FL RX6 26 7 0 := ⟨RX7, TX7, 9, rfl, by decide, rfl, aT_in 166 (by decide +kernel) rfl, lays_X7⟩
theorem vl_X6_32 : VL RX6 32 7 MX7_mayHave 3 := ⟨⟨TX7, 9, rfl⟩, Or.inl (aT_in 532 (by decide +kernel) rfl), aT_in 457 (by decide +kernel) rfl, aT_in 458 (by decide +kernel) rfl, aT_in 51 (by decide +kernel) rfl, cw_X7_mayHave, ⟨by decide +kernel, by decide +kernel, by decide +kernel⟩, by decide⟩
theorem kc_X6_36 : Cond.constantLong RX6 36 (420) ∈ aT := aT_in 533 (by decide +kernel) rfl
theorem sl_X6_38 : SL RX6 38 MJ6_bitCount_0f7a4 1 := ⟨Or.inl (aT_in 534 (by decide +kernel) rfl), aT_in 503 (by decide +kernel) rfl, aT_in 59 (by decide +kernel) rfl, cw_J6_bitCount_0f7a4, ⟨by decide +kernel, by decide +kernel, by decide +kernel⟩, by decide⟩
theorem sl_X6_44 : SL RX6 44 MX8_bit 1 := ⟨Or.inr ⟨"GivenGoesOn", aN_in 535 (by decide +kernel) rfl⟩, aT_in 370 (by decide +kernel) rfl, aT_in 48 (by decide +kernel) rfl, cw_X8_bit, ⟨by decide +kernel, by decide +kernel, by decide +kernel⟩, by decide⟩
theorem vl_X6_47 : VL RX6 47 6 MX6_spread 3 := ⟨⟨TX6, 2, rfl⟩, Or.inl (aT_in 536 (by decide +kernel) rfl), aT_in 538 (by decide +kernel) rfl, aT_in 6 (by decide +kernel) rfl, aT_in 54 (by decide +kernel) rfl, cw_X6_spread, ⟨by decide +kernel, by decide +kernel, by decide +kernel⟩, by decide⟩
theorem cp_X6_51 : CPL RX6 51 := ⟨aT_in 540 (by decide +kernel) rfl, aT_in 542 (by decide +kernel) rfl, aT_in 541 (by decide +kernel) rfl, aT_in 60 (by decide +kernel) rfl⟩
theorem fl_X7_9 : FL RX7 9 7 1 := ⟨RX7, TX7, 9, rfl, by decide, rfl, aT_in 169 (by decide +kernel) rfl, lays_X7⟩
theorem fl_X7_15 : FL RX7 15 7 2 := ⟨RX7, TX7, 9, rfl, by decide, rfl, aT_in 171 (by decide +kernel) rfl, lays_X7⟩
theorem fl_X7_18 : FL RX7 18 7 3 := ⟨RX7, TX7, 9, rfl, by decide, rfl, aT_in 173 (by decide +kernel) rfl, lays_X7⟩
theorem fl_X7_21 : FL RX7 21 7 4 := ⟨RX7, TX7, 9, rfl, by decide, rfl, aT_in 175 (by decide +kernel) rfl, lays_X7⟩
theorem fl_X7_24 : FL RX7 24 7 5 := ⟨RX7, TX7, 9, rfl, by decide, rfl, aT_in 178 (by decide +kernel) rfl, lays_X7⟩
theorem fl_X7_29 : FL RX7 29 7 7 := ⟨RX7, TX7, 9, rfl, by decide, rfl, aT_in 182 (by decide +kernel) rfl, lays_X7⟩
theorem fl_X7_34 : FL RX7 34 7 0 := ⟨RX7, TX7, 9, rfl, by decide, rfl, aT_in 165 (by decide +kernel) rfl, lays_X7⟩
theorem fp_X7_34 : FP RX7 34 7 0 := ⟨RX7, TX7, 9, tyX7, rfl, by decide, rfl, aT_in 165 (by decide +kernel) rfl, lays_X7, tyX7_ok, nmX7, rfl, tyX7_ok 0 (by decide)⟩
theorem cp_X7_38 : CPL RX7 38 := ⟨aT_in 624 (by decide +kernel) rfl, aT_in 542 (by decide +kernel) rfl, aT_in 541 (by decide +kernel) rfl, aT_in 60 (by decide +kernel) rfl⟩
theorem fl_X7_44 : FL RX7 44 7 6 := ⟨RX7, TX7, 9, rfl, by decide, rfl, aT_in 180 (by decide +kernel) rfl, lays_X7⟩
theorem fp_X7_44 : FP RX7 44 7 6 := ⟨RX7, TX7, 9, tyX7, rfl, by decide, rfl, aT_in 180 (by decide +kernel) rfl, lays_X7, tyX7_ok, nmX7, rfl, tyX7_ok 6 (by decide)⟩
theorem vl_X7_47 : VL RX7 47 3 MX3_copyFrom 1 := ⟨⟨TX3, 8, rfl⟩, Or.inl (aT_in 625 (by decide +kernel) rfl), aT_in 626 (by decide +kernel) rfl, aT_in 627 (by decide +kernel) rfl, aT_in 52 (by decide +kernel) rfl, cw_X3_copyFrom, ⟨by decide +kernel, by decide +kernel, by decide +kernel⟩, by decide⟩
theorem fl_X7_51 : FL RX7 51 7 8 := ⟨RX7, TX7, 9, rfl, by decide, rfl, aT_in 184 (by decide +kernel) rfl, lays_X7⟩
theorem fp_X7_51 : FP RX7 51 7 8 := ⟨RX7, TX7, 9, tyX7, rfl, by decide, rfl, aT_in 184 (by decide +kernel) rfl, lays_X7, tyX7_ok, nmX7, rfl, tyX7_ok 8 (by decide)⟩
theorem vl_X7_54 : VL RX7 54 3 MX3_begin 2 := ⟨⟨TX3, 8, rfl⟩, Or.inl (aT_in 417 (by decide +kernel) rfl), aT_in 418 (by decide +kernel) rfl, aT_in 419 (by decide +kernel) rfl, aT_in 52 (by decide +kernel) rfl, cw_X3_begin, ⟨by decide +kernel, by decide +kernel, by decide +kernel⟩, by decide⟩
theorem sl_X7_58 : SL RX7 58 MX8_bit 1 := ⟨Or.inr ⟨"GivenGoesOn", aN_in 369 (by decide +kernel) rfl⟩, aT_in 370 (by decide +kernel) rfl, aT_in 48 (by decide +kernel) rfl, cw_X8_bit, ⟨by decide +kernel, by decide +kernel, by decide +kernel⟩, by decide⟩
theorem vl_X7_62 : VL RX7 62 3 MX3_lives 0 := ⟨⟨TX3, 8, rfl⟩, Or.inl (aT_in 391 (by decide +kernel) rfl), aT_in 392 (by decide +kernel) rfl, aT_in 393 (by decide +kernel) rfl, aT_in 52 (by decide +kernel) rfl, cw_X3_lives, ⟨by decide +kernel, by decide +kernel, by decide +kernel⟩, by decide⟩
theorem fl_X7_66 : FL RX7 66 3 2 := ⟨RX3, TX3, 8, rfl, by decide, rfl, aT_in 132 (by decide +kernel) rfl, lays_X3⟩
theorem sl_X7_69 : SL RX7 69 MX8_pair 2 := ⟨Or.inr ⟨"GivenGoesOn", aN_in 408 (by decide +kernel) rfl⟩, aT_in 381 (by decide +kernel) rfl, aT_in 48 (by decide +kernel) rfl, cw_X8_pair, ⟨by decide +kernel, by decide +kernel, by decide +kernel⟩, by decide⟩
theorem vl_X7_73 : VL RX7 73 3 MX3_worth 0 := ⟨⟨TX3, 8, rfl⟩, Or.inl (aT_in 469 (by decide +kernel) rfl), aT_in 430 (by decide +kernel) rfl, aT_in 431 (by decide +kernel) rfl, aT_in 52 (by decide +kernel) rfl, cw_X3_worth, ⟨by decide +kernel, by decide +kernel, by decide +kernel⟩, by decide⟩
theorem vl_X7_77 : VL RX7 77 3 MX3_moveTo 2 := ⟨⟨TX3, 8, rfl⟩, Or.inl (aT_in 470 (by decide +kernel) rfl), aT_in 471 (by decide +kernel) rfl, aT_in 472 (by decide +kernel) rfl, aT_in 52 (by decide +kernel) rfl, cw_X3_moveTo, ⟨by decide +kernel, by decide +kernel, by decide +kernel⟩, by decide⟩
theorem fl_X7_80 : FL RX7 80 3 6 := ⟨RX3, TX3, 8, rfl, by decide, rfl, aT_in 143 (by decide +kernel) rfl, lays_X3⟩
theorem fl_X7_83 : FL RX7 83 3 5 := ⟨RX3, TX3, 8, rfl, by decide, rfl, aT_in 140 (by decide +kernel) rfl, lays_X3⟩
theorem fp_X7_83 : FP RX7 83 3 5 := ⟨RX3, TX3, 8, tyX3, rfl, by decide, rfl, aT_in 140 (by decide +kernel) rfl, lays_X3, tyX3_ok, nmX3, rfl, tyX3_ok 5 (by decide)⟩
theorem fl_X7_86 : FL RX7 86 4 0 := ⟨RX4, TX4, 4, rfl, by decide, rfl, aT_in 95 (by decide +kernel) rfl, lays_X4⟩
theorem vl_X7_91 : VL RX7 91 3 MX3_mustGo 1 := ⟨⟨TX3, 8, rfl⟩, Or.inl (aT_in 483 (by decide +kernel) rfl), aT_in 484 (by decide +kernel) rfl, aT_in 485 (by decide +kernel) rfl, aT_in 52 (by decide +kernel) rfl, cw_X3_mustGo, ⟨by decide +kernel, by decide +kernel, by decide +kernel⟩, by decide⟩
theorem fl_X7_95 : FL RX7 95 4 2 := ⟨RX4, TX4, 4, rfl, by decide, rfl, aT_in 101 (by decide +kernel) rfl, lays_X4⟩
theorem fl_X7_99 : FL RX7 99 3 3 := ⟨RX3, TX3, 8, rfl, by decide, rfl, aT_in 135 (by decide +kernel) rfl, lays_X3⟩
theorem fl_X7_102 : FL RX7 102 4 1 := ⟨RX4, TX4, 4, rfl, by decide, rfl, aT_in 98 (by decide +kernel) rfl, lays_X4⟩
theorem vl_X7_105 : VL RX7 105 7 MX7_mayHave 3 := ⟨⟨TX7, 9, rfl⟩, Or.inl (aT_in 488 (by decide +kernel) rfl), aT_in 457 (by decide +kernel) rfl, aT_in 458 (by decide +kernel) rfl, aT_in 51 (by decide +kernel) rfl, cw_X7_mayHave, ⟨by decide +kernel, by decide +kernel, by decide +kernel⟩, by decide⟩
theorem vl_X7_109 : VL RX7 109 7 MX7_chosenBy 2 := ⟨⟨TX7, 9, rfl⟩, Or.inl (aT_in 489 (by decide +kernel) rfl), aT_in 491 (by decide +kernel) rfl, aT_in 4 (by decide +kernel) rfl, aT_in 51 (by decide +kernel) rfl, cw_X7_chosenBy, ⟨by decide +kernel, by decide +kernel, by decide +kernel⟩, by decide⟩
theorem vl_X7_112 : VL RX7 112 2 MX2_oneOf 1 := ⟨⟨TX2, 1, rfl⟩, Or.inl (aT_in 498 (by decide +kernel) rfl), aT_in 499 (by decide +kernel) rfl, aT_in 500 (by decide +kernel) rfl, aT_in 53 (by decide +kernel) rfl, cw_X2_oneOf, ⟨by decide +kernel, by decide +kernel, by decide +kernel⟩, by decide⟩
theorem fl_X7_117 : FL RX7 117 4 3 := ⟨RX4, TX4, 4, rfl, by decide, rfl, aT_in 104 (by decide +kernel) rfl, lays_X4⟩
theorem vl_X7_120 : VL RX7 120 7 MX7_handOn 3 := ⟨⟨TX7, 9, rfl⟩, Or.inl (aT_in 513 (by decide +kernel) rfl), aT_in 466 (by decide +kernel) rfl, aT_in 467 (by decide +kernel) rfl, aT_in 51 (by decide +kernel) rfl, cw_X7_handOn, ⟨by decide +kernel, by decide +kernel, by decide +kernel⟩, by decide⟩
theorem vl_X7_124 : VL RX7 124 7 MX7_markOf 2 := ⟨⟨TX7, 9, rfl⟩, Or.inl (aT_in 493 (by decide +kernel) rfl), aT_in 495 (by decide +kernel) rfl, aT_in 5 (by decide +kernel) rfl, aT_in 51 (by decide +kernel) rfl, cw_X7_markOf, ⟨by decide +kernel, by decide +kernel, by decide +kernel⟩, by decide⟩
theorem vl_X7_127 : VL RX7 127 7 MX7_heldBy 1 := ⟨⟨TX7, 9, rfl⟩, Or.inl (aT_in 497 (by decide +kernel) rfl), aT_in 388 (by decide +kernel) rfl, aT_in 389 (by decide +kernel) rfl, aT_in 51 (by decide +kernel) rfl, cw_X7_heldBy, ⟨by decide +kernel, by decide +kernel, by decide +kernel⟩, by decide⟩
theorem vl_X7_130 : VL RX7 130 7 MX7_knownByAny 1 := ⟨⟨TX7, 9, rfl⟩, Or.inl (aT_in 606 (by decide +kernel) rfl), aT_in 608 (by decide +kernel) rfl, aT_in 10 (by decide +kernel) rfl, aT_in 51 (by decide +kernel) rfl, cw_X7_knownByAny, ⟨by decide +kernel, by decide +kernel, by decide +kernel⟩, by decide⟩
theorem vl_X7_133 : VL RX7 133 7 MX7_handsBetween 2 := ⟨⟨TX7, 9, rfl⟩, Or.inl (aT_in 614 (by decide +kernel) rfl), aT_in 603 (by decide +kernel) rfl, aT_in 604 (by decide +kernel) rfl, aT_in 51 (by decide +kernel) rfl, cw_X7_handsBetween, ⟨by decide +kernel, by decide +kernel, by decide +kernel⟩, by decide⟩
theorem vl_X7_136 : VL RX7 136 7 MX7_knows 2 := ⟨⟨TX7, 9, rfl⟩, Or.inl (aT_in 615 (by decide +kernel) rfl), aT_in 366 (by decide +kernel) rfl, aT_in 367 (by decide +kernel) rfl, aT_in 51 (by decide +kernel) rfl, cw_X7_knows, ⟨by decide +kernel, by decide +kernel, by decide +kernel⟩, by decide⟩
theorem vl_L_15 : VL "GivenGoesOnLaw" 15 8 MX8_letters 1 := ⟨⟨TX8, 11, rfl⟩, Or.inl (aT_in 295 (by decide +kernel) rfl), aT_in 296 (by decide +kernel) rfl, aT_in 297 (by decide +kernel) rfl, aT_in 48 (by decide +kernel) rfl, cw_X8_letters, ⟨by decide +kernel, by decide +kernel, by decide +kernel⟩, by decide⟩
theorem vl_L_19 : VL "GivenGoesOnLaw" 19 9 MX9_letters 1 := ⟨⟨TX9, 46, rfl⟩, Or.inl (aT_in 869 (by decide +kernel) rfl), aT_in 870 (by decide +kernel) rfl, aT_in 871 (by decide +kernel) rfl, aT_in 57 (by decide +kernel) rfl, cw_X9_letters, ⟨by decide +kernel, by decide +kernel, by decide +kernel⟩, by decide⟩
theorem vl_L_20 : VL "GivenGoesOnLaw" 20 8 MX8_blank 0 := ⟨⟨TX8, 11, rfl⟩, Or.inl (aT_in 310 (by decide +kernel) rfl), aT_in 311 (by decide +kernel) rfl, aT_in 312 (by decide +kernel) rfl, aT_in 48 (by decide +kernel) rfl, cw_X8_blank, ⟨by decide +kernel, by decide +kernel, by decide +kernel⟩, by decide⟩
theorem vl_L_24 : VL "GivenGoesOnLaw" 24 9 MX9_blank 0 := ⟨⟨TX9, 46, rfl⟩, Or.inl (aT_in 874 (by decide +kernel) rfl), aT_in 875 (by decide +kernel) rfl, aT_in 876 (by decide +kernel) rfl, aT_in 57 (by decide +kernel) rfl, cw_X9_blank, ⟨by decide +kernel, by decide +kernel, by decide +kernel⟩, by decide⟩
theorem vl_L_25 : VL "GivenGoesOnLaw" 25 8 MX8_fault 0 := ⟨⟨TX8, 11, rfl⟩, Or.inl (aT_in 314 (by decide +kernel) rfl), aT_in 315 (by decide +kernel) rfl, aT_in 316 (by decide +kernel) rfl, aT_in 48 (by decide +kernel) rfl, cw_X8_fault, ⟨by decide +kernel, by decide +kernel, by decide +kernel⟩, by decide⟩
theorem vl_L_28 : VL "GivenGoesOnLaw" 28 9 MX9_fault 0 := ⟨⟨TX9, 46, rfl⟩, Or.inl (aT_in 878 (by decide +kernel) rfl), aT_in 879 (by decide +kernel) rfl, aT_in 880 (by decide +kernel) rfl, aT_in 57 (by decide +kernel) rfl, cw_X9_fault, ⟨by decide +kernel, by decide +kernel, by decide +kernel⟩, by decide⟩
theorem vl_L_29 : VL "GivenGoesOnLaw" 29 8 MX8_law 0 := ⟨⟨TX8, 11, rfl⟩, Or.inl (aT_in 328 (by decide +kernel) rfl), aT_in 329 (by decide +kernel) rfl, aT_in 330 (by decide +kernel) rfl, aT_in 48 (by decide +kernel) rfl, cw_X8_law, ⟨by decide +kernel, by decide +kernel, by decide +kernel⟩, by decide⟩
theorem vl_L_32 : VL "GivenGoesOnLaw" 32 9 MX9_law 0 := ⟨⟨TX9, 46, rfl⟩, Or.inl (aT_in 896 (by decide +kernel) rfl), aT_in 897 (by decide +kernel) rfl, aT_in 898 (by decide +kernel) rfl, aT_in 57 (by decide +kernel) rfl, cw_X9_law, ⟨by decide +kernel, by decide +kernel, by decide +kernel⟩, by decide⟩
theorem vl_L_33 : VL "GivenGoesOnLaw" 33 8 MX8_lawTold 1 := ⟨⟨TX8, 11, rfl⟩, Or.inl (aT_in 340 (by decide +kernel) rfl), aT_in 341 (by decide +kernel) rfl, aT_in 342 (by decide +kernel) rfl, aT_in 48 (by decide +kernel) rfl, cw_X8_lawTold, ⟨by decide +kernel, by decide +kernel, by decide +kernel⟩, by decide⟩
theorem vl_L_37 : VL "GivenGoesOnLaw" 37 9 MX9_lawTold 1 := ⟨⟨TX9, 46, rfl⟩, Or.inl (aT_in 900 (by decide +kernel) rfl), aT_in 901 (by decide +kernel) rfl, aT_in 902 (by decide +kernel) rfl, aT_in 57 (by decide +kernel) rfl, cw_X9_lawTold, ⟨by decide +kernel, by decide +kernel, by decide +kernel⟩, by decide⟩
theorem vl_L_38 : VL "GivenGoesOnLaw" 38 8 MX8_person 1 := ⟨⟨TX8, 11, rfl⟩, Or.inl (aT_in 345 (by decide +kernel) rfl), aT_in 346 (by decide +kernel) rfl, aT_in 347 (by decide +kernel) rfl, aT_in 48 (by decide +kernel) rfl, cw_X8_person, ⟨by decide +kernel, by decide +kernel, by decide +kernel⟩, by decide⟩
theorem vl_L_41 : VL "GivenGoesOnLaw" 41 9 MX9_person 1 := ⟨⟨TX9, 46, rfl⟩, Or.inl (aT_in 908 (by decide +kernel) rfl), aT_in 909 (by decide +kernel) rfl, aT_in 910 (by decide +kernel) rfl, aT_in 57 (by decide +kernel) rfl, cw_X9_person, ⟨by decide +kernel, by decide +kernel, by decide +kernel⟩, by decide⟩
theorem vl_L_42 : VL "GivenGoesOnLaw" 42 8 MX8_know 3 := ⟨⟨TX8, 11, rfl⟩, Or.inl (aT_in 353 (by decide +kernel) rfl), aT_in 354 (by decide +kernel) rfl, aT_in 355 (by decide +kernel) rfl, aT_in 48 (by decide +kernel) rfl, cw_X8_know, ⟨by decide +kernel, by decide +kernel, by decide +kernel⟩, by decide⟩
theorem vl_L_46 : VL "GivenGoesOnLaw" 46 9 MX9_know 3 := ⟨⟨TX9, 46, rfl⟩, Or.inl (aT_in 913 (by decide +kernel) rfl), aT_in 914 (by decide +kernel) rfl, aT_in 915 (by decide +kernel) rfl, aT_in 57 (by decide +kernel) rfl, cw_X9_know, ⟨by decide +kernel, by decide +kernel, by decide +kernel⟩, by decide⟩
theorem vl_L_47 : VL "GivenGoesOnLaw" 47 8 MX8_like 3 := ⟨⟨TX8, 11, rfl⟩, Or.inl (aT_in 376 (by decide +kernel) rfl), aT_in 377 (by decide +kernel) rfl, aT_in 378 (by decide +kernel) rfl, aT_in 48 (by decide +kernel) rfl, cw_X8_like, ⟨by decide +kernel, by decide +kernel, by decide +kernel⟩, by decide⟩
theorem vl_L_51 : VL "GivenGoesOnLaw" 51 9 MX9_like 3 := ⟨⟨TX9, 46, rfl⟩, Or.inl (aT_in 925 (by decide +kernel) rfl), aT_in 926 (by decide +kernel) rfl, aT_in 927 (by decide +kernel) rfl, aT_in 57 (by decide +kernel) rfl, cw_X9_like, ⟨by decide +kernel, by decide +kernel, by decide +kernel⟩, by decide⟩
theorem vl_L_52 : VL "GivenGoesOnLaw" 52 8 MX8_about 2 := ⟨⟨TX8, 11, rfl⟩, Or.inl (aT_in 383 (by decide +kernel) rfl), aT_in 384 (by decide +kernel) rfl, aT_in 385 (by decide +kernel) rfl, aT_in 48 (by decide +kernel) rfl, cw_X8_about, ⟨by decide +kernel, by decide +kernel, by decide +kernel⟩, by decide⟩
theorem vl_L_56 : VL "GivenGoesOnLaw" 56 9 MX9_about 2 := ⟨⟨TX9, 46, rfl⟩, Or.inl (aT_in 930 (by decide +kernel) rfl), aT_in 931 (by decide +kernel) rfl, aT_in 932 (by decide +kernel) rfl, aT_in 57 (by decide +kernel) rfl, cw_X9_about, ⟨by decide +kernel, by decide +kernel, by decide +kernel⟩, by decide⟩
theorem vl_L_57 : VL "GivenGoesOnLaw" 57 8 MX8_owes 2 := ⟨⟨TX8, 11, rfl⟩, Or.inl (aT_in 395 (by decide +kernel) rfl), aT_in 396 (by decide +kernel) rfl, aT_in 397 (by decide +kernel) rfl, aT_in 48 (by decide +kernel) rfl, cw_X8_owes, ⟨by decide +kernel, by decide +kernel, by decide +kernel⟩, by decide⟩
theorem vl_L_60 : VL "GivenGoesOnLaw" 60 9 MX9_owes 2 := ⟨⟨TX9, 46, rfl⟩, Or.inl (aT_in 946 (by decide +kernel) rfl), aT_in 947 (by decide +kernel) rfl, aT_in 948 (by decide +kernel) rfl, aT_in 57 (by decide +kernel) rfl, cw_X9_owes, ⟨by decide +kernel, by decide +kernel, by decide +kernel⟩, by decide⟩
theorem vl_L_61 : VL "GivenGoesOnLaw" 61 8 MX8_rest 1 := ⟨⟨TX8, 11, rfl⟩, Or.inl (aT_in 399 (by decide +kernel) rfl), aT_in 400 (by decide +kernel) rfl, aT_in 401 (by decide +kernel) rfl, aT_in 48 (by decide +kernel) rfl, cw_X8_rest, ⟨by decide +kernel, by decide +kernel, by decide +kernel⟩, by decide⟩
theorem vl_L_64 : VL "GivenGoesOnLaw" 64 9 MX9_rest 1 := ⟨⟨TX9, 46, rfl⟩, Or.inl (aT_in 950 (by decide +kernel) rfl), aT_in 951 (by decide +kernel) rfl, aT_in 952 (by decide +kernel) rfl, aT_in 57 (by decide +kernel) rfl, cw_X9_rest, ⟨by decide +kernel, by decide +kernel, by decide +kernel⟩, by decide⟩
theorem vl_L_65 : VL "GivenGoesOnLaw" 65 8 MX8_gift 2 := ⟨⟨TX8, 11, rfl⟩, Or.inl (aT_in 409 (by decide +kernel) rfl), aT_in 410 (by decide +kernel) rfl, aT_in 411 (by decide +kernel) rfl, aT_in 48 (by decide +kernel) rfl, cw_X8_gift, ⟨by decide +kernel, by decide +kernel, by decide +kernel⟩, by decide⟩
theorem vl_L_68 : VL "GivenGoesOnLaw" 68 9 MX9_gift 2 := ⟨⟨TX9, 46, rfl⟩, Or.inl (aT_in 959 (by decide +kernel) rfl), aT_in 960 (by decide +kernel) rfl, aT_in 961 (by decide +kernel) rfl, aT_in 57 (by decide +kernel) rfl, cw_X9_gift, ⟨by decide +kernel, by decide +kernel, by decide +kernel⟩, by decide⟩
theorem vl_L_69 : VL "GivenGoesOnLaw" 69 8 MX8_told 2 := ⟨⟨TX8, 11, rfl⟩, Or.inl (aT_in 421 (by decide +kernel) rfl), aT_in 422 (by decide +kernel) rfl, aT_in 423 (by decide +kernel) rfl, aT_in 48 (by decide +kernel) rfl, cw_X8_told, ⟨by decide +kernel, by decide +kernel, by decide +kernel⟩, by decide⟩
theorem vl_L_72 : VL "GivenGoesOnLaw" 72 9 MX9_told 2 := ⟨⟨TX9, 46, rfl⟩, Or.inl (aT_in 964 (by decide +kernel) rfl), aT_in 965 (by decide +kernel) rfl, aT_in 966 (by decide +kernel) rfl, aT_in 57 (by decide +kernel) rfl, cw_X9_told, ⟨by decide +kernel, by decide +kernel, by decide +kernel⟩, by decide⟩
theorem vl_L_73 : VL "GivenGoesOnLaw" 73 8 MX8_as 2 := ⟨⟨TX8, 11, rfl⟩, Or.inl (aT_in 439 (by decide +kernel) rfl), aT_in 440 (by decide +kernel) rfl, aT_in 441 (by decide +kernel) rfl, aT_in 48 (by decide +kernel) rfl, cw_X8_as, ⟨by decide +kernel, by decide +kernel, by decide +kernel⟩, by decide⟩
theorem vl_L_76 : VL "GivenGoesOnLaw" 76 9 MX9_as 2 := ⟨⟨TX9, 46, rfl⟩, Or.inl (aT_in 981 (by decide +kernel) rfl), aT_in 982 (by decide +kernel) rfl, aT_in 983 (by decide +kernel) rfl, aT_in 57 (by decide +kernel) rfl, cw_X9_as, ⟨by decide +kernel, by decide +kernel, by decide +kernel⟩, by decide⟩
theorem vl_L_77 : VL "GivenGoesOnLaw" 77 8 MX8_may 1 := ⟨⟨TX8, 11, rfl⟩, Or.inl (aT_in 447 (by decide +kernel) rfl), aT_in 448 (by decide +kernel) rfl, aT_in 449 (by decide +kernel) rfl, aT_in 48 (by decide +kernel) rfl, cw_X8_may, ⟨by decide +kernel, by decide +kernel, by decide +kernel⟩, by decide⟩
theorem vl_L_80 : VL "GivenGoesOnLaw" 80 9 MX9_may 1 := ⟨⟨TX9, 46, rfl⟩, Or.inl (aT_in 985 (by decide +kernel) rfl), aT_in 986 (by decide +kernel) rfl, aT_in 987 (by decide +kernel) rfl, aT_in 57 (by decide +kernel) rfl, cw_X9_may, ⟨by decide +kernel, by decide +kernel, by decide +kernel⟩, by decide⟩
theorem vl_L_81 : VL "GivenGoesOnLaw" 81 8 MX8_give 2 := ⟨⟨TX8, 11, rfl⟩, Or.inl (aT_in 460 (by decide +kernel) rfl), aT_in 461 (by decide +kernel) rfl, aT_in 462 (by decide +kernel) rfl, aT_in 48 (by decide +kernel) rfl, cw_X8_give, ⟨by decide +kernel, by decide +kernel, by decide +kernel⟩, by decide⟩
theorem vl_L_84 : VL "GivenGoesOnLaw" 84 9 MX9_give 2 := ⟨⟨TX9, 46, rfl⟩, Or.inl (aT_in 997 (by decide +kernel) rfl), aT_in 998 (by decide +kernel) rfl, aT_in 999 (by decide +kernel) rfl, aT_in 57 (by decide +kernel) rfl, cw_X9_give, ⟨by decide +kernel, by decide +kernel, by decide +kernel⟩, by decide⟩
theorem vl_L_85 : VL "GivenGoesOnLaw" 85 8 MX8_years 1 := ⟨⟨TX8, 11, rfl⟩, Or.inl (aT_in 475 (by decide +kernel) rfl), aT_in 476 (by decide +kernel) rfl, aT_in 477 (by decide +kernel) rfl, aT_in 48 (by decide +kernel) rfl, cw_X8_years, ⟨by decide +kernel, by decide +kernel, by decide +kernel⟩, by decide⟩
theorem vl_L_88 : VL "GivenGoesOnLaw" 88 9 MX9_years 1 := ⟨⟨TX9, 46, rfl⟩, Or.inl (aT_in 1005 (by decide +kernel) rfl), aT_in 1006 (by decide +kernel) rfl, aT_in 1007 (by decide +kernel) rfl, aT_in 57 (by decide +kernel) rfl, cw_X9_years, ⟨by decide +kernel, by decide +kernel, by decide +kernel⟩, by decide⟩
theorem vl_L_89 : VL "GivenGoesOnLaw" 89 8 MX8_ways 2 := ⟨⟨TX8, 11, rfl⟩, Or.inl (aT_in 514 (by decide +kernel) rfl), aT_in 515 (by decide +kernel) rfl, aT_in 516 (by decide +kernel) rfl, aT_in 48 (by decide +kernel) rfl, cw_X8_ways, ⟨by decide +kernel, by decide +kernel, by decide +kernel⟩, by decide⟩
theorem vl_L_92 : VL "GivenGoesOnLaw" 92 9 MX9_ways 2 := ⟨⟨TX9, 46, rfl⟩, Or.inl (aT_in 1033 (by decide +kernel) rfl), aT_in 1034 (by decide +kernel) rfl, aT_in 1035 (by decide +kernel) rfl, aT_in 57 (by decide +kernel) rfl, cw_X9_ways, ⟨by decide +kernel, by decide +kernel, by decide +kernel⟩, by decide⟩
theorem vl_L_93 : VL "GivenGoesOnLaw" 93 8 MX8_soonest 1 := ⟨⟨TX8, 11, rfl⟩, Or.inl (aT_in 543 (by decide +kernel) rfl), aT_in 544 (by decide +kernel) rfl, aT_in 545 (by decide +kernel) rfl, aT_in 48 (by decide +kernel) rfl, cw_X8_soonest, ⟨by decide +kernel, by decide +kernel, by decide +kernel⟩, by decide⟩
theorem vl_L_96 : VL "GivenGoesOnLaw" 96 9 MX9_soonest 1 := ⟨⟨TX9, 46, rfl⟩, Or.inl (aT_in 1049 (by decide +kernel) rfl), aT_in 1050 (by decide +kernel) rfl, aT_in 1051 (by decide +kernel) rfl, aT_in 57 (by decide +kernel) rfl, cw_X9_soonest, ⟨by decide +kernel, by decide +kernel, by decide +kernel⟩, by decide⟩
theorem vl_L_97 : VL "GivenGoesOnLaw" 97 8 MX8_likely 3 := ⟨⟨TX8, 11, rfl⟩, Or.inl (aT_in 547 (by decide +kernel) rfl), aT_in 548 (by decide +kernel) rfl, aT_in 549 (by decide +kernel) rfl, aT_in 48 (by decide +kernel) rfl, cw_X8_likely, ⟨by decide +kernel, by decide +kernel, by decide +kernel⟩, by decide⟩
theorem vl_L_101 : VL "GivenGoesOnLaw" 101 9 MX9_likely 3 := ⟨⟨TX9, 46, rfl⟩, Or.inl (aT_in 1057 (by decide +kernel) rfl), aT_in 1058 (by decide +kernel) rfl, aT_in 1059 (by decide +kernel) rfl, aT_in 57 (by decide +kernel) rfl, cw_X9_likely, ⟨by decide +kernel, by decide +kernel, by decide +kernel⟩, by decide⟩
theorem vl_L_102 : VL "GivenGoesOnLaw" 102 8 MX8_traps 0 := ⟨⟨TX8, 11, rfl⟩, Or.inl (aT_in 559 (by decide +kernel) rfl), aT_in 560 (by decide +kernel) rfl, aT_in 561 (by decide +kernel) rfl, aT_in 48 (by decide +kernel) rfl, cw_X8_traps, ⟨by decide +kernel, by decide +kernel, by decide +kernel⟩, by decide⟩
theorem vl_L_105 : VL "GivenGoesOnLaw" 105 9 MX9_traps 0 := ⟨⟨TX9, 46, rfl⟩, Or.inl (aT_in 1069 (by decide +kernel) rfl), aT_in 1070 (by decide +kernel) rfl, aT_in 1071 (by decide +kernel) rfl, aT_in 57 (by decide +kernel) rfl, cw_X9_traps, ⟨by decide +kernel, by decide +kernel, by decide +kernel⟩, by decide⟩
theorem vl_L_106 : VL "GivenGoesOnLaw" 106 8 MX8_round 1 := ⟨⟨TX8, 11, rfl⟩, Or.inl (aT_in 564 (by decide +kernel) rfl), aT_in 565 (by decide +kernel) rfl, aT_in 566 (by decide +kernel) rfl, aT_in 48 (by decide +kernel) rfl, cw_X8_round, ⟨by decide +kernel, by decide +kernel, by decide +kernel⟩, by decide⟩
theorem vl_L_109 : VL "GivenGoesOnLaw" 109 9 MX9_round 1 := ⟨⟨TX9, 46, rfl⟩, Or.inl (aT_in 1077 (by decide +kernel) rfl), aT_in 1078 (by decide +kernel) rfl, aT_in 1079 (by decide +kernel) rfl, aT_in 57 (by decide +kernel) rfl, cw_X9_round, ⟨by decide +kernel, by decide +kernel, by decide +kernel⟩, by decide⟩
theorem vl_L_110 : VL "GivenGoesOnLaw" 110 8 MX8_stranger 3 := ⟨⟨TX8, 11, rfl⟩, Or.inl (aT_in 598 (by decide +kernel) rfl), aT_in 599 (by decide +kernel) rfl, aT_in 600 (by decide +kernel) rfl, aT_in 48 (by decide +kernel) rfl, cw_X8_stranger, ⟨by decide +kernel, by decide +kernel, by decide +kernel⟩, by decide⟩
theorem vl_L_113 : VL "GivenGoesOnLaw" 113 9 MX9_stranger 3 := ⟨⟨TX9, 46, rfl⟩, Or.inl (aT_in 1091 (by decide +kernel) rfl), aT_in 1092 (by decide +kernel) rfl, aT_in 1093 (by decide +kernel) rfl, aT_in 57 (by decide +kernel) rfl, cw_X9_stranger, ⟨by decide +kernel, by decide +kernel, by decide +kernel⟩, by decide⟩
theorem vl_L_114 : VL "GivenGoesOnLaw" 114 8 MX8_drawn 3 := ⟨⟨TX8, 11, rfl⟩, Or.inl (aT_in 616 (by decide +kernel) rfl), aT_in 617 (by decide +kernel) rfl, aT_in 618 (by decide +kernel) rfl, aT_in 48 (by decide +kernel) rfl, cw_X8_drawn, ⟨by decide +kernel, by decide +kernel, by decide +kernel⟩, by decide⟩
theorem vl_L_117 : VL "GivenGoesOnLaw" 117 9 MX9_drawn 3 := ⟨⟨TX9, 46, rfl⟩, Or.inl (aT_in 1103 (by decide +kernel) rfl), aT_in 1104 (by decide +kernel) rfl, aT_in 1105 (by decide +kernel) rfl, aT_in 57 (by decide +kernel) rfl, cw_X9_drawn, ⟨by decide +kernel, by decide +kernel, by decide +kernel⟩, by decide⟩
theorem vl_L_118 : VL "GivenGoesOnLaw" 118 8 MX8_open 2 := ⟨⟨TX8, 11, rfl⟩, Or.inl (aT_in 637 (by decide +kernel) rfl), aT_in 638 (by decide +kernel) rfl, aT_in 639 (by decide +kernel) rfl, aT_in 48 (by decide +kernel) rfl, cw_X8_open, ⟨by decide +kernel, by decide +kernel, by decide +kernel⟩, by decide⟩
theorem vl_L_121 : VL "GivenGoesOnLaw" 121 9 MX9_open 2 := ⟨⟨TX9, 46, rfl⟩, Or.inl (aT_in 1114 (by decide +kernel) rfl), aT_in 1115 (by decide +kernel) rfl, aT_in 1116 (by decide +kernel) rfl, aT_in 57 (by decide +kernel) rfl, cw_X9_open, ⟨by decide +kernel, by decide +kernel, by decide +kernel⟩, by decide⟩
theorem vl_L_122 : VL "GivenGoesOnLaw" 122 8 MX8_write 2 := ⟨⟨TX8, 11, rfl⟩, Or.inl (aT_in 645 (by decide +kernel) rfl), aT_in 646 (by decide +kernel) rfl, aT_in 647 (by decide +kernel) rfl, aT_in 48 (by decide +kernel) rfl, cw_X8_write, ⟨by decide +kernel, by decide +kernel, by decide +kernel⟩, by decide⟩
theorem vl_L_125 : VL "GivenGoesOnLaw" 125 9 MX9_write 2 := ⟨⟨TX9, 46, rfl⟩, Or.inl (aT_in 1118 (by decide +kernel) rfl), aT_in 1119 (by decide +kernel) rfl, aT_in 1120 (by decide +kernel) rfl, aT_in 57 (by decide +kernel) rfl, cw_X9_write, ⟨by decide +kernel, by decide +kernel, by decide +kernel⟩, by decide⟩
theorem vl_L_126 : VL "GivenGoesOnLaw" 126 8 MX8_filled 0 := ⟨⟨TX8, 11, rfl⟩, Or.inl (aT_in 658 (by decide +kernel) rfl), aT_in 659 (by decide +kernel) rfl, aT_in 660 (by decide +kernel) rfl, aT_in 48 (by decide +kernel) rfl, cw_X8_filled, ⟨by decide +kernel, by decide +kernel, by decide +kernel⟩, by decide⟩
theorem vl_L_129 : VL "GivenGoesOnLaw" 129 9 MX9_filled 0 := ⟨⟨TX9, 46, rfl⟩, Or.inl (aT_in 1126 (by decide +kernel) rfl), aT_in 1127 (by decide +kernel) rfl, aT_in 1128 (by decide +kernel) rfl, aT_in 57 (by decide +kernel) rfl, cw_X9_filled, ⟨by decide +kernel, by decide +kernel, by decide +kernel⟩, by decide⟩
theorem vl_L_130 : VL "GivenGoesOnLaw" 130 8 MX8_sure 1 := ⟨⟨TX8, 11, rfl⟩, Or.inl (aT_in 676 (by decide +kernel) rfl), aT_in 677 (by decide +kernel) rfl, aT_in 678 (by decide +kernel) rfl, aT_in 48 (by decide +kernel) rfl, cw_X8_sure, ⟨by decide +kernel, by decide +kernel, by decide +kernel⟩, by decide⟩
theorem vl_L_133 : VL "GivenGoesOnLaw" 133 9 MX9_sure 1 := ⟨⟨TX9, 46, rfl⟩, Or.inl (aT_in 1134 (by decide +kernel) rfl), aT_in 1135 (by decide +kernel) rfl, aT_in 1136 (by decide +kernel) rfl, aT_in 57 (by decide +kernel) rfl, cw_X9_sure, ⟨by decide +kernel, by decide +kernel, by decide +kernel⟩, by decide⟩
theorem vl_L_134 : VL "GivenGoesOnLaw" 134 8 MX8_image 0 := ⟨⟨TX8, 11, rfl⟩, Or.inl (aT_in 685 (by decide +kernel) rfl), aT_in 686 (by decide +kernel) rfl, aT_in 687 (by decide +kernel) rfl, aT_in 48 (by decide +kernel) rfl, cw_X8_image, ⟨by decide +kernel, by decide +kernel, by decide +kernel⟩, by decide⟩
theorem vl_L_137 : VL "GivenGoesOnLaw" 137 9 MX9_image 0 := ⟨⟨TX9, 46, rfl⟩, Or.inl (aT_in 1138 (by decide +kernel) rfl), aT_in 1139 (by decide +kernel) rfl, aT_in 1140 (by decide +kernel) rfl, aT_in 57 (by decide +kernel) rfl, cw_X9_image, ⟨by decide +kernel, by decide +kernel, by decide +kernel⟩, by decide⟩
theorem vl_L_138 : VL "GivenGoesOnLaw" 138 8 MX8_restore 0 := ⟨⟨TX8, 11, rfl⟩, Or.inl (aT_in 689 (by decide +kernel) rfl), aT_in 690 (by decide +kernel) rfl, aT_in 691 (by decide +kernel) rfl, aT_in 48 (by decide +kernel) rfl, cw_X8_restore, ⟨by decide +kernel, by decide +kernel, by decide +kernel⟩, by decide⟩
theorem vl_L_141 : VL "GivenGoesOnLaw" 141 9 MX9_restore 0 := ⟨⟨TX9, 46, rfl⟩, Or.inl (aT_in 1142 (by decide +kernel) rfl), aT_in 1143 (by decide +kernel) rfl, aT_in 1144 (by decide +kernel) rfl, aT_in 57 (by decide +kernel) rfl, cw_X9_restore, ⟨by decide +kernel, by decide +kernel, by decide +kernel⟩, by decide⟩
theorem vl_L_142 : VL "GivenGoesOnLaw" 142 8 MX8_count 1 := ⟨⟨TX8, 11, rfl⟩, Or.inl (aT_in 693 (by decide +kernel) rfl), aT_in 694 (by decide +kernel) rfl, aT_in 695 (by decide +kernel) rfl, aT_in 48 (by decide +kernel) rfl, cw_X8_count, ⟨by decide +kernel, by decide +kernel, by decide +kernel⟩, by decide⟩
theorem vl_L_145 : VL "GivenGoesOnLaw" 145 9 MX9_count 1 := ⟨⟨TX9, 46, rfl⟩, Or.inl (aT_in 1146 (by decide +kernel) rfl), aT_in 1147 (by decide +kernel) rfl, aT_in 1148 (by decide +kernel) rfl, aT_in 57 (by decide +kernel) rfl, cw_X9_count, ⟨by decide +kernel, by decide +kernel, by decide +kernel⟩, by decide⟩
theorem vl_L_146 : VL "GivenGoesOnLaw" 146 8 MX8_digest 0 := ⟨⟨TX8, 11, rfl⟩, Or.inl (aT_in 697 (by decide +kernel) rfl), aT_in 698 (by decide +kernel) rfl, aT_in 699 (by decide +kernel) rfl, aT_in 48 (by decide +kernel) rfl, cw_X8_digest, ⟨by decide +kernel, by decide +kernel, by decide +kernel⟩, by decide⟩
theorem vl_L_150 : VL "GivenGoesOnLaw" 150 9 MX9_digest 0 := ⟨⟨TX9, 46, rfl⟩, Or.inl (aT_in 1154 (by decide +kernel) rfl), aT_in 1155 (by decide +kernel) rfl, aT_in 1156 (by decide +kernel) rfl, aT_in 57 (by decide +kernel) rfl, cw_X9_digest, ⟨by decide +kernel, by decide +kernel, by decide +kernel⟩, by decide⟩
theorem kc_J6_265 : Cond.constant RJ6 265 (1431655765) ∈ aT := aT_in 505 (by decide +kernel) rfl
theorem kc_J6_266 : Cond.constant RJ6 266 (858993459) ∈ aT := aT_in 506 (by decide +kernel) rfl
theorem kc_J6_267 : Cond.constant RJ6 267 (252645135) ∈ aT := aT_in 507 (by decide +kernel) rfl
end
section
/-! what every method does, as a function over the state: written out of the bytecode by a program (wip/whole/gen/dec.py) -/
def bnd {α β : Type} (a : α) (f : α → β) : β := f a
def grd {α : Type} (b : Bool) (x : Option α) : Option α := if b = true then x else none
theorem bnd_elim {α β : Type} {a : α} {f : α → β} {z : β} (h : bnd a f = z) : ∃ x, x = a ∧ f x = z := ⟨a, rfl, h⟩
theorem grd_elim {α : Type} {b : Bool} {x : Option α} {z : α} (h : grd b x = some z) : b = true ∧ x = some z := by
  unfold grd at h
  by_cases hb : b = true
  · rw [if_pos hb] at h; exact ⟨hb, h⟩
  · rw [if_neg hb] at h; cases h
theorem obind {α β : Type} {x : Option α} {f : α → Option β} {z : β} (h : Option.bind x f = some z) : ∃ a, x = some a ∧ f a = some z := Option.bind_eq_some_iff.mp h
theorem ite01 {c : Prop} [Decidable c] {a b : Int32} (ha : a = 0 ∨ a = 1) (hb : b = 0 ∨ b = 1) : (if c then a else b) = 0 ∨ (if c then a else b) = 1 := by
  by_cases h : c
  · rw [if_pos h]; exact ha
  · rw [if_neg h]; exact hb
/-- more turns than any loop takes -/
def fu : Nat := 5000

noncomputable def fX5_byteOf (p0 : Int64) (p2 : Int32) : Int32 := ((ushrL p0 ((8 : Int32) * p2)) &&& (255 : Int64)).toInt32
noncomputable def fX5_lettersIn_L7 (c0 : Int64) (σ : St) : Nat → Int32 → Int32 → Int32 → Option (Sum (Int32) (Int32))
  | 0, _, _, _ => none
  | n + 1, v2, v3, v4 => (if (8 : Int32) ≤ v4 then some (.inr v2) else (if (126 : Int32) < (fX5_byteOf c0 v4) then some (.inl (-1 : Int32)) else (if v3 = 0 then (if (fX5_byteOf c0 v4) = 0 then fX5_lettersIn_L7 c0 σ n v2 (1 : Int32) (v4 + (1 : Int32)) else fX5_lettersIn_L7 c0 σ n (v2 + (1 : Int32)) v3 (v4 + (1 : Int32))) else (if (fX5_byteOf c0 v4) = 0 then (if (fX5_byteOf c0 v4) = 0 then fX5_lettersIn_L7 c0 σ n v2 (1 : Int32) (v4 + (1 : Int32)) else fX5_lettersIn_L7 c0 σ n (v2 + (1 : Int32)) v3 (v4 + (1 : Int32))) else some (.inl (-1 : Int32))))))
noncomputable def fX5_lettersIn (p0 : Int64) (σ : St) : Option (Int32) := (Option.bind (fX5_lettersIn_L7 p0 σ fu (0 : Int32) (0 : Int32) (0 : Int32)) fun s8 => Sum.elim (fun z10 => some z10) (fun q7 => some q7) s8)
noncomputable def fX5_append_L3 (c1 : Int64) (c3 : Int32) : Nat → Int32 → St → Option (St)
  | 0, _, _ => none
  | n + 1, v4, σ => (if c3 ≤ v4 then some σ else (if (16 : Int32) ≤ (σ.1 1 1) then some σ else (grd (inb (σ.1 1 1) 16) (bnd (setI σ 2 (σ.1 1 1).toNatClampNeg (fX5_byteOf c1 v4)) fun σ4 => (bnd (setI σ4 1 1 ((σ4.1 1 1) + (1 : Int32))) fun σ5 => fX5_append_L3 c1 c3 n (v4 + (1 : Int32)) σ5)))))
noncomputable def fX5_append (p1 : Int64) (p3 : Int32) (σ : St) : Option (St) := (Option.bind (fX5_append_L3 p1 p3 fu (0 : Int32) σ) fun q6 => some q6)
noncomputable def fX8_letters (p1 : Int64) (σ : St) : Option (Int32 × St) := (Option.bind (fX5_lettersIn p1 σ) fun q1 => (if q1 = (-1 : Int32) then some ((-102 : Int32), σ) else (if ((σ.1 1 1) + q1) ≤ (16 : Int32) then (Option.bind (fX5_append p1 q1 σ) fun q4 => some ((q4.1 1 1), q4)) else some ((-104 : Int32), σ))))
noncomputable def fX8_blank (σ : St) : Option (Int32 × St) := (bnd (setI σ 1 1 (0 : Int32)) fun σ1 => some ((σ.1 1 1), σ1))
noncomputable def fX8_within (p0 : Int32) (p1 : Int32) (p2 : Int32) : Int32 := (if p0 < p1 then (0 : Int32) else (if p2 < p0 then (0 : Int32) else (1 : Int32)))
noncomputable def fX5_behind (p0 : Int32) (p1 : Int32) : Int32 := (if p0 = (1 : Int32) then (if (fX8_within p1 (49 : Int32) (51 : Int32)) = 0 then (-1 : Int32) else (2 : Int32)) else (if p0 = (5 : Int32) then (if (fX8_within p1 (49 : Int32) (57 : Int32)) = 0 then (-1 : Int32) else (6 : Int32)) else (if p1 = (107 : Int32) then (if p0 = 0 then (1 : Int32) else (if p1 = (98 : Int32) then (if (3 : Int32) ≤ p0 then (if p1 = (111 : Int32) then (if (4 : Int32) ≤ p0 then (if p1 = (119 : Int32) then (if (5 : Int32) ≤ p0 then (-1 : Int32) else (5 : Int32)) else (-1 : Int32)) else (4 : Int32)) else (if p1 = (119 : Int32) then (if (5 : Int32) ≤ p0 then (-1 : Int32) else (5 : Int32)) else (-1 : Int32))) else (3 : Int32)) else (if p1 = (111 : Int32) then (if (4 : Int32) ≤ p0 then (if p1 = (119 : Int32) then (if (5 : Int32) ≤ p0 then (-1 : Int32) else (5 : Int32)) else (-1 : Int32)) else (4 : Int32)) else (if p1 = (119 : Int32) then (if (5 : Int32) ≤ p0 then (-1 : Int32) else (5 : Int32)) else (-1 : Int32))))) else (if p1 = (98 : Int32) then (if (3 : Int32) ≤ p0 then (if p1 = (111 : Int32) then (if (4 : Int32) ≤ p0 then (if p1 = (119 : Int32) then (if (5 : Int32) ≤ p0 then (-1 : Int32) else (5 : Int32)) else (-1 : Int32)) else (4 : Int32)) else (if p1 = (119 : Int32) then (if (5 : Int32) ≤ p0 then (-1 : Int32) else (5 : Int32)) else (-1 : Int32))) else (3 : Int32)) else (if p1 = (111 : Int32) then (if (4 : Int32) ≤ p0 then (if p1 = (119 : Int32) then (if (5 : Int32) ≤ p0 then (-1 : Int32) else (5 : Int32)) else (-1 : Int32)) else (4 : Int32)) else (if p1 = (119 : Int32) then (if (5 : Int32) ≤ p0 then (-1 : Int32) else (5 : Int32)) else (-1 : Int32)))))))
noncomputable def fX5_firstFault_L4 (σ : St) : Nat → Int32 → Int32 → Option (Sum (Int32) (Unit))
  | 0, _, _ => none
  | n + 1, v1, v2 => (if (σ.1 1 1) ≤ v2 then some (.inr ()) else (if (16 : Int32) ≤ v2 then some (.inr ()) else (grd (inb v2 16) (bnd (fX5_behind v1 (σ.1 2 v2.toNatClampNeg)) fun x4 => (if x4 = (-1 : Int32) then some (.inl v2) else fX5_firstFault_L4 σ n x4 (v2 + (1 : Int32)))))))
noncomputable def fX5_firstFault (σ : St) : Option (Int32) := (Option.bind (fX5_firstFault_L4 σ fu (0 : Int32) (0 : Int32)) fun s7 => Sum.elim (fun z9 => some z9) (fun q6 => some (σ.1 1 1)) s7)
noncomputable def fX8_fault (σ : St) : Option (Int32) := (Option.bind (fX5_firstFault σ) fun q1 => some q1)
noncomputable def fX5_isLaw_L4 (σ : St) : Nat → Int32 → Int32 → Option (Int32)
  | 0, _, _ => none
  | n + 1, v1, v2 => (if (σ.1 1 1) ≤ v2 then some v1 else (if (16 : Int32) ≤ v2 then some v1 else (if v1 = (-1 : Int32) then some v1 else (grd (inb v2 16) (bnd (fX5_behind v1 (σ.1 2 v2.toNatClampNeg)) fun x5 => fX5_isLaw_L4 σ n x5 (v2 + (1 : Int32)))))))
noncomputable def fX5_isLaw (σ : St) : Option (Int32) := (Option.bind (fX5_isLaw_L4 σ fu (0 : Int32) (0 : Int32)) fun q6 => (if q6 = (-1 : Int32) then some (0 : Int32) else (if q6 = (1 : Int32) then some (0 : Int32) else (if q6 = (5 : Int32) then some (0 : Int32) else some (1 : Int32)))))
noncomputable def fX4_readFrom_L24  : Nat → Int32 → Int32 → St → Option (St)
  | 0, _, _, _ => none
  | n + 1, v2, v3, σ => (if (σ.1 1 1) ≤ v3 then some σ else (if (16 : Int32) ≤ v3 then some σ else (grd (inb v3 16) (bnd (σ.1 2 v3.toNatClampNeg) fun x8 => (Option.bind (if v2 = (107 : Int32) then (bnd (setI σ 3 0 (x8 - (48 : Int32))) fun σ13 => some σ13) else (if v2 = (119 : Int32) then (bnd (setI σ 3 3 (x8 - (48 : Int32))) fun σ15 => some σ15) else (if x8 = (98 : Int32) then (bnd (setI σ 3 1 (1 : Int32)) fun σ17 => some σ17) else (if x8 = (111 : Int32) then (bnd (setI σ 3 2 (1 : Int32)) fun σ19 => some σ19) else some σ)))) fun q10 => fX4_readFrom_L24 n x8 (v3 + (1 : Int32)) q10)))))
noncomputable def fX4_readFrom (σ : St) : Option (St) := (bnd (setI σ 3 0 (1 : Int32)) fun σ1 => (bnd (setI σ1 3 1 (0 : Int32)) fun σ2 => (bnd (setI σ2 3 2 (0 : Int32)) fun σ3 => (bnd (setI σ3 3 3 (3 : Int32)) fun σ4 => (Option.bind (fX4_readFrom_L24 fu (0 : Int32) (0 : Int32) σ4) fun q20 => some q20)))))
noncomputable def fX8_law (σ : St) : Option (Int32 × St) := (Option.bind (fX5_isLaw σ) fun q1 => (if q1 = 0 then some ((-103 : Int32), σ) else (Option.bind (fX4_readFrom σ) fun q3 => (bnd (setI q3 1 1 (0 : Int32)) fun σ4 => (bnd (setI σ4 0 9 ((σ4.1 0 9) + (1 : Int32))) fun σ5 => some ((σ5.1 0 9), σ5))))))
noncomputable def fX8_lawTold (p1 : Int32) (σ : St) : Int32 := (if (fX8_within p1 (0 : Int32) (3 : Int32)) = 0 then (-102 : Int32) else (if p1 = (0 : Int32) then (σ.1 3 0) else (if p1 = (1 : Int32) then (if (σ.1 3 1) = 0 then (0 : Int32) else (1 : Int32)) else (if p1 = (2 : Int32) then (if (σ.1 3 2) = 0 then (0 : Int32) else (1 : Int32)) else (σ.1 3 3)))))
noncomputable def fX7_addPerson (w : Nat) (p1 : Int32) (σ : St) : Option (Int32 × St) := (grd (inb (σ.1 w 0) 8) (bnd (setI σ (w + 1) (σ.1 w 0).toNatClampNeg p1) fun σ2 => (bnd (setI σ2 w 0 ((σ2.1 w 0) + (1 : Int32))) fun σ3 => some (((σ3.1 w 0) - (1 : Int32)), σ3))))
noncomputable def fX8_person (p1 : Int32) (σ : St) : Option (Int32 × St) := (if (fX8_within p1 (0 : Int32) (3 : Int32)) = 0 then some ((-102 : Int32), σ) else (if (σ.1 4 0) < (8 : Int32) then (Option.bind (fX7_addPerson 4 p1 σ) fun q3 => some (q3.1, q3.2)) else some ((-104 : Int32), σ)))
noncomputable def fX8_isPerson (p1 : Int32) (σ : St) : Int32 := (if p1 < 0 then (0 : Int32) else (if (σ.1 4 0) ≤ p1 then (0 : Int32) else (1 : Int32)))
noncomputable def fX8_areTwo (p1 : Int32) (p2 : Int32) (σ : St) : Int32 := (if (fX8_isPerson p1 σ) = 0 then (0 : Int32) else (if (fX8_isPerson p2 σ) = 0 then (0 : Int32) else (if p1 = p2 then (0 : Int32) else (1 : Int32))))
noncomputable def fX8_bit (p0 : Int32) : Int32 := (if p0 = (-1 : Int32) then (0 : Int32) else ((1 : Int32) <<< (p0 &&& 31)))
noncomputable def fX7_knows (w : Nat) (p1 : Int32) (p2 : Int32) (σ : St) : Option (Int32) := (grd (inb p1 8) (if ((σ.1 (w + 2) p1.toNatClampNeg) &&& (fX8_bit p2)) = 0 then some (0 : Int32) else some (1 : Int32)))
noncomputable def fX7_setKnown (w : Nat) (p1 : Int32) (p2 : Int32) (p3 : Int32) (σ : St) : Option (St) := (Option.bind (if p3 = 0 then (grd (inb p1 8) (some ((σ.1 (w + 2) p1.toNatClampNeg) &&& ((fX8_bit p2) ^^^ (-1 : Int32))))) else (grd (inb p1 8) (some ((σ.1 (w + 2) p1.toNatClampNeg) ||| (fX8_bit p2))))) fun q2 => (grd (inb p1 8) (bnd (setI σ (w + 2) p1.toNatClampNeg q2) fun σ4 => (Option.bind (if p3 = 0 then (grd (inb p2 8) (some ((σ4.1 (w + 2) p2.toNatClampNeg) &&& ((fX8_bit p1) ^^^ (-1 : Int32))))) else (grd (inb p2 8) (some ((σ4.1 (w + 2) p2.toNatClampNeg) ||| (fX8_bit p1))))) fun q6 => (grd (inb p2 8) (bnd (setI σ4 (w + 2) p2.toNatClampNeg q6) fun σ8 => some σ8))))))
noncomputable def fX8_know (p1 : Int32) (p2 : Int32) (p3 : Int32) (σ : St) : Option (Int32 × St) := (if (fX8_areTwo p1 p2 σ) = 0 then some ((-101 : Int32), σ) else (Option.bind (fX7_knows 4 p1 p2 σ) fun q2 => (bnd (if q2 = 0 then (0 : Int32) else (1 : Int32)) fun x4 => (Option.bind (fX7_setKnown 4 p1 p2 p3 σ) fun q5 => some (x4, q5)))))
noncomputable def fX8_pair (p0 : Int32) (p1 : Int32) : Int32 := ((p0 * (8 : Int32)) + p1)
noncomputable def fX8_like (p1 : Int32) (p2 : Int32) (p3 : Int32) (σ : St) : Option (Int32 × St) := (if (fX8_areTwo p1 p2 σ) = 0 then some ((-101 : Int32), σ) else (if (fX8_within p3 (0 : Int32) (9 : Int32)) = 0 then some ((-102 : Int32), σ) else (grd (inb (fX8_pair p1 p2) 64) (bnd (σ.1 (4 + 4) (fX8_pair p1 p2).toNatClampNeg) fun x4 => (grd (inb (fX8_pair p1 p2) 64) (bnd (setI σ (4 + 4) (fX8_pair p1 p2).toNatClampNeg p3) fun σ6 => some (x4, σ6)))))))
noncomputable def fX3_lives (g : Nat) (σ : St) : Int32 := (if (σ.1 g 6) = 0 then (1 : Int32) else (0 : Int32))
noncomputable def fX7_heldBy_L4 (w0 : Nat) (c1 : Int32) (σ : St) : Nat → Int32 → Int32 → Option (Int32)
  | 0, _, _ => none
  | n + 1, v2, v3 => (if (σ.1 w0 6) ≤ v3 then some v2 else (grd (inb v3 8) (if (fX3_lives (w0 + 7 + v3.toNatClampNeg) σ) = 0 then fX7_heldBy_L4 w0 c1 σ n v2 (v3 + (1 : Int32)) else (grd (inb v3 8) (if (σ.1 (w0 + 7 + v3.toNatClampNeg) 2) = c1 then fX7_heldBy_L4 w0 c1 σ n (v2 + (1 : Int32)) (v3 + (1 : Int32)) else fX7_heldBy_L4 w0 c1 σ n v2 (v3 + (1 : Int32)))))))
noncomputable def fX7_heldBy (w : Nat) (p1 : Int32) (σ : St) : Option (Int32) := (Option.bind (fX7_heldBy_L4 w p1 σ fu (0 : Int32) (0 : Int32)) fun q6 => some q6)
noncomputable def fX8_about (p1 : Int32) (p2 : Int32) (σ : St) : Option (Int32) := (if (fX8_isPerson p1 σ) = 0 then some (-101 : Int32) else (if (fX8_within p2 (0 : Int32) (3 : Int32)) = 0 then some (-102 : Int32) else (if p2 = (0 : Int32) then (grd (inb p1 8) (some (σ.1 (4 + 1) p1.toNatClampNeg))) else (if p2 = (1 : Int32) then (Option.bind (fX7_heldBy 4 p1 σ) fun q6 => some q6) else (if p2 = (2 : Int32) then (grd (inb p1 8) (some (σ.1 (4 + 2) p1.toNatClampNeg))) else (grd (inb p1 8) (some (σ.1 (4 + 3) p1.toNatClampNeg))))))))
noncomputable def fX8_owes (p1 : Int32) (p2 : Int32) (σ : St) : Option (Int32) := (if (fX8_areTwo p1 p2 σ) = 0 then some (-101 : Int32) else (grd (inb (fX8_pair p1 p2) 64) (some (σ.1 (4 + 5) (fX8_pair p1 p2).toNatClampNeg))))
noncomputable def fX7_balance_L4 (w0 : Nat) (c1 : Int32) (σ : St) : Nat → Int32 → Int32 → Option (Int32)
  | 0, _, _ => none
  | n + 1, v2, v3 => (if (σ.1 w0 0) ≤ v3 then some v2 else (grd (inb (fX8_pair v3 c1) 64) (grd (inb (fX8_pair c1 v3) 64) (bnd (v2 + ((σ.1 (w0 + 5) (fX8_pair v3 c1).toNatClampNeg) - (σ.1 (w0 + 5) (fX8_pair c1 v3).toNatClampNeg))) fun x4 => fX7_balance_L4 w0 c1 σ n x4 (v3 + (1 : Int32))))))
noncomputable def fX7_balance (w : Nat) (p1 : Int32) (σ : St) : Option (Int32) := (Option.bind (fX7_balance_L4 w p1 σ fu (0 : Int32) (0 : Int32)) fun q5 => some q5)
noncomputable def fX8_rest (p1 : Int32) (σ : St) : Option (Int32) := (if (fX8_isPerson p1 σ) = 0 then some (-100001 : Int32) else (Option.bind (fX7_balance 4 p1 σ) fun q2 => some q2))
noncomputable def fX3_begin (g : Nat) (p1 : Int32) (p2 : Int32) (σ : St) : Option (St) := (bnd (setI σ g 0 p1) fun σ1 => (bnd (setI σ1 g 1 p2) fun σ2 => (bnd (setI σ2 g 2 p2) fun σ3 => (bnd (setI σ3 g 3 (-1 : Int32)) fun σ4 => (bnd (setI σ4 g 4 (0 : Int32)) fun σ5 => (bnd (setI σ5 g 5 (0 : Int32)) fun σ6 => (bnd (setI σ6 g 6 (0 : Int32)) fun σ7 => (bnd (setI σ7 g 7 (0 : Int32)) fun σ8 => some σ8))))))))
noncomputable def fX7_addGift (w : Nat) (p1 : Int32) (p2 : Int32) (σ : St) : Option (Int32 × St) := (grd (inb (σ.1 w 6) 8) (Option.bind (fX3_begin (w + 7 + (σ.1 w 6).toNatClampNeg) p1 p2 σ) fun q2 => (bnd (setI q2 w 6 ((q2.1 w 6) + (1 : Int32))) fun σ3 => some (((σ3.1 w 6) - (1 : Int32)), σ3))))
noncomputable def fX8_gift (p1 : Int32) (p2 : Int32) (σ : St) : Option (Int32 × St) := (if (fX8_within p1 (0 : Int32) (4 : Int32)) = 0 then some ((-102 : Int32), σ) else (if (fX8_isPerson p2 σ) = 0 then some ((-101 : Int32), σ) else (if (σ.1 4 6) < (8 : Int32) then (Option.bind (fX7_addGift 4 p1 p2 σ) fun q4 => some (q4.1, q4.2)) else some ((-104 : Int32), σ))))
noncomputable def fX8_isGift (p1 : Int32) (σ : St) : Int32 := (if p1 < 0 then (0 : Int32) else (if (σ.1 4 6) ≤ p1 then (0 : Int32) else (1 : Int32)))
noncomputable def fJ9_max_7cf53 (p0 : Int32) (p1 : Int32) : Int32 := (if p0 < p1 then p1 else p0)
noncomputable def fJ9_min_7cf53 (p0 : Int32) (p1 : Int32) : Int32 := (if p1 < p0 then p1 else p0)
noncomputable def fX3_worth (g : Nat) (σ : St) : Int32 := (bnd (fJ9_max_7cf53 (1 : Int32) ((10 : Int32) - (σ.1 g 4))) fun x1 => (if (σ.1 g 0) = (2 : Int32) then (x1 + (fJ9_min_7cf53 (σ.1 g 7) (9 : Int32))) else x1))
noncomputable def fX8_told (p1 : Int32) (p2 : Int32) (σ : St) : Option (Int32) := (if (fX8_isGift p1 σ) = 0 then some (-101 : Int32) else (if (fX8_within p2 (0 : Int32) (8 : Int32)) = 0 then some (-102 : Int32) else (grd (inb p1 8) (if p2 = (0 : Int32) then some (σ.1 (4 + 7 + p1.toNatClampNeg) 0) else (if p2 = (1 : Int32) then some (σ.1 (4 + 7 + p1.toNatClampNeg) 1) else (if p2 = (2 : Int32) then some (σ.1 (4 + 7 + p1.toNatClampNeg) 2) else (if p2 = (3 : Int32) then some (σ.1 (4 + 7 + p1.toNatClampNeg) 3) else (if p2 = (4 : Int32) then some (σ.1 (4 + 7 + p1.toNatClampNeg) 4) else (if p2 = (5 : Int32) then some (σ.1 (4 + 7 + p1.toNatClampNeg) 5) else (if p2 = (6 : Int32) then some (fX3_worth (4 + 7 + p1.toNatClampNeg) σ) else (if p2 = (7 : Int32) then some (σ.1 (4 + 7 + p1.toNatClampNeg) 6) else some (σ.1 (4 + 7 + p1.toNatClampNeg) 7))))))))))))
noncomputable def fX3_isOf (g : Nat) (p1 : Int32) (σ : St) : Int32 := (if p1 = 0 then (1 : Int32) else (if p1 = (σ.1 g 0) then (1 : Int32) else (if p1 = (1 : Int32) then (if (σ.1 g 0) = (4 : Int32) then (1 : Int32) else (0 : Int32)) else (0 : Int32))))
noncomputable def fX8_as (p1 : Int32) (p2 : Int32) (σ : St) : Option (Int32) := (if (fX8_isGift p1 σ) = 0 then some (-101 : Int32) else (if (fX8_within p2 (0 : Int32) (4 : Int32)) = 0 then some (-102 : Int32) else (grd (inb p1 8) (if (fX3_isOf (4 + 7 + p1.toNatClampNeg) p2 σ) = 0 then some (-1 : Int32) else some p1))))
noncomputable def fX7_mayHave (w : Nat) (p1 : Int32) (p2 : Int32) (p3 : Int32) (σ : St) : Option (Int32) := (grd (inb p2 8) (bnd ((σ.1 (w + 2) p2.toNatClampNeg) &&& ((fX8_bit p1) ^^^ (-1 : Int32))) fun x2 => (if x2 = 0 then (if p3 = 0 then some x2 else (grd (inb p2 8) (some ((σ.1 (w + 2) p2.toNatClampNeg) &&& (fX8_bit p1))))) else some x2)))
noncomputable def fX8_whoMayHave (p1 : Int32) (σ : St) : Option (Int32) := (grd (inb p1 8) (Option.bind (fX7_mayHave 4 (σ.1 (4 + 7 + p1.toNatClampNeg) 3) (σ.1 (4 + 7 + p1.toNatClampNeg) 2) (σ.1 3 1) σ) fun q2 => some q2))
noncomputable def fX8_may (p1 : Int32) (σ : St) : Option (Int32) := (if (fX8_isGift p1 σ) = 0 then some (-101 : Int32) else (grd (inb p1 8) (if (fX3_lives (4 + 7 + p1.toNatClampNeg) σ) = 0 then some (-103 : Int32) else (Option.bind (fX8_whoMayHave p1 σ) fun q4 => some q4))))
noncomputable def fX3_moveTo (g : Nat) (p1 : Int32) (p2 : Int32) (σ : St) : Option (St) := (bnd (setI σ g 3 (σ.1 g 2)) fun σ1 => (bnd (setI σ1 g 2 p1) fun σ2 => (bnd (setI σ2 g 5 (0 : Int32)) fun σ3 => (bnd (setI σ3 g 7 ((σ3.1 g 7) + (1 : Int32))) fun σ4 => (Option.bind (if (σ4.1 g 0) = (4 : Int32) then (bnd (setI σ4 g 4 ((σ4.1 g 4) + (2 : Int32))) fun σ16 => some σ16) else (if (σ4.1 g 0) = (2 : Int32) then some σ4 else (bnd (setI σ4 g 4 ((σ4.1 g 4) + (1 : Int32))) fun σ18 => some σ18))) fun q6 => (if (fX3_isOf g (1 : Int32) q6) = 0 then (if (q6.1 g 2) = (q6.1 g 1) then (bnd (setI q6 g 6 (1 : Int32)) fun σ9 => some σ9) else some q6) else (if (q6.1 g 4) < p2 then (if (q6.1 g 2) = (q6.1 g 1) then (bnd (setI q6 g 6 (1 : Int32)) fun σ12 => some σ12) else some q6) else (bnd (setI q6 g 6 (2 : Int32)) fun σ13 => some σ13))))))))
noncomputable def fX7_handOn (w : Nat) (g1 : Nat) (p2 : Int32) (p3 : Int32) (σ : St) : Option (St) := (grd (inb (fX8_pair p2 (σ.1 g1 2)) 64) (grd (inb (fX8_pair p2 (σ.1 g1 2)) 64) (bnd (setI σ (w + 5) (fX8_pair p2 (σ.1 g1 2)).toNatClampNeg ((σ.1 (w + 5) (fX8_pair p2 (σ.1 g1 2)).toNatClampNeg) + (fX3_worth g1 σ))) fun σ3 => (Option.bind (fX3_moveTo g1 p2 p3 σ3) fun q4 => (if (q4.1 g1 6) = (1 : Int32) then (grd (inb p2 8) (grd (inb p2 8) (bnd (setI q4 (w + 3) p2.toNatClampNeg ((q4.1 (w + 3) p2.toNatClampNeg) + (1 : Int32))) fun σ8 => some σ8))) else some q4)))))
noncomputable def fX8_give (p1 : Int32) (p2 : Int32) (σ : St) : Option (Int32 × St) := (if (fX8_isGift p1 σ) = 0 then some ((-101 : Int32), σ) else (if (fX8_isPerson p2 σ) = 0 then some ((-101 : Int32), σ) else (grd (inb p1 8) (if (fX3_lives (4 + 7 + p1.toNatClampNeg) σ) = 0 then some ((-103 : Int32), σ) else (Option.bind (fX8_whoMayHave p1 σ) fun q5 => (if (q5 &&& (fX8_bit p2)) = 0 then some ((-103 : Int32), σ) else (grd (inb p1 8) (Option.bind (fX7_handOn 4 (4 + 7 + p1.toNatClampNeg) p2 (σ.1 3 3) σ) fun q8 => (grd (inb p1 8) (some ((q8.1 (4 + 7 + p1.toNatClampNeg) 6), q8)))))))))))
noncomputable def fX3_mustGo (g : Nat) (p1 : Int32) (σ : St) : Int32 := (if (fX3_lives g σ) = 0 then (0 : Int32) else (bnd (if (σ.1 g 0) = (3 : Int32) then (p1 + (1 : Int32)) else p1) fun x3 => (if (σ.1 g 5) < x3 then (0 : Int32) else (1 : Int32))))
noncomputable def fX7_markOf (w : Nat) (p1 : Int32) (p2 : Int32) (σ : St) : Option (Int32) := (grd (inb p1 8) (if (σ.1 (w + 1) p1.toNatClampNeg) = (0 : Int32) then some (-p2) else (if (σ.1 (w + 1) p1.toNatClampNeg) = (1 : Int32) then some p2 else (if (σ.1 (w + 1) p1.toNatClampNeg) = (2 : Int32) then (grd (inb (fX8_pair p1 p2) 64) (some (σ.1 (w + 4) (fX8_pair p1 p2).toNatClampNeg))) else (Option.bind (fX7_heldBy w p2 σ) fun q6 => some (-q6))))))
noncomputable def fX7_chosenBy_L8 (w0 : Nat) (c1 : Int32) (c2 : Int32) (σ : St) : Nat → Int32 → Int32 → Int32 → Option (Int32)
  | 0, _, _, _ => none
  | n + 1, v3, v4, v5 => (if (σ.1 w0 0) ≤ v5 then some v3 else (if (c2 &&& (fX8_bit v5)) = 0 then fX7_chosenBy_L8 w0 c1 c2 σ n v3 v4 (v5 + (1 : Int32)) else (Option.bind (fX7_markOf w0 c1 v5 σ) fun q3 => (if v3 = (-1 : Int32) then fX7_chosenBy_L8 w0 c1 c2 σ n v5 q3 (v5 + (1 : Int32)) else (if q3 ≤ v4 then fX7_chosenBy_L8 w0 c1 c2 σ n v3 v4 (v5 + (1 : Int32)) else fX7_chosenBy_L8 w0 c1 c2 σ n v5 q3 (v5 + (1 : Int32)))))))
noncomputable def fX7_chosenBy (w : Nat) (p1 : Int32) (p2 : Int32) (σ : St) : Option (Int32) := (Option.bind (fX7_chosenBy_L8 w p1 p2 σ fu (-1 : Int32) (0 : Int32) (0 : Int32)) fun q6 => some q6)
noncomputable def fJ6_bitCount_0f7a4 (p0 : Int32) : Int32 := (bnd (p0 - ((ushrI p0 (1 : Int32)) &&& (1431655765 : Int32))) fun x1 => (bnd ((x1 &&& (858993459 : Int32)) + ((ushrI x1 (2 : Int32)) &&& (858993459 : Int32))) fun x2 => (bnd ((x2 + (ushrI x2 (4 : Int32))) &&& (252645135 : Int32)) fun x3 => (bnd (x3 + (ushrI x3 (8 : Int32))) fun x4 => (bnd (x4 + (ushrI x4 (16 : Int32))) fun x5 => (x5 &&& (63 : Int32)))))))
noncomputable def fX2_oneOf_L47 (c1 : Int32) (σ : St) : Nat → Int32 → Int32 → Option (Sum (Int32 × St) (Unit))
  | 0, _, _ => none
  | n + 1, v3, v4 => (if (8 : Int32) ≤ v4 then some (.inr ()) else (if (c1 &&& (fX8_bit v4)) = 0 then fX2_oneOf_L47 c1 σ n v3 (v4 + (1 : Int32)) else (if v3 = 0 then some (.inl (v4, σ)) else fX2_oneOf_L47 c1 σ n (v3 + (-1 : Int32)) (v4 + (1 : Int32)))))
noncomputable def fX2_oneOf (p1 : Int32) (σ : St) : Option (Int32 × St) := (bnd (fJ6_bitCount_0f7a4 p1) fun x1 => (if x1 = 0 then some ((-1 : Int32), σ) else (bnd (setL σ 49 0 ((((1103515245 : Int64) * (σ.2 49 0)) + (12345 : Int64)) &&& (2147483647 : Int64))) fun σ3 => (grd (decide (¬ x1.toInt64 = 0)) (bnd ((((σ3.2 49 0) / (65536 : Int64)) - ((σ3.2 49 0) / (65536 : Int64)) / x1.toInt64 * x1.toInt64).toInt32) fun x5 => (Option.bind (fX2_oneOf_L47 p1 σ3 fu x5 (0 : Int32)) fun s10 => Sum.elim (fun z12 => some z12) (fun q9 => some ((-1 : Int32), σ3)) s10))))))
noncomputable def fX7_passYear_L12 (w0 : Nat) : Nat → Int32 → St → Option (St)
  | 0, _, _ => none
  | n + 1, v3, σ => (if (σ.1 w0 6) ≤ v3 then some σ else (grd (inb v3 8) (if (fX3_lives (w0 + 7 + v3.toNatClampNeg) σ) = 0 then fX7_passYear_L12 w0 n (v3 + (1 : Int32)) σ else (grd (inb v3 8) (bnd (setI σ (w0 + 7 + v3.toNatClampNeg) 5 ((σ.1 (w0 + 7 + v3.toNatClampNeg) 5) + (1 : Int32))) fun σ6 => fX7_passYear_L12 w0 n (v3 + (1 : Int32)) σ6)))))
noncomputable def fX7_passYear_L61 (w0 : Nat) : Nat → Int32 → Int32 → Int32 → St → Option (Int32 × St)
  | 0, _, _, _, _ => none
  | n + 1, v3, v4, v5, σ => (if (σ.1 w0 6) ≤ v5 then some (v3, σ) else (grd (inb v5 8) (bnd (σ.1 (w0 + 7 + v5.toNatClampNeg) 2) fun x10 => (grd (inb v5 8) (if (fX3_mustGo (w0 + 7 + v5.toNatClampNeg) (σ.1 3 0) σ) = 0 then fX7_passYear_L61 w0 n v3 v4 (v5 + (1 : Int32)) σ else (if (σ.1 3 2) = 0 then (grd (inb v5 8) (Option.bind (fX7_mayHave w0 (σ.1 (w0 + 7 + v5.toNatClampNeg) 3) x10 (σ.1 3 1) σ) fun q15 => (if q15 = 0 then fX7_passYear_L61 w0 n v3 v4 (v5 + (1 : Int32)) σ else (Option.bind (fX2_oneOf q15 σ) fun q17 => (if q17.1 = (-1 : Int32) then fX7_passYear_L61 w0 n v3 v4 (v5 + (1 : Int32)) q17.2 else (grd (inb v5 8) (Option.bind (fX7_handOn w0 (w0 + 7 + v5.toNatClampNeg) q17.1 (q17.2.1 3 3) q17.2) fun q20 => fX7_passYear_L61 w0 n (v3 + (1 : Int32)) (v4 ||| (fX8_bit x10)) (v5 + (1 : Int32)) q20))))))) else (if (v4 &&& (fX8_bit x10)) = 0 then (grd (inb v5 8) (Option.bind (fX7_mayHave w0 (σ.1 (w0 + 7 + v5.toNatClampNeg) 3) x10 (σ.1 3 1) σ) fun q23 => (if q23 = 0 then fX7_passYear_L61 w0 n v3 v4 (v5 + (1 : Int32)) σ else (Option.bind (fX2_oneOf q23 σ) fun q25 => (if q25.1 = (-1 : Int32) then fX7_passYear_L61 w0 n v3 v4 (v5 + (1 : Int32)) q25.2 else (grd (inb v5 8) (Option.bind (fX7_handOn w0 (w0 + 7 + v5.toNatClampNeg) q25.1 (q25.2.1 3 3) q25.2) fun q28 => fX7_passYear_L61 w0 n (v3 + (1 : Int32)) (v4 ||| (fX8_bit x10)) (v5 + (1 : Int32)) q28))))))) else fX7_passYear_L61 w0 n v3 v4 (v5 + (1 : Int32)) σ)))))))
noncomputable def fX7_passYear (w : Nat) (σ : St) : Option (Int32 × St) := (bnd (setI σ w 8 ((σ.1 w 8) + (1 : Int32))) fun σ1 => (Option.bind (fX7_passYear_L12 w fu (0 : Int32) σ1) fun q7 => (Option.bind (fX7_passYear_L61 w fu (0 : Int32) (0 : Int32) (0 : Int32) q7) fun q29 => some (q29.1, q29.2))))
noncomputable def fX7_passYear_n_L12 (w0 : Nat) : Nat → Int32 → St → Option (St)
  | 0, _, _ => none
  | n + 1, v3, σ => (if (σ.1 w0 6) ≤ v3 then some σ else (grd (inb v3 8) (if (fX3_lives (w0 + 7 + v3.toNatClampNeg) σ) = 0 then fX7_passYear_n_L12 w0 n (v3 + (1 : Int32)) σ else (grd (inb v3 8) (bnd (setI σ (w0 + 7 + v3.toNatClampNeg) 5 ((σ.1 (w0 + 7 + v3.toNatClampNeg) 5) + (1 : Int32))) fun σ6 => fX7_passYear_n_L12 w0 n (v3 + (1 : Int32)) σ6)))))
noncomputable def fX7_passYear_n_L61 (w0 : Nat) : Nat → Int32 → Int32 → Int32 → St → Option (Int32 × St)
  | 0, _, _, _, _ => none
  | n + 1, v3, v4, v5, σ => (if (σ.1 w0 6) ≤ v5 then some (v3, σ) else (grd (inb v5 8) (bnd (σ.1 (w0 + 7 + v5.toNatClampNeg) 2) fun x10 => (grd (inb v5 8) (if (fX3_mustGo (w0 + 7 + v5.toNatClampNeg) (σ.1 3 0) σ) = 0 then fX7_passYear_n_L61 w0 n v3 v4 (v5 + (1 : Int32)) σ else (if (σ.1 3 2) = 0 then (grd (inb v5 8) (Option.bind (fX7_mayHave w0 (σ.1 (w0 + 7 + v5.toNatClampNeg) 3) x10 (σ.1 3 1) σ) fun q15 => (if q15 = 0 then fX7_passYear_n_L61 w0 n v3 v4 (v5 + (1 : Int32)) σ else (Option.bind (fX7_chosenBy w0 x10 q15 σ) fun q17 => (if q17 = (-1 : Int32) then fX7_passYear_n_L61 w0 n v3 v4 (v5 + (1 : Int32)) σ else (grd (inb v5 8) (Option.bind (fX7_handOn w0 (w0 + 7 + v5.toNatClampNeg) q17 (σ.1 3 3) σ) fun q20 => fX7_passYear_n_L61 w0 n (v3 + (1 : Int32)) (v4 ||| (fX8_bit x10)) (v5 + (1 : Int32)) q20))))))) else (if (v4 &&& (fX8_bit x10)) = 0 then (grd (inb v5 8) (Option.bind (fX7_mayHave w0 (σ.1 (w0 + 7 + v5.toNatClampNeg) 3) x10 (σ.1 3 1) σ) fun q23 => (if q23 = 0 then fX7_passYear_n_L61 w0 n v3 v4 (v5 + (1 : Int32)) σ else (Option.bind (fX7_chosenBy w0 x10 q23 σ) fun q25 => (if q25 = (-1 : Int32) then fX7_passYear_n_L61 w0 n v3 v4 (v5 + (1 : Int32)) σ else (grd (inb v5 8) (Option.bind (fX7_handOn w0 (w0 + 7 + v5.toNatClampNeg) q25 (σ.1 3 3) σ) fun q28 => fX7_passYear_n_L61 w0 n (v3 + (1 : Int32)) (v4 ||| (fX8_bit x10)) (v5 + (1 : Int32)) q28))))))) else fX7_passYear_n_L61 w0 n v3 v4 (v5 + (1 : Int32)) σ)))))))
noncomputable def fX7_passYear_n (w : Nat) (σ : St) : Option (Int32 × St) := (bnd (setI σ w 8 ((σ.1 w 8) + (1 : Int32))) fun σ1 => (Option.bind (fX7_passYear_n_L12 w fu (0 : Int32) σ1) fun q7 => (Option.bind (fX7_passYear_n_L61 w fu (0 : Int32) (0 : Int32) (0 : Int32) q7) fun q29 => some (q29.1, q29.2))))
noncomputable def fX8_years_L17 (c1 : Int32) : Nat → Int32 → Int32 → St → Option (Int32 × St)
  | 0, _, _, _ => none
  | n + 1, v2, v3, σ => (if c1 ≤ v3 then some (v2, σ) else (Option.bind (fX7_passYear_n 4 σ) fun q3 => fX8_years_L17 c1 n (v2 + q3.1) (v3 + (1 : Int32)) q3.2))
noncomputable def fX8_years (p1 : Int32) (σ : St) : Option (Int32 × St) := (if (fX8_within p1 (1 : Int32) (30 : Int32)) = 0 then some ((-102 : Int32), σ) else (Option.bind (fX8_years_L17 p1 fu (0 : Int32) (0 : Int32) σ) fun q4 => some (q4.1, q4.2)))
noncomputable def fX6_clear_L2 (a0 n0 : Nat) : Nat → Int32 → St → Option (St)
  | 0, _, _ => none
  | n + 1, v1, σ => (if (Int32.ofNat n0) ≤ v1 then some σ else (grd (inb v1 n0) (bnd (setL σ a0 v1.toNatClampNeg (0 : Int64)) fun σ3 => fX6_clear_L2 a0 n0 n (v1 + (1 : Int32)) σ3)))
noncomputable def fX6_clear (a0 n0 : Nat) (σ : St) : Option (St) := (Option.bind (fX6_clear_L2 a0 n0 fu (0 : Int32) σ) fun q4 => some q4)
noncomputable def fX6_spot (p0 : Int32) (p1 : Int32) : Int32 := (((p0 + (1 : Int32)) * (8 : Int32)) + p1)
noncomputable def fX6_begin (p1 : Int32) (p2 : Int32) (σ : St) : Option (St) := (Option.bind (fX6_clear 51 72 σ) fun q1 => (grd (inb (fX6_spot p1 p2) 72) (bnd (setL q1 51 (fX6_spot p1 p2).toNatClampNeg (1 : Int64)) fun σ3 => some σ3)))
noncomputable def fX6_spread_L3 (c1 : Int64) (c3 : Int32) (c4 : Int32) : Nat → Int32 → St → Option (St)
  | 0, _, _ => none
  | n + 1, v5, σ => (if (8 : Int32) ≤ v5 then some σ else (if (c4 &&& (fX8_bit v5)) = 0 then fX6_spread_L3 c1 c3 c4 n (v5 + (1 : Int32)) σ else (grd (inb (fX6_spot c3 v5) 72) (grd (inb (fX6_spot c3 v5) 72) (bnd (setL σ 52 (fX6_spot c3 v5).toNatClampNeg ((σ.2 52 (fX6_spot c3 v5).toNatClampNeg) + c1)) fun σ5 => fX6_spread_L3 c1 c3 c4 n (v5 + (1 : Int32)) σ5)))))
noncomputable def fX6_spread (p1 : Int64) (p3 : Int32) (p4 : Int32) (σ : St) : Option (St) := (Option.bind (fX6_spread_L3 p1 p3 p4 fu (0 : Int32) σ) fun q6 => some q6)
noncomputable def fX6_goOn_L25 (w1 : Nat) (c2 : Int32) (c3 : Int32) (c4 : Int32) (c7 : Int32) : Nat → Int64 → Int32 → St → Option (Int64 × St)
  | 0, _, _, _ => none
  | n + 1, v5, v8, σ => (if (σ.1 w1 0) ≤ v8 then some (v5, σ) else (grd (inb (fX6_spot c7 v8) 72) (bnd (σ.2 51 (fX6_spot c7 v8).toNatClampNeg) fun x5 => (Option.bind (if (lg_cmp x5 (0 : Int64)) = 0 then some (0 : Int32) else (Option.bind (fX7_mayHave w1 c7 v8 c2 σ) fun q20 => some q20)) fun q7 => (if q7 = 0 then fX6_goOn_L25 w1 c2 c3 c4 c7 n v5 (v8 + (1 : Int32)) σ else (Option.bind (if c4 = 0 then some x5 else (grd (decide (¬ (fJ6_bitCount_0f7a4 q7).toInt64 = 0)) (some (x5 * ((420 : Int64) / (fJ6_bitCount_0f7a4 q7).toInt64))))) fun q10 => (bnd (if (q7 &&& (fX8_bit c3)) = 0 then v5 else (v5 + q10)) fun x12 => (Option.bind (fX6_spread q10 v8 (q7 &&& ((fX8_bit c3) ^^^ (-1 : Int32))) σ) fun q13 => fX6_goOn_L25 w1 c2 c3 c4 c7 n x12 (v8 + (1 : Int32)) q13))))))))
noncomputable def fX6_goOn_L13 (w1 : Nat) (c2 : Int32) (c3 : Int32) (c4 : Int32) : Nat → Int64 → Int32 → St → Option (Int64 × St)
  | 0, _, _, _ => none
  | n + 1, v5, v7, σ => (if (σ.1 w1 0) ≤ v7 then some (v5, σ) else (Option.bind (fX6_goOn_L25 w1 c2 c3 c4 v7 fu v5 (0 : Int32) σ) fun q21 => fX6_goOn_L13 w1 c2 c3 c4 n q21.1 (v7 + (1 : Int32)) q21.2))
noncomputable def fX6_goOn (w1 : Nat) (p2 : Int32) (p3 : Int32) (p4 : Int32) (σ : St) : Option (Int64 × St) := (Option.bind (fX6_clear 52 72 σ) fun q1 => (Option.bind (fX6_goOn_L13 w1 p2 p3 p4 fu (0 : Int64) (-1 : Int32) q1) fun q24 => (bnd (cpyL q24.2 52 51 72) fun σ25 => some (q24.1, σ25))))
noncomputable def fX8_ways_L73 (c2 : Int32) (g3 : Nat) : Nat → Int64 → Int32 → St → Option (Int64 × St)
  | 0, _, _, _ => none
  | n + 1, v4, v6, σ => (if c2 ≤ v6 then some (v4, σ) else (Option.bind (fX6_goOn 4 (σ.1 3 1) (σ.1 g3 1) (0 : Int32) σ) fun q8 => fX8_ways_L73 c2 g3 n q8.1 (v6 + (1 : Int32)) q8.2))
noncomputable def fX8_ways (p1 : Int32) (p2 : Int32) (σ : St) : Option (Int32 × St) := (if (fX8_isGift p1 σ) = 0 then some ((-101 : Int32), σ) else (grd (inb p1 8) (if (fX3_lives (4 + 7 + p1.toNatClampNeg) σ) = 0 then some ((-103 : Int32), σ) else (if (fX8_within p2 (1 : Int32) (8 : Int32)) = 0 then some ((-102 : Int32), σ) else (grd (inb p1 8) (Option.bind (fX6_begin (σ.1 (4 + 7 + p1.toNatClampNeg) 3) (σ.1 (4 + 7 + p1.toNatClampNeg) 2) σ) fun q6 => (Option.bind (fX8_ways_L73 p2 (4 + 7 + p1.toNatClampNeg) fu (0 : Int64) (0 : Int32) q6) fun q9 => some (q9.1.toInt32, q9.2))))))))
noncomputable def fX8_soonest_L56 (g2 : Nat) : Nat → Int32 → St → Option (Sum (Int32 × St) (St))
  | 0, _, _ => none
  | n + 1, v3, σ => (if (8 : Int32) < v3 then some (.inr σ) else (Option.bind (fX6_goOn 4 (σ.1 3 1) (σ.1 g2 1) (0 : Int32) σ) fun q7 => (if (lg_cmp q7.1 (0 : Int64)) ≤ 0 then fX8_soonest_L56 g2 n (v3 + (1 : Int32)) q7.2 else some (.inl (v3, q7.2)))))
noncomputable def fX8_soonest (p1 : Int32) (σ : St) : Option (Int32 × St) := (if (fX8_isGift p1 σ) = 0 then some ((-101 : Int32), σ) else (grd (inb p1 8) (if (fX3_lives (4 + 7 + p1.toNatClampNeg) σ) = 0 then some ((-103 : Int32), σ) else (grd (inb p1 8) (Option.bind (fX6_begin (σ.1 (4 + 7 + p1.toNatClampNeg) 3) (σ.1 (4 + 7 + p1.toNatClampNeg) 2) σ) fun q5 => (Option.bind (fX8_soonest_L56 (4 + 7 + p1.toNatClampNeg) fu (1 : Int32) q5) fun s10 => Sum.elim (fun z12 => some z12) (fun q9 => some ((-1 : Int32), q9)) s10))))))
noncomputable def fX8_greatestCommon_L9 (σ : St) : Nat → Int64 → Int64 → Int32 → Option (Int64)
  | 0, _, _, _ => none
  | n + 1, v4, v6, v8 => (if (100 : Int32) ≤ v8 then some v4 else (if (lg_cmp v6 (0 : Int64)) = 0 then some v4 else (grd (decide (¬ v6 = 0)) (fX8_greatestCommon_L9 σ n v6 (v4 - v4 / v6 * v6) (v8 + (1 : Int32))))))
noncomputable def fX8_greatestCommon (p0 : Int64) (p2 : Int64) (σ : St) : Option (Int64) := (Option.bind (fX8_greatestCommon_L9 σ fu p0 p2 (0 : Int32)) fun q4 => some q4)
noncomputable def fX8_likely_L91 (c2 : Int32) (c3 : Int32) (g4 : Nat) : Nat → Int64 → Int64 → Int32 → St → Option (Int64 × Int64 × St)
  | 0, _, _, _, _ => none
  | n + 1, v5, v7, v9, σ => (if c2 ≤ v9 then some (v5, v7, σ) else (Option.bind (fX6_goOn 4 (σ.1 3 1) (σ.1 g4 1) (1 : Int32) σ) fun q9 => (bnd ((v5 * (420 : Int64)) + q9.1) fun x10 => fX8_likely_L91 c2 c3 g4 n x10 (v7 * (420 : Int64)) (v9 + (1 : Int32)) q9.2)))
noncomputable def fX8_likely (p1 : Int32) (p2 : Int32) (p3 : Int32) (σ : St) : Option (Int64 × St) := (if (fX8_isGift p1 σ) = 0 then some ((-101 : Int64), σ) else (grd (inb p1 8) (if (fX3_lives (4 + 7 + p1.toNatClampNeg) σ) = 0 then some ((-103 : Int64), σ) else (if (fX8_within p2 (1 : Int32) (7 : Int32)) = 0 then some ((-102 : Int64), σ) else (if (fX8_within p3 (0 : Int32) (1 : Int32)) = 0 then some ((-102 : Int64), σ) else (grd (inb p1 8) (Option.bind (fX6_begin (σ.1 (4 + 7 + p1.toNatClampNeg) 3) (σ.1 (4 + 7 + p1.toNatClampNeg) 2) σ) fun q7 => (Option.bind (fX8_likely_L91 p2 p3 (4 + 7 + p1.toNatClampNeg) fu (0 : Int64) (1 : Int64) (0 : Int32) q7) fun q11 => (Option.bind (fX8_greatestCommon q11.1 q11.2.1 q11.2.2) fun q12 => (if (lg_cmp q12 (0 : Int64)) = 0 then some ((-1 : Int64), q11.2.2) else (if p3 = 0 then (grd (decide (¬ q12 = 0)) (some ((q11.1 / q12), q11.2.2))) else (grd (decide (¬ q12 = 0)) (some ((q11.2.1 / q12), q11.2.2))))))))))))))
noncomputable def fX8_traps_L4 (σ : St) : Nat → Int32 → Int32 → Option (Int32)
  | 0, _, _ => none
  | n + 1, v1, v2 => (if (σ.1 4 0) ≤ v2 then some v1 else (grd (inb v2 8) (if (fJ6_bitCount_0f7a4 (σ.1 (4 + 2) v2.toNatClampNeg)) = (1 : Int32) then fX8_traps_L4 σ n (v1 ||| (fX8_bit v2)) (v2 + (1 : Int32)) else fX8_traps_L4 σ n v1 (v2 + (1 : Int32)))))
noncomputable def fX8_traps (σ : St) : Option (Int32) := (Option.bind (fX8_traps_L4 σ fu (0 : Int32) (0 : Int32)) fun q4 => some q4)
noncomputable def fX1_mostBy (w1 : Nat) (p2 : Int32) (p3 : Int32) (σ : St) : Option (Int32) := (bnd (fJ6_bitCount_0f7a4 p2) fun x1 => (if (p2 &&& (fX8_bit p3)) = 0 then (Option.bind (fX7_knows w1 x1 p3 σ) fun q3 => (if q3 = 0 then some (-1 : Int32) else (grd (inb (p2 ||| (fX8_bit p3)) 256) (bnd (σ.1 54 (p2 ||| (fX8_bit p3)).toNatClampNeg) fun x6 => (if x6 = (-1 : Int32) then some (-1 : Int32) else (grd (inb (fX8_pair x1 p3) 64) (some (x6 + (σ.1 (w1 + 4) (fX8_pair x1 p3).toNatClampNeg))))))))) else some (-1 : Int32)))
noncomputable def fX1_mostBehind_L5 (w1 : Nat) (c2 : Int32) (σ : St) : Nat → Int32 → Int32 → Option (Int32)
  | 0, _, _ => none
  | n + 1, v3, v4 => (if (σ.1 w1 0) ≤ v4 then some v3 else (Option.bind (fX1_mostBy w1 c2 v4 σ) fun q2 => fX1_mostBehind_L5 w1 c2 σ n (fJ9_max_7cf53 v3 q2) (v4 + (1 : Int32))))
noncomputable def fX1_mostBehind (w1 : Nat) (p2 : Int32) (σ : St) : Option (Int32) := (Option.bind (fX1_mostBehind_L5 w1 p2 σ fu (-1 : Int32) (0 : Int32)) fun q3 => some q3)
noncomputable def fX1_isThere (σ : St) : Option (Int32) := (grd (inb (0 : Int32) 256) (if (σ.1 54 (0 : Int32).toNatClampNeg) = (-1 : Int32) then some (0 : Int32) else some (1 : Int32)))
noncomputable def fX1_firstOfMost_L11 (w1 : Nat) (c2 : Int32) (σ : St) : Nat → Int32 → Option (Sum (Int32) (Unit))
  | 0, _ => none
  | n + 1, v3 => (if (σ.1 w1 0) ≤ v3 then some (.inr ()) else (Option.bind (fX1_mostBy w1 c2 v3 σ) fun q4 => (if q4 = (-1 : Int32) then fX1_firstOfMost_L11 w1 c2 σ n (v3 + (1 : Int32)) else (grd (inb c2 256) (if q4 = (σ.1 54 c2.toNatClampNeg) then some (.inl v3) else fX1_firstOfMost_L11 w1 c2 σ n (v3 + (1 : Int32)))))))
noncomputable def fX1_firstOfMost (w1 : Nat) (p2 : Int32) (σ : St) : Option (Int32) := (Option.bind (fX1_isThere σ) fun q1 => (if q1 = 0 then some (-1 : Int32) else (Option.bind (fX1_firstOfMost_L11 w1 p2 σ fu (0 : Int32)) fun s9 => Sum.elim (fun z11 => some z11) (fun q8 => some (-1 : Int32)) s9)))
noncomputable def fX1_find_L20 (w1 : Nat) : Nat → Int32 → St → Option (St)
  | 0, _, _ => none
  | n + 1, v3, σ => (if v3 < 0 then some σ else (Option.bind (fX1_mostBehind w1 v3 σ) fun q5 => (grd (inb v3 256) (bnd (setI σ 54 v3.toNatClampNeg q5) fun σ7 => fX1_find_L20 w1 n (v3 + (-1 : Int32)) σ7))))
noncomputable def fX1_find_L47 (w1 : Nat) : Nat → Int32 → Int32 → St → Option (St)
  | 0, _, _, _ => none
  | n + 1, v3, v4, σ => (if (8 : Int32) ≤ v4 then some σ else (Option.bind (if (σ.1 w1 0) ≤ v4 then some (-1 : Int32) else (Option.bind (fX1_firstOfMost w1 v3 σ) fun q18 => some q18)) fun q11 => (grd (inb v4 8) (bnd (setI σ 55 v4.toNatClampNeg q11) fun σ13 => (grd (inb v4 8) (bnd (v3 ||| (fX8_bit (σ13.1 55 v4.toNatClampNeg))) fun x15 => fX1_find_L47 w1 n x15 (v4 + (1 : Int32)) σ13))))))
noncomputable def fX1_find (w1 : Nat) (σ : St) : Option (St) := (bnd (((1 : Int32) <<< ((σ.1 w1 0) &&& 31)) - (1 : Int32)) fun x1 => (grd (inb x1 256) (bnd (setI σ 54 x1.toNatClampNeg (0 : Int32)) fun σ3 => (Option.bind (fX1_find_L20 w1 fu (x1 - (1 : Int32)) σ3) fun q8 => (Option.bind (fX1_find_L47 w1 fu (0 : Int32) (0 : Int32) q8) fun q19 => some q19)))))
noncomputable def fX1_likingTogether (σ : St) : Option (Int32) := (grd (inb (0 : Int32) 256) (some (σ.1 54 (0 : Int32).toNatClampNeg)))
noncomputable def fX8_round (p1 : Int32) (σ : St) : Option (Int32 × St) := (bnd (fX8_within p1 (10 : Int32) (17 : Int32)) fun x1 => (if x1 = 0 then (if (fX8_within p1 (0 : Int32) (1 : Int32)) = 0 then some ((-102 : Int32), σ) else (Option.bind (fX1_find 4 σ) fun q4 => (if p1 = 0 then (Option.bind (fX1_isThere q4) fun q6 => (if q6 = 0 then some ((0 : Int32), q4) else some ((1 : Int32), q4))) else (if p1 = (1 : Int32) then (Option.bind (fX1_likingTogether q4) fun q9 => some (q9, q4)) else (grd (inb (p1 - (10 : Int32)) 8) (some ((q4.1 55 (p1 - (10 : Int32)).toNatClampNeg), q4))))))) else (Option.bind (fX1_find 4 σ) fun q11 => (if p1 = 0 then (Option.bind (fX1_isThere q11) fun q13 => (if q13 = 0 then some ((0 : Int32), q11) else some ((1 : Int32), q11))) else (if p1 = (1 : Int32) then (Option.bind (fX1_likingTogether q11) fun q16 => some (q16, q11)) else (grd (inb (p1 - (10 : Int32)) 8) (some ((q11.1 55 (p1 - (10 : Int32)).toNatClampNeg), q11))))))))
noncomputable def fX7_knownByAny_L4 (w0 : Nat) (c1 : Int32) (σ : St) : Nat → Int32 → Int32 → Option (Int32)
  | 0, _, _ => none
  | n + 1, v2, v3 => (if (σ.1 w0 0) ≤ v3 then some v2 else (if (c1 &&& (fX8_bit v3)) = 0 then fX7_knownByAny_L4 w0 c1 σ n v2 (v3 + (1 : Int32)) else (grd (inb v3 8) (bnd (v2 ||| (σ.1 (w0 + 2) v3.toNatClampNeg)) fun x4 => fX7_knownByAny_L4 w0 c1 σ n x4 (v3 + (1 : Int32))))))
noncomputable def fX7_knownByAny (w : Nat) (p1 : Int32) (σ : St) : Option (Int32) := (Option.bind (fX7_knownByAny_L4 w p1 σ fu (0 : Int32) (0 : Int32)) fun q5 => some q5)
noncomputable def fX7_handsBetween_L8 (w0 : Nat) (c2 : Int32) (σ : St) : Nat → Int32 → Int32 → Option (Sum (Int32) (Unit))
  | 0, _, _ => none
  | n + 1, v3, v4 => (if (8 : Int32) ≤ v4 then some (.inr ()) else (if (v3 &&& (fX8_bit c2)) = 0 then (Option.bind (fX7_knownByAny w0 v3 σ) fun q3 => fX7_handsBetween_L8 w0 c2 σ n (v3 ||| q3) (v4 + (1 : Int32))) else some (.inl v4)))
noncomputable def fX7_handsBetween (w : Nat) (p1 : Int32) (p2 : Int32) (σ : St) : Option (Int32) := (Option.bind (fX7_handsBetween_L8 w p2 σ fu (fX8_bit p1) (0 : Int32)) fun s5 => Sum.elim (fun z7 => some z7) (fun q4 => some (-1 : Int32)) s5)
noncomputable def fX7_firstBetween_L21 (w0 : Nat) (c1 : Int32) (c2 : Int32) (c3 : Int32) (σ : St) : Nat → Int32 → Option (Sum (Int32) (Unit))
  | 0, _ => none
  | n + 1, v4 => (if (σ.1 w0 0) ≤ v4 then some (.inr ()) else (Option.bind (fX7_knows w0 c1 v4 σ) fun q5 => (if q5 = 0 then fX7_firstBetween_L21 w0 c1 c2 c3 σ n (v4 + (1 : Int32)) else (Option.bind (fX7_handsBetween w0 v4 c2 σ) fun q7 => (if q7 = (c3 - (1 : Int32)) then some (.inl v4) else fX7_firstBetween_L21 w0 c1 c2 c3 σ n (v4 + (1 : Int32)))))))
noncomputable def fX7_firstBetween (w : Nat) (p1 : Int32) (p2 : Int32) (σ : St) : Option (Int32) := (Option.bind (fX7_handsBetween w p1 p2 σ) fun q1 => (if q1 = (-1 : Int32) then some (-1 : Int32) else (if q1 = 0 then some (-1 : Int32) else (Option.bind (fX7_firstBetween_L21 w p1 p2 q1 σ fu (0 : Int32)) fun s10 => Sum.elim (fun z12 => some z12) (fun q9 => some (-1 : Int32)) s10))))
noncomputable def fX8_stranger (p1 : Int32) (p2 : Int32) (p3 : Int32) (σ : St) : Option (Int32) := (if (fX8_isPerson p1 σ) = 0 then some (-101 : Int32) else (if (fX8_isPerson p2 σ) = 0 then some (-101 : Int32) else (if (fX8_within p3 (0 : Int32) (1 : Int32)) = 0 then some (-102 : Int32) else (if p3 = 0 then (Option.bind (fX7_handsBetween 4 p1 p2 σ) fun q5 => some q5) else (Option.bind (fX7_firstBetween 4 p1 p2 σ) fun q6 => some q6)))))
noncomputable def fX3_copyFrom (g : Nat) (g1 : Nat) (σ : St) : Option (St) := (bnd (setI σ g 0 (σ.1 g1 0)) fun σ1 => (bnd (setI σ1 g 1 (σ1.1 g1 1)) fun σ2 => (bnd (setI σ2 g 2 (σ2.1 g1 2)) fun σ3 => (bnd (setI σ3 g 3 (σ3.1 g1 3)) fun σ4 => (bnd (setI σ4 g 4 (σ4.1 g1 4)) fun σ5 => (bnd (setI σ5 g 5 (σ5.1 g1 5)) fun σ6 => (bnd (setI σ6 g 6 (σ6.1 g1 6)) fun σ7 => (bnd (setI σ7 g 7 (σ7.1 g1 7)) fun σ8 => some σ8))))))))
noncomputable def fX7_copyFrom_L93 (w0 : Nat) (w1 : Nat) : Nat → Int32 → St → Option (St)
  | 0, _, _ => none
  | n + 1, v2, σ => (if (8 : Int32) ≤ v2 then some σ else (grd (inb v2 8) (grd (inb v2 8) (Option.bind (fX3_copyFrom (w0 + 7 + v2.toNatClampNeg) (w1 + 7 + v2.toNatClampNeg) σ) fun q11 => fX7_copyFrom_L93 w0 w1 n (v2 + (1 : Int32)) q11))))
noncomputable def fX7_copyFrom (w : Nat) (w1 : Nat) (σ : St) : Option (St) := (bnd (setI σ w 0 (σ.1 w1 0)) fun σ1 => (bnd (cpyI σ1 (w1 + 1) (w + 1) 8) fun σ2 => (bnd (cpyI σ2 (w1 + 2) (w + 2) 8) fun σ3 => (bnd (cpyI σ3 (w1 + 3) (w + 3) 8) fun σ4 => (bnd (cpyI σ4 (w1 + 4) (w + 4) 64) fun σ5 => (bnd (cpyI σ5 (w1 + 5) (w + 5) 64) fun σ6 => (bnd (setI σ6 w 6 (σ6.1 w1 6)) fun σ7 => (Option.bind (fX7_copyFrom_L93 w w1 fu (0 : Int32) σ7) fun q12 => (bnd (setI q12 w 8 (q12.1 w1 8)) fun σ13 => some σ13)))))))))
noncomputable def fX7_living_L4 (w0 : Nat) (σ : St) : Nat → Int32 → Int32 → Option (Int32)
  | 0, _, _ => none
  | n + 1, v1, v2 => (if (σ.1 w0 6) ≤ v2 then some v1 else (grd (inb v2 8) (if (fX3_lives (w0 + 7 + v2.toNatClampNeg) σ) = 0 then fX7_living_L4 w0 σ n v1 (v2 + (1 : Int32)) else fX7_living_L4 w0 σ n (v1 + (1 : Int32)) (v2 + (1 : Int32)))))
noncomputable def fX7_living (w : Nat) (σ : St) : Option (Int32) := (Option.bind (fX7_living_L4 w σ fu (0 : Int32) (0 : Int32)) fun q4 => some q4)
noncomputable def fX7_allFeasts_L4 (w0 : Nat) (σ : St) : Nat → Int32 → Int32 → Option (Int32)
  | 0, _, _ => none
  | n + 1, v1, v2 => (if (σ.1 w0 0) ≤ v2 then some v1 else (grd (inb v2 8) (bnd (v1 + (σ.1 (w0 + 3) v2.toNatClampNeg)) fun x3 => fX7_allFeasts_L4 w0 σ n x3 (v2 + (1 : Int32)))))
noncomputable def fX7_allFeasts (w : Nat) (σ : St) : Option (Int32) := (Option.bind (fX7_allFeasts_L4 w σ fu (0 : Int32) (0 : Int32)) fun q4 => some q4)
noncomputable def fX8_drawn_L55 (c1 : Int32) (c3 : Int32) : Nat → Int32 → Int32 → St → Option (Int32 × St)
  | 0, _, _, _ => none
  | n + 1, v4, v5, σ => (if c1 ≤ v5 then some (v4, σ) else (Option.bind (fX7_passYear 34 σ) fun q7 => fX8_drawn_L55 c1 c3 n (v4 + q7.1) (v5 + (1 : Int32)) q7.2))
noncomputable def fX8_drawn (p1 : Int32) (p2 : Int32) (p3 : Int32) (σ : St) : Option (Int32 × St) := (if (fX8_within p1 (1 : Int32) (30 : Int32)) = 0 then some ((-102 : Int32), σ) else (if p2 < 0 then some ((-102 : Int32), σ) else (if (fX8_within p3 (0 : Int32) (3 : Int32)) = 0 then some ((-102 : Int32), σ) else (Option.bind (fX7_copyFrom 34 4 σ) fun q4 => (bnd (setL q4 49 0 p2.toInt64) fun σ5 => (Option.bind (fX8_drawn_L55 p1 p3 fu (0 : Int32) (0 : Int32) σ5) fun q8 => (if p3 = (0 : Int32) then some (q8.1, q8.2) else (if p3 = (1 : Int32) then (Option.bind (fX7_living 34 q8.2) fun q11 => some (q11, q8.2)) else (if p3 = (2 : Int32) then (Option.bind (fX7_allFeasts 34 q8.2) fun q13 => (Option.bind (fX7_allFeasts 4 q8.2) fun q14 => some ((q13 - q14), q8.2))) else some ((q8.2.2 49 0).toInt32, q8.2))))))))))
noncomputable def fX0_begin_L12  : Nat → Int32 → St → Option (St)
  | 0, _, _ => none
  | n + 1, v3, σ => (if (7 : Int32) < v3 then some σ else (grd (inb v3 8) (bnd (setI σ 57 v3.toNatClampNeg (-1 : Int32)) fun σ5 => fX0_begin_L12 n (v3 + (1 : Int32)) σ5)))
noncomputable def fX0_begin (p1 : Int32) (p2 : Int32) (σ : St) : Option (St) := (bnd (setI σ 56 1 p1) fun σ1 => (bnd (setI σ1 56 2 p2) fun σ2 => (Option.bind (fX0_begin_L12 fu (0 : Int32) σ2) fun q6 => some q6)))
noncomputable def fX8_open (p1 : Int32) (p2 : Int32) (σ : St) : Option (Int32 × St) := (if (fX8_isPerson p1 σ) = 0 then some ((-101 : Int32), σ) else (if (fX8_within p2 (1 : Int32) (7 : Int32)) = 0 then some ((-102 : Int32), σ) else (Option.bind (fX0_begin p1 p2 σ) fun q3 => some ((q3.1 4 0), q3))))
noncomputable def fX0_isOpen (σ : St) : Int32 := (if (σ.1 56 2) ≤ 0 then (0 : Int32) else (1 : Int32))
noncomputable def fX0_hasYear (p1 : Int32) (σ : St) : Int32 := (fX8_within p1 (1 : Int32) (σ.1 56 2))
noncomputable def fX8_write (p1 : Int32) (p2 : Int32) (σ : St) : Option (Int32 × St) := (if (fX0_isOpen σ) = 0 then some ((-103 : Int32), σ) else (if (fX0_hasYear p1 σ) = 0 then some ((-101 : Int32), σ) else (if p2 = (-1 : Int32) then (grd (inb p1 8) (bnd (σ.1 57 p1.toNatClampNeg) fun x5 => (grd (inb p1 8) (bnd (setI σ 57 p1.toNatClampNeg p2) fun σ7 => some (x5, σ7))))) else (if (fX8_isPerson p2 σ) = 0 then some ((-101 : Int32), σ) else (grd (inb p1 8) (bnd (σ.1 57 p1.toNatClampNeg) fun x10 => (grd (inb p1 8) (bnd (setI σ 57 p1.toNatClampNeg p2) fun σ12 => some (x10, σ12)))))))))
noncomputable def fX6_keepOnly_L2 (c1 : Int32) : Nat → Int32 → St → Option (St)
  | 0, _, _ => none
  | n + 1, v2, σ => (if (72 : Int32) ≤ v2 then some σ else (if (v2 - v2 / (8 : Int32) * (8 : Int32)) = c1 then fX6_keepOnly_L2 c1 n (v2 + (1 : Int32)) σ else (grd (inb v2 72) (bnd (setL σ 51 v2.toNatClampNeg (0 : Int64)) fun σ4 => fX6_keepOnly_L2 c1 n (v2 + (1 : Int32)) σ4))))
noncomputable def fX6_keepOnly (p1 : Int32) (σ : St) : Option (St) := (Option.bind (fX6_keepOnly_L2 p1 fu (0 : Int32) σ) fun q5 => some q5)
noncomputable def fX6_sum_L4 (σ : St) : Nat → Int64 → Int32 → Option (Int64)
  | 0, _, _ => none
  | n + 1, v1, v3 => (if (72 : Int32) ≤ v3 then some v1 else (grd (inb v3 72) (bnd (v1 + (σ.2 51 v3.toNatClampNeg)) fun x3 => fX6_sum_L4 σ n x3 (v3 + (1 : Int32)))))
noncomputable def fX6_sum (σ : St) : Option (Int64) := (Option.bind (fX6_sum_L4 σ fu (0 : Int64) (0 : Int32)) fun q4 => some q4)
noncomputable def fX0_fillings_L11 (w1 : Nat) : Nat → Int32 → St → Option (St)
  | 0, _, _ => none
  | n + 1, v3, σ => (if (σ.1 56 2) < v3 then some σ else (Option.bind (fX6_goOn w1 (0 : Int32) (σ.1 56 1) (0 : Int32) σ) fun q3 => (grd (inb v3 8) (if (q3.2.1 57 v3.toNatClampNeg) = (-1 : Int32) then fX0_fillings_L11 w1 n (v3 + (1 : Int32)) q3.2 else (grd (inb v3 8) (Option.bind (fX6_keepOnly (q3.2.1 57 v3.toNatClampNeg) q3.2) fun q7 => fX0_fillings_L11 w1 n (v3 + (1 : Int32)) q7))))))
noncomputable def fX0_fillings (w1 : Nat) (σ : St) : Option (Int32 × St) := (Option.bind (fX6_begin (-1 : Int32) (σ.1 56 1) σ) fun q1 => (Option.bind (fX0_fillings_L11 w1 fu (1 : Int32) q1) fun q8 => (Option.bind (fX6_sum q8) fun q9 => some (q9.toInt32, q8))))
noncomputable def fX8_filled (σ : St) : Option (Int32 × St) := (if (fX0_isOpen σ) = 0 then some ((-103 : Int32), σ) else (Option.bind (fX0_fillings 4 σ) fun q2 => some (q2.1, q2.2)))
noncomputable def fX0_onlyOneIn_L17 (c1 : Int32) (w2 : Nat) (c4 : Int32) : Nat → Int32 → Int32 → Int32 → St → Option (Int32 × Int32 × St)
  | 0, _, _, _, _ => none
  | n + 1, v5, v6, v7, σ => (if (σ.1 w2 0) ≤ v7 then some (v5, v6, σ) else (if c4 = (-1 : Int32) then (grd (inb c1 8) (bnd (setI σ 57 c1.toNatClampNeg v7) fun σ6 => (Option.bind (fX0_fillings w2 σ6) fun q7 => (if q7.1 ≤ 0 then fX0_onlyOneIn_L17 c1 w2 c4 n v5 v6 (v7 + (1 : Int32)) q7.2 else fX0_onlyOneIn_L17 c1 w2 c4 n v7 (v6 + (1 : Int32)) (v7 + (1 : Int32)) q7.2)))) else (if c4 = v7 then (grd (inb c1 8) (bnd (setI σ 57 c1.toNatClampNeg v7) fun σ11 => (Option.bind (fX0_fillings w2 σ11) fun q12 => (if q12.1 ≤ 0 then fX0_onlyOneIn_L17 c1 w2 c4 n v5 v6 (v7 + (1 : Int32)) q12.2 else fX0_onlyOneIn_L17 c1 w2 c4 n v7 (v6 + (1 : Int32)) (v7 + (1 : Int32)) q12.2)))) else fX0_onlyOneIn_L17 c1 w2 c4 n v5 v6 (v7 + (1 : Int32)) σ)))
noncomputable def fX0_onlyOneIn (p1 : Int32) (w2 : Nat) (σ : St) : Option (Int32 × St) := (grd (inb p1 8) (bnd (σ.1 57 p1.toNatClampNeg) fun x2 => (Option.bind (fX0_onlyOneIn_L17 p1 w2 x2 fu (-1 : Int32) (0 : Int32) (0 : Int32) σ) fun q14 => (grd (inb p1 8) (bnd (setI q14.2.2 57 p1.toNatClampNeg x2) fun σ16 => (if q14.2.1 = (1 : Int32) then some (q14.1, σ16) else some ((-1 : Int32), σ16)))))))
noncomputable def fX8_sure (p1 : Int32) (σ : St) : Option (Int32 × St) := (if (fX0_isOpen σ) = 0 then some ((-103 : Int32), σ) else (if (fX0_hasYear p1 σ) = 0 then some ((-101 : Int32), σ) else (Option.bind (fX0_onlyOneIn p1 4 σ) fun q3 => some (q3.1, q3.2))))
noncomputable def fX8_image (σ : St) : Option (Int32 × St) := (Option.bind (fX7_copyFrom 19 4 σ) fun q1 => (bnd (setI q1 0 10 (1 : Int32)) fun σ2 => some ((σ2.1 4 6), σ2)))
noncomputable def fX8_restore (σ : St) : Option (Int32 × St) := (if (σ.1 0 10) = 0 then some ((-103 : Int32), σ) else (if (σ.1 19 0) = (σ.1 4 0) then (Option.bind (fX7_copyFrom 4 19 σ) fun q3 => some ((q3.1 4 6), q3)) else some ((-103 : Int32), σ)))
noncomputable def fX8_count (p1 : Int32) (σ : St) : Option (Int32) := (if (fX8_within p1 (0 : Int32) (6 : Int32)) = 0 then some (-102 : Int32) else (if p1 = (0 : Int32) then some (σ.1 4 0) else (if p1 = (1 : Int32) then some (σ.1 4 6) else (if p1 = (2 : Int32) then (Option.bind (fX7_living 4 σ) fun q5 => some q5) else (if p1 = (3 : Int32) then some (σ.1 4 8) else (if p1 = (4 : Int32) then (Option.bind (fX7_allFeasts 4 σ) fun q8 => some q8) else (if p1 = (5 : Int32) then some (σ.1 1 1) else some (σ.1 0 9))))))))
noncomputable def fX8_mixed (p0 : Int64) (p2 : Int64) : Int64 := (((31 : Int64) * p0) + p2)
noncomputable def fX8_withPerson_L6 (c3 : Int32) (σ : St) : Nat → Int64 → Int32 → Option (Int64)
  | 0, _, _ => none
  | n + 1, v4, v6 => (if (4 : Int32) ≤ v6 then some v4 else (Option.bind (fX8_about c3 v6 σ) fun q2 => (bnd (fX8_mixed v4 q2.toInt64) fun x3 => fX8_withPerson_L6 c3 σ n x3 (v6 + (1 : Int32)))))
noncomputable def fX8_withPerson (p1 : Int64) (p3 : Int32) (σ : St) : Option (Int64) := (Option.bind (fX8_withPerson_L6 p3 σ fu p1 (0 : Int32)) fun q4 => (Option.bind (fX8_rest p3 σ) fun q5 => some (fX8_mixed q4 q5.toInt64)))
noncomputable def fX8_withGift_L6 (c3 : Int32) (σ : St) : Nat → Int64 → Int32 → Option (Int64)
  | 0, _, _ => none
  | n + 1, v4, v6 => (if (9 : Int32) ≤ v6 then some v4 else (Option.bind (fX8_told c3 v6 σ) fun q2 => (bnd (fX8_mixed v4 q2.toInt64) fun x3 => fX8_withGift_L6 c3 σ n x3 (v6 + (1 : Int32)))))
noncomputable def fX8_withGift (p1 : Int64) (p3 : Int32) (σ : St) : Option (Int64 × St) := (Option.bind (fX8_withGift_L6 p3 σ fu p1 (0 : Int32)) fun q4 => (grd (inb p3 8) (if (fX3_lives (4 + 7 + p3.toNatClampNeg) σ) = 0 then some (q4, σ) else (Option.bind (fX8_may p3 σ) fun q7 => (bnd (fX8_mixed q4 q7.toInt64) fun x8 => (Option.bind (fX8_soonest p3 σ) fun q9 => some ((fX8_mixed x8 q9.1.toInt64), q9.2)))))))
noncomputable def fX8_digest_L6 (σ : St) : Nat → Int64 → Int32 → Option (Int64)
  | 0, _, _ => none
  | n + 1, v1, v3 => (if (4 : Int32) ≤ v3 then some v1 else (bnd (fX8_mixed v1 ((fX8_lawTold v3 σ).toInt64)) fun x2 => fX8_digest_L6 σ n x2 (v3 + (1 : Int32))))
noncomputable def fX8_digest_L30 (σ : St) : Nat → Int64 → Int32 → Option (Int64)
  | 0, _, _ => none
  | n + 1, v1, v3 => (if (σ.1 4 0) ≤ v3 then some v1 else (Option.bind (fX8_withPerson v1 v3 σ) fun q5 => fX8_digest_L30 σ n q5 (v3 + (1 : Int32))))
noncomputable def fX8_digest_L56  : Nat → Int64 → Int32 → St → Option (Int64 × St)
  | 0, _, _, _ => none
  | n + 1, v1, v3, σ => (if (σ.1 4 6) ≤ v3 then some (v1, σ) else (Option.bind (fX8_withGift v1 v3 σ) fun q8 => fX8_digest_L56 n q8.1 (v3 + (1 : Int32)) q8.2))
noncomputable def fX8_digest_L134 (σ : St) : Nat → Int64 → Int32 → Option (Int64)
  | 0, _, _ => none
  | n + 1, v1, v3 => (if (σ.1 1 1) ≤ v3 then some v1 else (if (16 : Int32) ≤ v3 then some v1 else (grd (inb v3 16) (bnd (fX8_mixed v1 ((σ.1 2 v3.toNatClampNeg).toInt64)) fun x21 => fX8_digest_L134 σ n x21 (v3 + (1 : Int32))))))
noncomputable def fX8_digest_L174 (σ : St) : Nat → Int64 → Int32 → Option (Int64)
  | 0, _, _ => none
  | n + 1, v1, v3 => (if (7 : Int32) ≤ v3 then some v1 else (Option.bind (fX8_count v3 σ) fun q24 => (bnd (fX8_mixed v1 q24.toInt64) fun x25 => fX8_digest_L174 σ n x25 (v3 + (1 : Int32)))))
noncomputable def fX8_digest (σ : St) : Option (Int64 × St) := (Option.bind (fX8_digest_L6 σ fu (607 : Int64) (0 : Int32)) fun q3 => (Option.bind (fX8_digest_L30 σ fu q3 (0 : Int32)) fun q6 => (Option.bind (fX8_digest_L56 fu q6 (0 : Int32) σ) fun q9 => (Option.bind (fX8_traps q9.2) fun q10 => (bnd (fX8_mixed q9.1 q10.toInt64) fun x11 => (Option.bind (fX8_round (0 : Int32) q9.2) fun q12 => (bnd (fX8_mixed x11 q12.1.toInt64) fun x13 => (Option.bind (fX8_round (1 : Int32) q12.2) fun q14 => (bnd (fX8_mixed x13 q14.1.toInt64) fun x15 => (Option.bind (if (fX0_isOpen q14.2) = 0 then some (x15, q14.2) else (Option.bind (fX8_filled q14.2) fun q33 => (bnd (fX8_mixed x15 q33.1.toInt64) fun x34 => some (x34, q33.2)))) fun q17 => (Option.bind (fX8_digest_L134 q17.2 fu q17.1 (0 : Int32)) fun q22 => (Option.bind (fX8_digest_L174 q17.2 fu q22 (0 : Int32)) fun q26 => some (q26, q17.2)))))))))))))
noncomputable def fX9_in (p0 : Int64) (p2 : Int64) (p4 : Int64) : Int32 := (if (lg_cmp p0 p2) < 0 then (0 : Int32) else (if 0 < (lg_cmp p0 p4) then (0 : Int32) else (1 : Int32)))
noncomputable def fX9_letters_L11 (c1 : Int64) (σ : St) : Nat → Int32 → Int32 → Int64 → Int32 → Option (Int32 × Int32)
  | 0, _, _, _, _ => none
  | n + 1, v3, v4, v5, v7 => (if (8 : Int32) ≤ v7 then some (v3, v4) else (bnd ((v5 &&& (255 : Int64)).toInt32) fun x2 => (bnd (if v4 = 0 then (0 : Int32) else (if (126 : Int32) < x2 then (0 : Int32) else (if x2 = 0 then (1 : Int32) else (if v3 = v7 then (1 : Int32) else (0 : Int32))))) fun x4 => (bnd (if x2 ≤ 0 then (0 : Int32) else (1 : Int32)) fun x6 => fX9_letters_L11 c1 σ n (v3 + x6) x4 (ushrL v5 (8 : Int32)) (v7 + (1 : Int32))))))
noncomputable def fX9_letters_L108 (c1 : Int64) (c3 : Int32) : Nat → Int32 → St → Option (St)
  | 0, _, _ => none
  | n + 1, v7, σ => (if c3 ≤ v7 then some σ else (grd (inb (σ.1 58 1) 16) (bnd (setI σ 59 (σ.1 58 1).toNatClampNeg (((ushrL c1 ((8 : Int32) * v7)) &&& (255 : Int64)).toInt32)) fun σ17 => (bnd (setI σ17 58 1 ((σ17.1 58 1) + (1 : Int32))) fun σ18 => fX9_letters_L108 c1 c3 n (v7 + (1 : Int32)) σ18))))
noncomputable def fX9_letters (p1 : Int64) (σ : St) : Option (Int32 × St) := (Option.bind (fX9_letters_L11 p1 σ fu (0 : Int32) (1 : Int32) p1 (0 : Int32)) fun q12 => (if q12.2 = 0 then some ((-102 : Int32), σ) else (if ((σ.1 58 1) + q12.1) ≤ (16 : Int32) then (Option.bind (fX9_letters_L108 p1 q12.1 fu (0 : Int32) σ) fun q19 => some ((q19.1 58 1), q19)) else some ((-104 : Int32), σ))))
noncomputable def fX9_blank (σ : St) : Option (Int32 × St) := (bnd (setI σ 58 1 (0 : Int32)) fun σ1 => some ((σ.1 58 1), σ1))
noncomputable def fX9_go (p1 : Int32) (σ : St) : Option (Int32 × St) := (if (σ.1 58 7) = (1 : Int32) then (bnd (setI σ 58 8 (p1 - (48 : Int32))) fun σ2 => (bnd (setI σ2 58 7 (2 : Int32)) fun σ3 => some ((fX9_in p1.toInt64 (49 : Int64) (51 : Int64)), σ3))) else (if (σ.1 58 7) = (5 : Int32) then (bnd (setI σ 58 11 (p1 - (48 : Int32))) fun σ5 => (bnd (setI σ5 58 7 (6 : Int32)) fun σ6 => some ((fX9_in p1.toInt64 (49 : Int64) (57 : Int64)), σ6))) else (bnd (if p1 = (107 : Int32) then (if (σ.1 58 7) = 0 then (1 : Int32) else (if p1 = (98 : Int32) then (if (σ.1 58 7) < (3 : Int32) then (1 : Int32) else (if p1 = (111 : Int32) then (if (σ.1 58 7) < (4 : Int32) then (1 : Int32) else (if p1 = (119 : Int32) then (if (5 : Int32) ≤ (σ.1 58 7) then (0 : Int32) else (1 : Int32)) else (0 : Int32))) else (if p1 = (119 : Int32) then (if (5 : Int32) ≤ (σ.1 58 7) then (0 : Int32) else (1 : Int32)) else (0 : Int32)))) else (if p1 = (111 : Int32) then (if (σ.1 58 7) < (4 : Int32) then (1 : Int32) else (if p1 = (119 : Int32) then (if (5 : Int32) ≤ (σ.1 58 7) then (0 : Int32) else (1 : Int32)) else (0 : Int32))) else (if p1 = (119 : Int32) then (if (5 : Int32) ≤ (σ.1 58 7) then (0 : Int32) else (1 : Int32)) else (0 : Int32))))) else (if p1 = (98 : Int32) then (if (σ.1 58 7) < (3 : Int32) then (1 : Int32) else (if p1 = (111 : Int32) then (if (σ.1 58 7) < (4 : Int32) then (1 : Int32) else (if p1 = (119 : Int32) then (if (5 : Int32) ≤ (σ.1 58 7) then (0 : Int32) else (1 : Int32)) else (0 : Int32))) else (if p1 = (119 : Int32) then (if (5 : Int32) ≤ (σ.1 58 7) then (0 : Int32) else (1 : Int32)) else (0 : Int32)))) else (if p1 = (111 : Int32) then (if (σ.1 58 7) < (4 : Int32) then (1 : Int32) else (if p1 = (119 : Int32) then (if (5 : Int32) ≤ (σ.1 58 7) then (0 : Int32) else (1 : Int32)) else (0 : Int32))) else (if p1 = (119 : Int32) then (if (5 : Int32) ≤ (σ.1 58 7) then (0 : Int32) else (1 : Int32)) else (0 : Int32))))) fun x8 => (bnd (if p1 = (98 : Int32) then (1 : Int32) else (σ.1 58 9)) fun x10 => (bnd (setI σ 58 9 x10) fun σ11 => (bnd (if p1 = (111 : Int32) then (1 : Int32) else (σ11.1 58 10)) fun x13 => (bnd (setI σ11 58 10 x13) fun σ14 => (bnd (if p1 = (107 : Int32) then (1 : Int32) else (if p1 = (98 : Int32) then (3 : Int32) else (if p1 = (111 : Int32) then (4 : Int32) else (5 : Int32)))) fun x16 => (bnd (setI σ14 58 7 x16) fun σ17 => some (x8, σ17))))))))))
noncomputable def fX9_faultOf_L27  : Nat → Int32 → St → Option (Int32 × St)
  | 0, _, _ => none
  | n + 1, v1, σ => (if (σ.1 58 1) ≤ v1 then some (v1, σ) else (grd (inb v1 16) (Option.bind (fX9_go (σ.1 59 v1.toNatClampNeg) σ) fun q8 => (if q8.1 = 0 then some (v1, q8.2) else fX9_faultOf_L27 n (v1 + (1 : Int32)) q8.2))))
noncomputable def fX9_faultOf (σ : St) : Option (Int32 × St) := (bnd (setI σ 58 7 (0 : Int32)) fun σ1 => (bnd (setI σ1 58 8 (1 : Int32)) fun σ2 => (bnd (setI σ2 58 9 (0 : Int32)) fun σ3 => (bnd (setI σ3 58 10 (0 : Int32)) fun σ4 => (bnd (setI σ4 58 11 (3 : Int32)) fun σ5 => (Option.bind (fX9_faultOf_L27 fu (0 : Int32) σ5) fun q10 => some (q10.1, q10.2)))))))
noncomputable def fX9_fault (σ : St) : Option (Int32 × St) := (Option.bind (fX9_faultOf σ) fun q1 => some (q1.1, q1.2))
noncomputable def fX9_law (σ : St) : Option (Int32 × St) := (Option.bind (fX9_faultOf σ) fun q1 => (if q1.1 < (q1.2.1 58 1) then some ((-103 : Int32), q1.2) else (if (q1.2.1 58 7) = (1 : Int32) then some ((-103 : Int32), q1.2) else (if (q1.2.1 58 7) = (5 : Int32) then some ((-103 : Int32), q1.2) else (bnd (setI q1.2 58 2 (q1.2.1 58 8)) fun σ5 => (bnd (setI σ5 58 3 (σ5.1 58 9)) fun σ6 => (bnd (setI σ6 58 4 (σ6.1 58 10)) fun σ7 => (bnd (setI σ7 58 5 (σ7.1 58 11)) fun σ8 => (bnd (setI σ8 58 6 ((σ8.1 58 6) + (1 : Int32))) fun σ9 => (bnd (setI σ9 58 1 (0 : Int32)) fun σ10 => some ((σ10.1 58 6), σ10)))))))))))
noncomputable def fX9_tellLaw (p1 : Int32) (σ : St) : Int32 := (if p1 = 0 then (σ.1 58 2) else (if p1 = (1 : Int32) then (σ.1 58 3) else (if p1 = (2 : Int32) then (σ.1 58 4) else (if p1 = (3 : Int32) then (σ.1 58 5) else (-102 : Int32)))))
noncomputable def fX9_lawTold (p1 : Int32) (σ : St) : Int32 := (fX9_tellLaw p1 σ)
noncomputable def fX9_isPerson (p1 : Int32) (σ : St) : Int32 := (fX9_in p1.toInt64 (0 : Int64) (((σ.1 58 12) - (1 : Int32)).toInt64))
noncomputable def fX9_arePair (p1 : Int32) (p2 : Int32) (σ : St) : Int32 := (if (fX9_isPerson p1 σ) = 0 then (0 : Int32) else (if (fX9_isPerson p2 σ) = 0 then (0 : Int32) else (if p1 = p2 then (0 : Int32) else (1 : Int32))))
noncomputable def fX9_person (p1 : Int32) (σ : St) : Option (Int32 × St) := (if (fX9_in p1.toInt64 (0 : Int64) (3 : Int64)) = 0 then some ((-102 : Int32), σ) else (if (σ.1 58 12) = (8 : Int32) then some ((-104 : Int32), σ) else (grd (inb (σ.1 58 12) 8) (bnd (setI σ 60 (σ.1 58 12).toNatClampNeg p1) fun σ4 => (bnd (setI σ4 58 12 ((σ4.1 58 12) + (1 : Int32))) fun σ5 => some (((σ5.1 58 12) - (1 : Int32)), σ5))))))
noncomputable def fX9_know (p1 : Int32) (p2 : Int32) (p3 : Int32) (σ : St) : Option (Int32 × St) := (if (fX9_arePair p1 p2 σ) = 0 then some ((-101 : Int32), σ) else (grd (inb p1 8) (bnd (((σ.1 61 p1.toNatClampNeg) >>> (p2 &&& 31)) &&& (1 : Int32)) fun x3 => (grd (inb p1 8) (bnd (if p3 = 0 then (0 : Int32) else ((1 : Int32) <<< (p2 &&& 31))) fun x6 => (grd (inb p1 8) (bnd (setI σ 61 p1.toNatClampNeg (((σ.1 61 p1.toNatClampNeg) &&& (((1 : Int32) <<< (p2 &&& 31)) ^^^ (-1 : Int32))) ||| x6)) fun σ8 => (grd (inb p2 8) (bnd (if p3 = 0 then (0 : Int32) else ((1 : Int32) <<< (p1 &&& 31))) fun x11 => (grd (inb p2 8) (bnd (setI σ8 61 p2.toNatClampNeg (((σ8.1 61 p2.toNatClampNeg) &&& (((1 : Int32) <<< (p1 &&& 31)) ^^^ (-1 : Int32))) ||| x11)) fun σ13 => some (x3, σ13))))))))))))
noncomputable def fX9_like (p1 : Int32) (p2 : Int32) (p3 : Int32) (σ : St) : Option (Int32 × St) := (if (fX9_arePair p1 p2 σ) = 0 then some ((-101 : Int32), σ) else (if (fX9_in p3.toInt64 (0 : Int64) (9 : Int64)) = 0 then some ((-102 : Int32), σ) else (grd (inb (((8 : Int32) * p1) + p2) 64) (bnd (σ.1 62 (((8 : Int32) * p1) + p2).toNatClampNeg) fun x4 => (grd (inb (((8 : Int32) * p1) + p2) 64) (bnd (setI σ 62 (((8 : Int32) * p1) + p2).toNatClampNeg p3) fun σ6 => some (x4, σ6)))))))
noncomputable def fX9_isGift (p1 : Int32) (σ : St) : Int32 := (fX9_in p1.toInt64 (0 : Int64) (((σ.1 58 20) - (1 : Int32)).toInt64))
noncomputable def fX9_lives (p1 : Int32) (σ : St) : Option (Int32) := (grd (inb (((8 : Int32) * p1) + (6 : Int32)) 64) (if (σ.1 65 (((8 : Int32) * p1) + (6 : Int32)).toNatClampNeg) = 0 then some (1 : Int32) else some (0 : Int32)))
noncomputable def fX9_holds_L4 (c1 : Int32) (σ : St) : Nat → Int32 → Int32 → Option (Int32)
  | 0, _, _ => none
  | n + 1, v2, v3 => (if (σ.1 58 20) ≤ v3 then some v2 else (Option.bind (fX9_lives v3 σ) fun q2 => (Option.bind (if q2 = 0 then some (0 : Int32) else (grd (inb (((8 : Int32) * v3) + (2 : Int32)) 64) (if (σ.1 65 (((8 : Int32) * v3) + (2 : Int32)).toNatClampNeg) = c1 then some (1 : Int32) else some (0 : Int32)))) fun q4 => fX9_holds_L4 c1 σ n (v2 + q4) (v3 + (1 : Int32)))))
noncomputable def fX9_holds (p1 : Int32) (σ : St) : Option (Int32) := (Option.bind (fX9_holds_L4 p1 σ fu (0 : Int32) (0 : Int32)) fun q9 => some q9)
noncomputable def fX9_tellPerson (p1 : Int32) (p2 : Int32) (σ : St) : Option (Int32) := (if p2 = (0 : Int32) then (grd (inb p1 8) (some (σ.1 60 p1.toNatClampNeg))) else (if p2 = (1 : Int32) then (Option.bind (fX9_holds p1 σ) fun q4 => some q4) else (if p2 = (2 : Int32) then (grd (inb p1 8) (some (σ.1 61 p1.toNatClampNeg))) else (if p2 = (3 : Int32) then (grd (inb p1 8) (some (σ.1 64 p1.toNatClampNeg))) else some (-102 : Int32)))))
noncomputable def fX9_about (p1 : Int32) (p2 : Int32) (σ : St) : Option (Int32) := (if (fX9_isPerson p1 σ) = 0 then some (-101 : Int32) else (Option.bind (fX9_tellPerson p1 p2 σ) fun q2 => some q2))
noncomputable def fX9_owes (p1 : Int32) (p2 : Int32) (σ : St) : Option (Int32) := (if (fX9_arePair p1 p2 σ) = 0 then some (-101 : Int32) else (grd (inb (((8 : Int32) * p1) + p2) 64) (some (σ.1 63 (((8 : Int32) * p1) + p2).toNatClampNeg))))
noncomputable def fX9_restOf_L4 (c1 : Int32) (σ : St) : Nat → Int32 → Int32 → Option (Int32)
  | 0, _, _ => none
  | n + 1, v2, v3 => (if (σ.1 58 12) ≤ v3 then some v2 else (grd (inb (((8 : Int32) * v3) + c1) 64) (grd (inb (((8 : Int32) * c1) + v3) 64) (bnd (v2 + ((σ.1 63 (((8 : Int32) * v3) + c1).toNatClampNeg) - (σ.1 63 (((8 : Int32) * c1) + v3).toNatClampNeg))) fun x4 => fX9_restOf_L4 c1 σ n x4 (v3 + (1 : Int32))))))
noncomputable def fX9_restOf (p1 : Int32) (σ : St) : Option (Int32) := (Option.bind (fX9_restOf_L4 p1 σ fu (0 : Int32) (0 : Int32)) fun q5 => some q5)
noncomputable def fX9_rest (p1 : Int32) (σ : St) : Option (Int32) := (if (fX9_isPerson p1 σ) = 0 then some (-100001 : Int32) else (Option.bind (fX9_restOf p1 σ) fun q2 => some q2))
noncomputable def fX9_gift_L40 (c1 : Int32) (c2 : Int32) : Nat → Int32 → St → Option (St)
  | 0, _, _ => none
  | n + 1, v3, σ => (if (8 : Int32) ≤ v3 then some σ else (grd (inb (((8 : Int32) * (σ.1 58 20)) + v3) 64) (bnd (setI σ 65 (((8 : Int32) * (σ.1 58 20)) + v3).toNatClampNeg (0 : Int32)) fun σ6 => fX9_gift_L40 c1 c2 n (v3 + (1 : Int32)) σ6)))
noncomputable def fX9_gift (p1 : Int32) (p2 : Int32) (σ : St) : Option (Int32 × St) := (if (fX9_in p1.toInt64 (0 : Int64) (4 : Int64)) = 0 then some ((-102 : Int32), σ) else (if (fX9_isPerson p2 σ) = 0 then some ((-101 : Int32), σ) else (if (σ.1 58 20) = (8 : Int32) then some ((-104 : Int32), σ) else (Option.bind (fX9_gift_L40 p1 p2 fu (0 : Int32) σ) fun q7 => (grd (inb ((8 : Int32) * (q7.1 58 20)) 64) (bnd (setI q7 65 ((8 : Int32) * (q7.1 58 20)).toNatClampNeg p1) fun σ9 => (grd (inb (((8 : Int32) * (σ9.1 58 20)) + (1 : Int32)) 64) (bnd (setI σ9 65 (((8 : Int32) * (σ9.1 58 20)) + (1 : Int32)).toNatClampNeg p2) fun σ11 => (grd (inb (((8 : Int32) * (σ11.1 58 20)) + (2 : Int32)) 64) (bnd (setI σ11 65 (((8 : Int32) * (σ11.1 58 20)) + (2 : Int32)).toNatClampNeg p2) fun σ13 => (grd (inb (((8 : Int32) * (σ13.1 58 20)) + (3 : Int32)) 64) (bnd (setI σ13 65 (((8 : Int32) * (σ13.1 58 20)) + (3 : Int32)).toNatClampNeg (-1 : Int32)) fun σ15 => (bnd (setI σ15 58 20 ((σ15.1 58 20) + (1 : Int32))) fun σ16 => some (((σ16.1 58 20) - (1 : Int32)), σ16))))))))))))))
noncomputable def fX9_worthOf (p1 : Int32) (σ : St) : Option (Int32) := (grd (inb (((8 : Int32) * p1) + (4 : Int32)) 64) (bnd ((10 : Int32) - (σ.1 65 (((8 : Int32) * p1) + (4 : Int32)).toNatClampNeg)) fun x2 => (grd (inb (((8 : Int32) * p1) + (7 : Int32)) 64) (Option.bind (if (σ.1 65 (((8 : Int32) * p1) + (7 : Int32)).toNatClampNeg) ≤ (9 : Int32) then (grd (inb (((8 : Int32) * p1) + (7 : Int32)) 64) (some (σ.1 65 (((8 : Int32) * p1) + (7 : Int32)).toNatClampNeg))) else some (9 : Int32)) fun q5 => (bnd (if (1 : Int32) ≤ x2 then x2 else (1 : Int32)) fun x7 => (grd (inb ((8 : Int32) * p1) 64) (if (σ.1 65 ((8 : Int32) * p1).toNatClampNeg) = (2 : Int32) then some (x7 + q5) else some (x7 + (0 : Int32)))))))))
noncomputable def fX9_tellGift (p1 : Int32) (p2 : Int32) (σ : St) : Option (Int32) := (if p2 = (6 : Int32) then (Option.bind (fX9_worthOf p1 σ) fun q2 => some q2) else (if (fX9_in p2.toInt64 (0 : Int64) (8 : Int64)) = 0 then some (-102 : Int32) else (bnd (if p2 ≤ (6 : Int32) then p2 else (p2 - (1 : Int32))) fun x5 => (grd (inb (((8 : Int32) * p1) + x5) 64) (some (σ.1 65 (((8 : Int32) * p1) + x5).toNatClampNeg))))))
noncomputable def fX9_told (p1 : Int32) (p2 : Int32) (σ : St) : Option (Int32) := (if (fX9_isGift p1 σ) = 0 then some (-101 : Int32) else (Option.bind (fX9_tellGift p1 p2 σ) fun q2 => some q2))
noncomputable def fX9_as (p1 : Int32) (p2 : Int32) (σ : St) : Option (Int32) := (if (fX9_isGift p1 σ) = 0 then some (-101 : Int32) else (if (fX9_in p2.toInt64 (0 : Int64) (4 : Int64)) = 0 then some (-102 : Int32) else (grd (inb ((8 : Int32) * p1) 64) (bnd (σ.1 65 ((8 : Int32) * p1).toNatClampNeg) fun x4 => (bnd (if p2 = 0 then (1 : Int32) else (if p2 = x4 then (1 : Int32) else (if p2 = (1 : Int32) then (if x4 = (4 : Int32) then (1 : Int32) else (0 : Int32)) else (0 : Int32)))) fun x6 => (if x6 = 0 then some (-1 : Int32) else some p1))))))
noncomputable def fX9_mayHave (p1 : Int32) (p2 : Int32) (σ : St) : Option (Int32) := (Option.bind (if p2 = (-1 : Int32) then (grd (inb p1 8) (some (σ.1 61 p1.toNatClampNeg))) else (grd (inb p1 8) (some ((σ.1 61 p1.toNatClampNeg) &&& (((1 : Int32) <<< (p2 &&& 31)) ^^^ (-1 : Int32)))))) fun q2 => (if q2 = 0 then (if (σ.1 58 3) = (1 : Int32) then (grd (inb p1 8) (some (σ.1 61 p1.toNatClampNeg))) else some q2) else some q2))
noncomputable def fX9_mayOf (p1 : Int32) (σ : St) : Option (Int32) := (grd (inb (((8 : Int32) * p1) + (2 : Int32)) 64) (grd (inb (((8 : Int32) * p1) + (3 : Int32)) 64) (Option.bind (fX9_mayHave (σ.1 65 (((8 : Int32) * p1) + (2 : Int32)).toNatClampNeg) (σ.1 65 (((8 : Int32) * p1) + (3 : Int32)).toNatClampNeg) σ) fun q3 => some q3)))
noncomputable def fX9_may (p1 : Int32) (σ : St) : Option (Int32) := (if (fX9_isGift p1 σ) = 0 then some (-101 : Int32) else (Option.bind (fX9_lives p1 σ) fun q2 => (if q2 = 0 then some (-103 : Int32) else (Option.bind (fX9_mayOf p1 σ) fun q4 => some q4))))
noncomputable def fX9_goOn (p1 : Int32) (p2 : Int32) (σ : St) : Option (Int32 × St) := (grd (inb (((8 : Int32) * p1) + (2 : Int32)) 64) (bnd (σ.1 65 (((8 : Int32) * p1) + (2 : Int32)).toNatClampNeg) fun x2 => (grd (inb ((8 : Int32) * p1) 64) (bnd (σ.1 65 ((8 : Int32) * p1).toNatClampNeg) fun x4 => (grd (inb (((8 : Int32) * p2) + x2) 64) (Option.bind (fX9_worthOf p1 σ) fun q6 => (grd (inb (((8 : Int32) * p2) + x2) 64) (bnd (setI σ 63 (((8 : Int32) * p2) + x2).toNatClampNeg ((σ.1 63 (((8 : Int32) * p2) + x2).toNatClampNeg) + q6)) fun σ8 => (grd (inb (((8 : Int32) * p1) + (3 : Int32)) 64) (bnd (setI σ8 65 (((8 : Int32) * p1) + (3 : Int32)).toNatClampNeg x2) fun σ10 => (grd (inb (((8 : Int32) * p1) + (2 : Int32)) 64) (bnd (setI σ10 65 (((8 : Int32) * p1) + (2 : Int32)).toNatClampNeg p2) fun σ12 => (grd (inb (((8 : Int32) * p1) + (5 : Int32)) 64) (bnd (setI σ12 65 (((8 : Int32) * p1) + (5 : Int32)).toNatClampNeg (0 : Int32)) fun σ14 => (grd (inb (((8 : Int32) * p1) + (4 : Int32)) 64) (bnd (if x4 = (2 : Int32) then (0 : Int32) else (if x4 = (4 : Int32) then (2 : Int32) else (1 : Int32))) fun x17 => (grd (inb (((8 : Int32) * p1) + (4 : Int32)) 64) (bnd (setI σ14 65 (((8 : Int32) * p1) + (4 : Int32)).toNatClampNeg ((σ14.1 65 (((8 : Int32) * p1) + (4 : Int32)).toNatClampNeg) + x17)) fun σ19 => (grd (inb (((8 : Int32) * p1) + (7 : Int32)) 64) (grd (inb (((8 : Int32) * p1) + (7 : Int32)) 64) (bnd (setI σ19 65 (((8 : Int32) * p1) + (7 : Int32)).toNatClampNeg ((σ19.1 65 (((8 : Int32) * p1) + (7 : Int32)).toNatClampNeg) + (1 : Int32))) fun σ22 => (Option.bind (if x4 = (1 : Int32) then (grd (inb (((8 : Int32) * p1) + (4 : Int32)) 64) (if (σ22.1 65 (((8 : Int32) * p1) + (4 : Int32)).toNatClampNeg) < (σ22.1 58 5) then (grd (inb (((8 : Int32) * p1) + (1 : Int32)) 64) (if p2 = (σ22.1 65 (((8 : Int32) * p1) + (1 : Int32)).toNatClampNeg) then (grd (inb (((8 : Int32) * p1) + (6 : Int32)) 64) (bnd (setI σ22 65 (((8 : Int32) * p1) + (6 : Int32)).toNatClampNeg (1 : Int32)) fun σ33 => (grd (inb p2 8) (grd (inb p2 8) (bnd (setI σ33 64 p2.toNatClampNeg ((σ33.1 64 p2.toNatClampNeg) + (1 : Int32))) fun σ36 => (bnd (setI σ36 58 18 ((σ36.1 58 18) + (1 : Int32))) fun σ37 => some σ37)))))) else some σ22)) else (grd (inb (((8 : Int32) * p1) + (6 : Int32)) 64) (bnd (setI σ22 65 (((8 : Int32) * p1) + (6 : Int32)).toNatClampNeg (2 : Int32)) fun σ39 => some σ39)))) else (if x4 = (4 : Int32) then (grd (inb (((8 : Int32) * p1) + (4 : Int32)) 64) (if (σ22.1 65 (((8 : Int32) * p1) + (4 : Int32)).toNatClampNeg) < (σ22.1 58 5) then (grd (inb (((8 : Int32) * p1) + (1 : Int32)) 64) (if p2 = (σ22.1 65 (((8 : Int32) * p1) + (1 : Int32)).toNatClampNeg) then (grd (inb (((8 : Int32) * p1) + (6 : Int32)) 64) (bnd (setI σ22 65 (((8 : Int32) * p1) + (6 : Int32)).toNatClampNeg (1 : Int32)) fun σ46 => (grd (inb p2 8) (grd (inb p2 8) (bnd (setI σ46 64 p2.toNatClampNeg ((σ46.1 64 p2.toNatClampNeg) + (1 : Int32))) fun σ49 => (bnd (setI σ49 58 18 ((σ49.1 58 18) + (1 : Int32))) fun σ50 => some σ50)))))) else some σ22)) else (grd (inb (((8 : Int32) * p1) + (6 : Int32)) 64) (bnd (setI σ22 65 (((8 : Int32) * p1) + (6 : Int32)).toNatClampNeg (2 : Int32)) fun σ52 => some σ52)))) else (grd (inb (((8 : Int32) * p1) + (1 : Int32)) 64) (if p2 = (σ22.1 65 (((8 : Int32) * p1) + (1 : Int32)).toNatClampNeg) then (grd (inb (((8 : Int32) * p1) + (6 : Int32)) 64) (bnd (setI σ22 65 (((8 : Int32) * p1) + (6 : Int32)).toNatClampNeg (1 : Int32)) fun σ56 => (grd (inb p2 8) (grd (inb p2 8) (bnd (setI σ56 64 p2.toNatClampNeg ((σ56.1 64 p2.toNatClampNeg) + (1 : Int32))) fun σ59 => (bnd (setI σ59 58 18 ((σ59.1 58 18) + (1 : Int32))) fun σ60 => some σ60)))))) else some σ22)))) fun q24 => (grd (inb (((8 : Int32) * p1) + (6 : Int32)) 64) (some ((q24.1 65 (((8 : Int32) * p1) + (6 : Int32)).toNatClampNeg), q24)))))))))))))))))))))))))
noncomputable def fX9_give (p1 : Int32) (p2 : Int32) (σ : St) : Option (Int32 × St) := (if (fX9_isGift p1 σ) = 0 then some ((-101 : Int32), σ) else (if (fX9_isPerson p2 σ) = 0 then some ((-101 : Int32), σ) else (Option.bind (fX9_lives p1 σ) fun q3 => (if q3 = 0 then some ((-103 : Int32), σ) else (Option.bind (fX9_mayOf p1 σ) fun q5 => (if ((q5 >>> (p2 &&& 31)) &&& (1 : Int32)) = (1 : Int32) then (Option.bind (fX9_goOn p1 p2 σ) fun q7 => some (q7.1, q7.2)) else some ((-103 : Int32), σ)))))))
noncomputable def fX9_ones_L4 (c0 : Int32) (σ : St) : Nat → Int32 → Int32 → Option (Int32)
  | 0, _, _ => none
  | n + 1, v1, v2 => (if (8 : Int32) ≤ v2 then some v1 else (bnd (v1 + ((c0 >>> (v2 &&& 31)) &&& (1 : Int32))) fun x2 => fX9_ones_L4 c0 σ n x2 (v2 + (1 : Int32))))
noncomputable def fX9_ones (p0 : Int32) (σ : St) : Option (Int32) := (Option.bind (fX9_ones_L4 p0 σ fu (0 : Int32) (0 : Int32)) fun q3 => some q3)
noncomputable def fX9_byHabit_L13 (c1 : Int32) (c2 : Int32) (c3 : Int32) (σ : St) : Nat → Int32 → Int32 → Option (Int32)
  | 0, _, _ => none
  | n + 1, v4, v5 => (if (σ.1 58 12) ≤ v5 then some v4 else (if ((c2 >>> (v5 &&& 31)) &&& (1 : Int32)) = (1 : Int32) then (bnd (if v4 = (-1 : Int32) then (1 : Int32) else (if c3 = (1 : Int32) then (1 : Int32) else (0 : Int32))) fun x6 => (Option.bind (if x6 = 0 then (if c3 = (2 : Int32) then (grd (inb (((8 : Int32) * c1) + v5) 64) (grd (inb (((8 : Int32) * c1) + v4) 64) (if (σ.1 62 (((8 : Int32) * c1) + v5).toNatClampNeg) ≤ (σ.1 62 (((8 : Int32) * c1) + v4).toNatClampNeg) then some (0 : Int32) else some (1 : Int32)))) else some (0 : Int32)) else some (1 : Int32)) fun q8 => (Option.bind (if q8 = 0 then (if c3 = (3 : Int32) then (Option.bind (fX9_holds v5 σ) fun q15 => (Option.bind (fX9_holds v4 σ) fun q16 => (if q16 ≤ q15 then some (0 : Int32) else some (1 : Int32)))) else some (0 : Int32)) else some (1 : Int32)) fun q10 => (if q10 = 0 then fX9_byHabit_L13 c1 c2 c3 σ n v4 (v5 + (1 : Int32)) else fX9_byHabit_L13 c1 c2 c3 σ n v5 (v5 + (1 : Int32)))))) else fX9_byHabit_L13 c1 c2 c3 σ n v4 (v5 + (1 : Int32))))
noncomputable def fX9_byHabit (p1 : Int32) (p2 : Int32) (σ : St) : Option (Int32) := (grd (inb p1 8) (bnd (σ.1 60 p1.toNatClampNeg) fun x2 => (Option.bind (fX9_byHabit_L13 p1 p2 x2 σ fu (-1 : Int32) (0 : Int32)) fun q26 => some q26)))
noncomputable def fX9_draw (p1 : Int32) (σ : St) : Option (Int32 × St) := (bnd (setI σ 58 22 (((((1103515245 : Int64) * (σ.1 58 22).toInt64) + (12345 : Int64)) &&& (2147483647 : Int64)).toInt32)) fun σ1 => (grd (decide (¬ p1 = 0)) (some ((((σ1.1 58 22) / (65536 : Int32)) - ((σ1.1 58 22) / (65536 : Int32)) / p1 * p1), σ1))))
noncomputable def fX9_byDraw_L11 (c1 : Int32) (σ : St) : Nat → Int32 → Int32 → Option (Int32)
  | 0, _, _ => none
  | n + 1, v2, v3 => (if ((c1 >>> (v3 &&& 31)) &&& (1 : Int32)) = 0 then (bnd (v2 - ((c1 >>> (v3 &&& 31)) &&& (1 : Int32))) fun x4 => fX9_byDraw_L11 c1 σ n x4 (v3 + (1 : Int32))) else (if v2 ≤ 0 then some v3 else (bnd (v2 - ((c1 >>> (v3 &&& 31)) &&& (1 : Int32))) fun x6 => fX9_byDraw_L11 c1 σ n x6 (v3 + (1 : Int32)))))
noncomputable def fX9_byDraw (p1 : Int32) (σ : St) : Option (Int32 × St) := (Option.bind (fX9_ones p1 σ) fun q1 => (Option.bind (fX9_draw q1 σ) fun q2 => (Option.bind (fX9_byDraw_L11 p1 q2.2 fu q2.1 (0 : Int32)) fun q7 => some (q7, q2.2))))
noncomputable def fX9_year_L2 (c1 : Int32) : Nat → Int32 → St → Option (St)
  | 0, _, _ => none
  | n + 1, v2, σ => (if (8 : Int32) ≤ v2 then some σ else (grd (inb v2 8) (bnd (setI σ 66 v2.toNatClampNeg (0 : Int32)) fun σ3 => (grd (inb (((8 : Int32) * v2) + (5 : Int32)) 64) (Option.bind (if (σ3.1 58 20) ≤ v2 then some (0 : Int32) else (Option.bind (fX9_lives v2 σ3) fun q11 => (if q11 = 0 then some (0 : Int32) else some (1 : Int32)))) fun q6 => (grd (inb (((8 : Int32) * v2) + (5 : Int32)) 64) (bnd (setI σ3 65 (((8 : Int32) * v2) + (5 : Int32)).toNatClampNeg ((σ3.1 65 (((8 : Int32) * v2) + (5 : Int32)).toNatClampNeg) + q6)) fun σ8 => fX9_year_L2 c1 n (v2 + (1 : Int32)) σ8)))))))
noncomputable def fX9_year_L60 (c1 : Int32) : Nat → Int32 → Int32 → St → Option (Int32 × St)
  | 0, _, _, _ => none
  | n + 1, v2, v3, σ => (if (σ.1 58 20) ≤ v3 then some (v2, σ) else (grd (inb (((8 : Int32) * v3) + (2 : Int32)) 64) (bnd (σ.1 65 (((8 : Int32) * v3) + (2 : Int32)).toNatClampNeg) fun x16 => (Option.bind (fX9_lives v3 σ) fun q17 => (Option.bind (if q17 = 0 then some (0 : Int32) else (grd (inb (((8 : Int32) * v3) + (5 : Int32)) 64) (grd (inb ((8 : Int32) * v3) 64) (bnd (if (σ.1 65 ((8 : Int32) * v3).toNatClampNeg) = (3 : Int32) then (1 : Int32) else (0 : Int32)) fun x52 => (if (σ.1 65 (((8 : Int32) * v3) + (5 : Int32)).toNatClampNeg) < ((σ.1 58 2) + x52) then some (0 : Int32) else some (1 : Int32)))))) fun q19 => (Option.bind (if q19 = 0 then some (0 : Int32) else (Option.bind (fX9_mayOf v3 σ) fun q46 => some q46)) fun q21 => (if q21 = 0 then fX9_year_L60 c1 n v2 (v3 + (1 : Int32)) σ else (if (σ.1 58 4) = 0 then (Option.bind (if c1 = 0 then (Option.bind (fX9_byHabit x16 q21 σ) fun q31 => some (q31, σ)) else (Option.bind (fX9_byDraw q21 σ) fun q32 => some (q32.1, q32.2))) fun q25 => (Option.bind (fX9_goOn v3 q25.1 q25.2) fun q26 => (grd (inb x16 8) (bnd (setI q26.2 66 x16.toNatClampNeg (1 : Int32)) fun σ28 => fX9_year_L60 c1 n (v2 + (1 : Int32)) (v3 + (1 : Int32)) σ28)))) else (grd (inb x16 8) (if (σ.1 66 x16.toNatClampNeg) = 0 then (Option.bind (if c1 = 0 then (Option.bind (fX9_byHabit x16 q21 σ) fun q42 => some (q42, σ)) else (Option.bind (fX9_byDraw q21 σ) fun q43 => some (q43.1, q43.2))) fun q36 => (Option.bind (fX9_goOn v3 q36.1 q36.2) fun q37 => (grd (inb x16 8) (bnd (setI q37.2 66 x16.toNatClampNeg (1 : Int32)) fun σ39 => fX9_year_L60 c1 n (v2 + (1 : Int32)) (v3 + (1 : Int32)) σ39)))) else fX9_year_L60 c1 n v2 (v3 + (1 : Int32)) σ))))))))))
noncomputable def fX9_year (p1 : Int32) (σ : St) : Option (Int32 × St) := (Option.bind (fX9_year_L2 p1 fu (0 : Int32) σ) fun q13 => (Option.bind (fX9_year_L60 p1 fu (0 : Int32) (0 : Int32) q13) fun q55 => (bnd (setI q55.2 58 19 ((q55.2.1 58 19) + (1 : Int32))) fun σ56 => some (q55.1, σ56))))
noncomputable def fX9_years_L19 (c1 : Int32) : Nat → Int32 → Int32 → St → Option (Int32 × St)
  | 0, _, _, _ => none
  | n + 1, v2, v3, σ => (if c1 ≤ v3 then some (v2, σ) else (Option.bind (fX9_year (0 : Int32) σ) fun q3 => fX9_years_L19 c1 n (v2 + q3.1) (v3 + (1 : Int32)) q3.2))
noncomputable def fX9_years (p1 : Int32) (σ : St) : Option (Int32 × St) := (if (fX9_in p1.toInt64 (1 : Int64) (30 : Int64)) = 0 then some ((-102 : Int32), σ) else (Option.bind (fX9_years_L19 p1 fu (0 : Int32) (0 : Int32) σ) fun q4 => some (q4.1, q4.2)))
noncomputable def fX9_goAll_L2 (c1 : Int32) (c2 : Int32) : Nat → Int32 → St → Option (St)
  | 0, _, _ => none
  | n + 1, v3, σ => (if (72 : Int32) ≤ v3 then some σ else (grd (inb v3 72) (bnd (setL σ 68 v3.toNatClampNeg (0 : Int64)) fun σ3 => fX9_goAll_L2 c1 c2 n (v3 + (1 : Int32)) σ3)))
noncomputable def fX9_goAll_L148 (c1 : Int32) (c2 : Int32) (c5 : Int32) (c6 : Int32) (c7 : Int32) (c8 : Int64) : Nat → Int64 → Int32 → St → Option (Int64 × St)
  | 0, _, _, _ => none
  | n + 1, v3, v10, σ => (if (σ.1 58 12) ≤ v10 then some (v3, σ) else (if ((c7 >>> (v10 &&& 31)) &&& (1 : Int32)) = (1 : Int32) then (bnd (if v10 = c1 then c8 else (0 : Int64)) fun x21 => (grd (inb (((9 : Int32) * v10) + c6) 72) (bnd (if v10 = c1 then (0 : Int64) else c8) fun x24 => (grd (inb (((9 : Int32) * v10) + c6) 72) (bnd (setL σ 68 (((9 : Int32) * v10) + c6).toNatClampNeg ((σ.2 68 (((9 : Int32) * v10) + c6).toNatClampNeg) + x24)) fun σ26 => fX9_goAll_L148 c1 c2 c5 c6 c7 c8 n (v3 + x21) (v10 + (1 : Int32)) σ26))))) else fX9_goAll_L148 c1 c2 c5 c6 c7 c8 n v3 (v10 + (1 : Int32)) σ))
noncomputable def fX9_goAll_L26 (c1 : Int32) (c2 : Int32) : Nat → Int64 → Int32 → St → Option (Int64 × St)
  | 0, _, _, _ => none
  | n + 1, v3, v5, σ => (if (72 : Int32) ≤ v5 then some (v3, σ) else (grd (inb v5 72) (Option.bind (if (lg_cmp (σ.2 67 v5.toNatClampNeg) (0 : Int64)) ≤ 0 then some (0 : Int32) else (bnd (if (v5 - v5 / (9 : Int32) * (9 : Int32)) = (8 : Int32) then (-1 : Int32) else (v5 - v5 / (9 : Int32) * (9 : Int32))) fun x42 => (Option.bind (fX9_mayHave (v5 / (9 : Int32)) x42 σ) fun q43 => some q43))) fun q8 => (grd (inb v5 72) (Option.bind (if c2 = 0 then some (1 : Int32) else (if q8 = 0 then some ((420 : Int32) / (1 : Int32)) else (Option.bind (fX9_ones q8 σ) fun q37 => (grd (decide (¬ q37 = 0)) (some ((420 : Int32) / q37)))))) fun q11 => (bnd ((σ.2 67 v5.toNatClampNeg) * q11.toInt64) fun x12 => (grd (inb v5 72) (bnd (if c2 = 0 then (0 : Int64) else (if q8 = 0 then x12 else (0 : Int64))) fun x15 => (grd (inb v5 72) (bnd (setL σ 68 v5.toNatClampNeg ((σ.2 68 v5.toNatClampNeg) + x15)) fun σ17 => (Option.bind (fX9_goAll_L148 c1 c2 v5 (v5 / (9 : Int32)) q8 x12 fu v3 (0 : Int32) σ17) fun q29 => fX9_goAll_L26 c1 c2 n q29.1 (v5 + (1 : Int32)) q29.2)))))))))))
noncomputable def fX9_goAll_L226 (c3 : Int64) : Nat → Int32 → St → Option (St)
  | 0, _, _ => none
  | n + 1, v5, σ => (if (72 : Int32) ≤ v5 then some σ else (grd (inb v5 72) (grd (inb v5 72) (bnd (setL σ 67 v5.toNatClampNeg (σ.2 68 v5.toNatClampNeg)) fun σ49 => fX9_goAll_L226 c3 n (v5 + (1 : Int32)) σ49))))
noncomputable def fX9_goAll (p1 : Int32) (p2 : Int32) (σ : St) : Option (Int64 × St) := (Option.bind (fX9_goAll_L2 p1 p2 fu (0 : Int32) σ) fun q4 => (Option.bind (fX9_goAll_L26 p1 p2 fu (0 : Int64) (0 : Int32) q4) fun q45 => (Option.bind (fX9_goAll_L226 q45.1 fu (0 : Int32) q45.2) fun q50 => some (q45.1, q50))))
noncomputable def fX9_beginWays_L2 (c1 : Int32) : Nat → Int32 → St → Option (St)
  | 0, _, _ => none
  | n + 1, v2, σ => (if (72 : Int32) ≤ v2 then some σ else (grd (inb v2 72) (bnd (setL σ 67 v2.toNatClampNeg (0 : Int64)) fun σ3 => fX9_beginWays_L2 c1 n (v2 + (1 : Int32)) σ3)))
noncomputable def fX9_beginWays (p1 : Int32) (σ : St) : Option (St) := (Option.bind (fX9_beginWays_L2 p1 fu (0 : Int32) σ) fun q4 => (grd (inb (((8 : Int32) * p1) + (3 : Int32)) 64) (bnd (q4.1 65 (((8 : Int32) * p1) + (3 : Int32)).toNatClampNeg) fun x6 => (grd (inb (((8 : Int32) * p1) + (2 : Int32)) 64) (bnd (if x6 = (-1 : Int32) then (8 : Int32) else x6) fun x9 => (grd (inb (((9 : Int32) * (q4.1 65 (((8 : Int32) * p1) + (2 : Int32)).toNatClampNeg)) + x9) 72) (bnd (setL q4 67 (((9 : Int32) * (q4.1 65 (((8 : Int32) * p1) + (2 : Int32)).toNatClampNeg)) + x9).toNatClampNeg (1 : Int64)) fun σ11 => some σ11)))))))
noncomputable def fX9_layWays_L7 (c1 : Int32) : Nat → Int32 → St → Option (St)
  | 0, _, _ => none
  | n + 1, v2, σ => (if (9 : Int32) ≤ v2 then some σ else (grd (inb (((8 : Int32) * c1) + (1 : Int32)) 64) (Option.bind (fX9_goAll (σ.1 65 (((8 : Int32) * c1) + (1 : Int32)).toNatClampNeg) (0 : Int32) σ) fun q4 => (grd (inb v2 9) (bnd (setL q4.2 69 v2.toNatClampNeg q4.1) fun σ6 => fX9_layWays_L7 c1 n (v2 + (1 : Int32)) σ6)))))
noncomputable def fX9_layWays (p1 : Int32) (σ : St) : Option (St) := (Option.bind (fX9_beginWays p1 σ) fun q1 => (Option.bind (fX9_layWays_L7 p1 fu (1 : Int32) q1) fun q7 => some q7))
noncomputable def fX9_ways (p1 : Int32) (p2 : Int32) (σ : St) : Option (Int32 × St) := (if (fX9_isGift p1 σ) = 0 then some ((-101 : Int32), σ) else (Option.bind (fX9_lives p1 σ) fun q2 => (if q2 = 0 then some ((-103 : Int32), σ) else (if (fX9_in p2.toInt64 (1 : Int64) (8 : Int64)) = 0 then some ((-102 : Int32), σ) else (Option.bind (fX9_layWays p1 σ) fun q5 => (grd (inb p2 9) (some ((q5.2 69 p2.toNatClampNeg).toInt32, q5))))))))
noncomputable def fX9_soonestOf_L7 (σ : St) : Nat → Int32 → Option (Sum (Int32 × St) (Unit))
  | 0, _ => none
  | n + 1, v2 => (if (9 : Int32) ≤ v2 then some (.inr ()) else (grd (inb v2 9) (if (lg_cmp (σ.2 69 v2.toNatClampNeg) (0 : Int64)) ≤ 0 then fX9_soonestOf_L7 σ n (v2 + (1 : Int32)) else some (.inl (v2, σ)))))
noncomputable def fX9_soonestOf (p1 : Int32) (σ : St) : Option (Int32 × St) := (Option.bind (fX9_layWays p1 σ) fun q1 => (Option.bind (fX9_soonestOf_L7 q1 fu (1 : Int32)) fun s6 => Sum.elim (fun z8 => some z8) (fun q5 => some ((-1 : Int32), q1)) s6))
noncomputable def fX9_soonest (p1 : Int32) (σ : St) : Option (Int32 × St) := (if (fX9_isGift p1 σ) = 0 then some ((-101 : Int32), σ) else (Option.bind (fX9_lives p1 σ) fun q2 => (if q2 = 0 then some ((-103 : Int32), σ) else (Option.bind (fX9_soonestOf p1 σ) fun q4 => some (q4.1, q4.2)))))
noncomputable def fX9_term_L6 (c0 : Int64) (c2 : Int64) (c4 : Int32) (σ : St) : Nat → Int64 → Int64 → Option (Int64)
  | 0, _, _ => none
  | n + 1, v5, v7 => (if (lg_cmp v5 (0 : Int64)) = 0 then some v7 else (grd (decide (¬ v5 = 0)) (fX9_term_L6 c0 c2 c4 σ n (v7 - v7 / v5 * v5) v5)))
noncomputable def fX9_term (p0 : Int64) (p2 : Int64) (p4 : Int32) (σ : St) : Option (Int64) := (Option.bind (fX9_term_L6 p0 p2 p4 σ fu p0 p2) fun q3 => (if p4 = 0 then (grd (decide (¬ q3 = 0)) (some (p0 / q3))) else (grd (decide (¬ q3 = 0)) (some (p2 / q3)))))
noncomputable def fX9_likely_L64 (c1 : Int32) (c2 : Int32) (c3 : Int32) : Nat → Int64 → Int64 → Int32 → St → Option (Int64 × Int64 × St)
  | 0, _, _, _, _ => none
  | n + 1, v4, v6, v8, σ => (if c2 ≤ v8 then some (v4, v6, σ) else (grd (inb (((8 : Int32) * c1) + (1 : Int32)) 64) (Option.bind (fX9_goAll (σ.1 65 (((8 : Int32) * c1) + (1 : Int32)).toNatClampNeg) (1 : Int32) σ) fun q9 => (bnd (((420 : Int64) * v4) + q9.1) fun x10 => fX9_likely_L64 c1 c2 c3 n x10 (v6 * (420 : Int64)) (v8 + (1 : Int32)) q9.2))))
noncomputable def fX9_likely (p1 : Int32) (p2 : Int32) (p3 : Int32) (σ : St) : Option (Int64 × St) := (if (fX9_isGift p1 σ) = 0 then some ((-101 : Int64), σ) else (Option.bind (fX9_lives p1 σ) fun q2 => (if q2 = 0 then some ((-103 : Int64), σ) else (if (fX9_in p2.toInt64 (1 : Int64) (7 : Int64)) = 0 then some ((-102 : Int64), σ) else (if (fX9_in p3.toInt64 (0 : Int64) (1 : Int64)) = 0 then some ((-102 : Int64), σ) else (Option.bind (fX9_beginWays p1 σ) fun q6 => (Option.bind (fX9_likely_L64 p1 p2 p3 fu (0 : Int64) (1 : Int64) (0 : Int32) q6) fun q11 => (Option.bind (fX9_term q11.1 q11.2.1 p3 q11.2.2) fun q12 => some (q12, q11.2.2)))))))))
noncomputable def fX9_trapsOf_L4 (σ : St) : Nat → Int32 → Int32 → Option (Int32)
  | 0, _, _ => none
  | n + 1, v1, v2 => (if (σ.1 58 12) ≤ v2 then some v1 else (grd (inb v2 8) (Option.bind (fX9_ones (σ.1 61 v2.toNatClampNeg) σ) fun q3 => (bnd (if q3 = (1 : Int32) then ((1 : Int32) <<< (v2 &&& 31)) else (0 : Int32)) fun x5 => fX9_trapsOf_L4 σ n (v1 ||| x5) (v2 + (1 : Int32))))))
noncomputable def fX9_trapsOf (σ : St) : Option (Int32) := (Option.bind (fX9_trapsOf_L4 σ fu (0 : Int32) (0 : Int32)) fun q7 => some q7)
noncomputable def fX9_traps (σ : St) : Option (Int32) := (Option.bind (fX9_trapsOf σ) fun q1 => some q1)
noncomputable def fX9_layRound_L9 (c1 : Int32) : Nat → Int32 → St → Option (St)
  | 0, _, _ => none
  | n + 1, v2, σ => (if c1 ≤ v2 then some σ else (bnd (if v2 = (c1 - (1 : Int32)) then (0 : Int32) else (-1 : Int32)) fun x4 => (grd (inb (((256 : Int32) * (σ.1 58 12)) + v2) 2304) (bnd (setI σ 70 (((256 : Int32) * (σ.1 58 12)) + v2).toNatClampNeg x4) fun σ6 => fX9_layRound_L9 c1 n (v2 + (1 : Int32)) σ6))))
noncomputable def fX9_layRound_L71 (c1 : Int32) (c2 : Int32) (c3 : Int32) (σ : St) : Nat → Int32 → Int32 → Option (Int32)
  | 0, _, _ => none
  | n + 1, v4, v5 => (if (σ.1 58 12) ≤ v5 then some v4 else (grd (inb c2 8) (bnd (if (((σ.1 61 c2.toNatClampNeg) >>> (v5 &&& 31)) &&& (1 : Int32)) = (1 : Int32) then (if ((c3 >>> (v5 &&& 31)) &&& (1 : Int32)) = 0 then (1 : Int32) else (0 : Int32)) else (0 : Int32)) fun x15 => (Option.bind (if x15 = 0 then some (-1 : Int32) else (grd (inb (((256 : Int32) * (c2 + (1 : Int32))) + (c3 ||| ((1 : Int32) <<< (v5 &&& 31)))) 2304) (some (σ.1 70 (((256 : Int32) * (c2 + (1 : Int32))) + (c3 ||| ((1 : Int32) <<< (v5 &&& 31)))).toNatClampNeg)))) fun q17 => (if q17 = (-1 : Int32) then fX9_layRound_L71 c1 c2 c3 σ n v4 (v5 + (1 : Int32)) else (grd (inb (((8 : Int32) * c2) + v5) 64) (if (q17 + (σ.1 62 (((8 : Int32) * c2) + v5).toNatClampNeg)) ≤ v4 then fX9_layRound_L71 c1 c2 c3 σ n v4 (v5 + (1 : Int32)) else (grd (inb (((8 : Int32) * c2) + v5) 64) (bnd (q17 + (σ.1 62 (((8 : Int32) * c2) + v5).toNatClampNeg)) fun x22 => fX9_layRound_L71 c1 c2 c3 σ n x22 (v5 + (1 : Int32)))))))))))
noncomputable def fX9_layRound_L60 (c1 : Int32) (c2 : Int32) : Nat → Int32 → St → Option (St)
  | 0, _, _ => none
  | n + 1, v3, σ => (if c1 ≤ v3 then some σ else (Option.bind (fX9_layRound_L71 c1 c2 v3 σ fu (-1 : Int32) (0 : Int32)) fun q28 => (grd (inb (((256 : Int32) * c2) + v3) 2304) (bnd (setI σ 70 (((256 : Int32) * c2) + v3).toNatClampNeg q28) fun σ30 => fX9_layRound_L60 c1 c2 n (v3 + (1 : Int32)) σ30))))
noncomputable def fX9_layRound_L54 (c1 : Int32) : Nat → Int32 → St → Option (St)
  | 0, _, _ => none
  | n + 1, v2, σ => (if v2 < 0 then some σ else (Option.bind (fX9_layRound_L60 c1 v2 fu (0 : Int32) σ) fun q33 => fX9_layRound_L54 c1 n (v2 + (-1 : Int32)) q33))
noncomputable def fX9_layRound_L248 (c2 : Int32) (c3 : Int32) : Nat → Int32 → St → Option (St)
  | 0, _, _ => none
  | n + 1, v4, σ => (if v4 < 0 then some σ else (grd (inb (0 : Int32) 2304) (if (σ.1 70 (0 : Int32).toNatClampNeg) = (-1 : Int32) then some σ else (grd (inb c3 8) (bnd (if (((σ.1 61 c3.toNatClampNeg) >>> (v4 &&& 31)) &&& (1 : Int32)) = (1 : Int32) then (if ((c2 >>> (v4 &&& 31)) &&& (1 : Int32)) = 0 then (1 : Int32) else (0 : Int32)) else (0 : Int32)) fun x46 => (Option.bind (if x46 = 0 then some (-1 : Int32) else (grd (inb (((256 : Int32) * (c3 + (1 : Int32))) + (c2 ||| ((1 : Int32) <<< (v4 &&& 31)))) 2304) (some (σ.1 70 (((256 : Int32) * (c3 + (1 : Int32))) + (c2 ||| ((1 : Int32) <<< (v4 &&& 31)))).toNatClampNeg)))) fun q48 => (Option.bind (if q48 = (-1 : Int32) then (grd (inb c3 8) (some (σ.1 71 c3.toNatClampNeg))) else (grd (inb (((8 : Int32) * c3) + v4) 64) (grd (inb (((256 : Int32) * c3) + c2) 2304) (if (q48 + (σ.1 62 (((8 : Int32) * c3) + v4).toNatClampNeg)) = (σ.1 70 (((256 : Int32) * c3) + c2).toNatClampNeg) then some v4 else (grd (inb c3 8) (some (σ.1 71 c3.toNatClampNeg))))))) fun q50 => (grd (inb c3 8) (bnd (setI σ 71 c3.toNatClampNeg q50) fun σ52 => fX9_layRound_L248 c2 c3 n (v4 + (-1 : Int32)) σ52)))))))))
noncomputable def fX9_layRound_L225  : Nat → Int32 → Int32 → St → Option (St)
  | 0, _, _, _ => none
  | n + 1, v2, v3, σ => (if (σ.1 58 12) ≤ v3 then some σ else (grd (inb v3 8) (bnd (setI σ 71 v3.toNatClampNeg (-1 : Int32)) fun σ39 => (bnd ((σ39.1 58 12) - (1 : Int32)) fun x40 => (Option.bind (fX9_layRound_L248 v2 v3 fu x40 σ39) fun q65 => (grd (inb v3 8) (Option.bind (if (q65.1 71 v3.toNatClampNeg) = (-1 : Int32) then some (0 : Int32) else (grd (inb v3 8) (some ((1 : Int32) <<< ((q65.1 71 v3.toNatClampNeg) &&& 31))))) fun q68 => fX9_layRound_L225 n (v2 ||| q68) (v3 + (1 : Int32)) q65)))))))
noncomputable def fX9_layRound (σ : St) : Option (St) := (bnd ((1 : Int32) <<< ((σ.1 58 12) &&& 31)) fun x1 => (Option.bind (fX9_layRound_L9 x1 fu (0 : Int32) σ) fun q8 => (bnd ((q8.1 58 12) - (1 : Int32)) fun x9 => (Option.bind (fX9_layRound_L54 x1 fu x9 q8) fun q36 => (Option.bind (fX9_layRound_L225 fu (0 : Int32) (0 : Int32) q36) fun q74 => some q74)))))
noncomputable def fX9_tellRound (p1 : Int32) (σ : St) : Option (Int32 × St) := (Option.bind (fX9_layRound σ) fun q1 => (grd (inb (0 : Int32) 2304) (bnd (q1.1 70 (0 : Int32).toNatClampNeg) fun x3 => (if (2 : Int32) ≤ p1 then (if (q1.1 58 12) ≤ (p1 - (10 : Int32)) then some ((-1 : Int32), q1) else (grd (inb (p1 - (10 : Int32)) 8) (some ((q1.1 71 (p1 - (10 : Int32)).toNatClampNeg), q1)))) else (if p1 = (1 : Int32) then some (x3, q1) else (if x3 = (-1 : Int32) then some ((0 : Int32), q1) else some ((1 : Int32), q1)))))))
noncomputable def fX9_round (p1 : Int32) (σ : St) : Option (Int32 × St) := (if (fX9_in p1.toInt64 (0 : Int64) (1 : Int64)) = 0 then (if (fX9_in p1.toInt64 (10 : Int64) (17 : Int64)) = 0 then some ((-102 : Int32), σ) else (Option.bind (fX9_tellRound p1 σ) fun q3 => some (q3.1, q3.2))) else (Option.bind (fX9_tellRound p1 σ) fun q4 => some (q4.1, q4.2)))
noncomputable def fX9_layFar_L2 (c1 : Int32) : Nat → Int32 → St → Option (St)
  | 0, _, _ => none
  | n + 1, v2, σ => (if (8 : Int32) ≤ v2 then some σ else (bnd (if v2 = c1 then (0 : Int32) else (100 : Int32)) fun x3 => (grd (inb v2 8) (bnd (setI σ 72 v2.toNatClampNeg x3) fun σ5 => fX9_layFar_L2 c1 n (v2 + (1 : Int32)) σ5))))
noncomputable def fX9_layFar_L52 (c2 : Int32) (c3 : Int32) : Nat → Int32 → St → Option (St)
  | 0, _, _ => none
  | n + 1, v4, σ => (if (σ.1 58 12) ≤ v4 then some σ else (grd (inb c3 8) (Option.bind (if (((σ.1 61 c3.toNatClampNeg) >>> (v4 &&& 31)) &&& (1 : Int32)) = (1 : Int32) then (grd (inb v4 8) (grd (inb c3 8) (if (σ.1 72 c3.toNatClampNeg) ≤ ((σ.1 72 v4.toNatClampNeg) + (1 : Int32)) then some (0 : Int32) else some (1 : Int32)))) else some (0 : Int32)) fun q13 => (Option.bind (if q13 = 0 then (grd (inb c3 8) (some (σ.1 72 c3.toNatClampNeg))) else (grd (inb v4 8) (some ((σ.1 72 v4.toNatClampNeg) + (1 : Int32))))) fun q15 => (grd (inb c3 8) (bnd (setI σ 72 c3.toNatClampNeg q15) fun σ17 => fX9_layFar_L52 c2 c3 n (v4 + (1 : Int32)) σ17))))))
noncomputable def fX9_layFar_L41 (c2 : Int32) : Nat → Int32 → St → Option (St)
  | 0, _, _ => none
  | n + 1, v3, σ => (if (σ.1 58 12) ≤ v3 then some σ else (Option.bind (fX9_layFar_L52 c2 v3 fu (0 : Int32) σ) fun q27 => fX9_layFar_L41 c2 n (v3 + (1 : Int32)) q27))
noncomputable def fX9_layFar_L33  : Nat → Int32 → St → Option (St)
  | 0, _, _ => none
  | n + 1, v2, σ => (if (8 : Int32) ≤ v2 then some σ else (Option.bind (fX9_layFar_L41 v2 fu (0 : Int32) σ) fun q30 => fX9_layFar_L33 n (v2 + (1 : Int32)) q30))
noncomputable def fX9_layFar (p1 : Int32) (σ : St) : Option (St) := (Option.bind (fX9_layFar_L2 p1 fu (0 : Int32) σ) fun q7 => (Option.bind (fX9_layFar_L33 fu (0 : Int32) q7) fun q33 => some q33))
noncomputable def fX9_tellStranger_L54 (c1 : Int32) (σ : St) : Nat → Int32 → Option (Int32)
  | 0, _ => none
  | n + 1, v4 => (grd (inb c1 8) (if (((σ.1 61 c1.toNatClampNeg) >>> (v4 &&& 31)) &&& (1 : Int32)) = 0 then fX9_tellStranger_L54 c1 σ n (v4 + (1 : Int32)) else (grd (inb v4 8) (grd (inb c1 8) (if ((σ.1 72 v4.toNatClampNeg) + (1 : Int32)) = (σ.1 72 c1.toNatClampNeg) then some v4 else fX9_tellStranger_L54 c1 σ n (v4 + (1 : Int32)))))))
noncomputable def fX9_tellStranger (p1 : Int32) (p2 : Int32) (p3 : Int32) (σ : St) : Option (Int32 × St) := (Option.bind (fX9_layFar p2 σ) fun q1 => (if p3 = 0 then (if p3 = 0 then (grd (inb p1 8) (if (100 : Int32) ≤ (q1.1 72 p1.toNatClampNeg) then some ((-1 : Int32), q1) else (grd (inb p1 8) (some ((q1.1 72 p1.toNatClampNeg), q1))))) else some ((-1 : Int32), q1)) else (if p1 = p2 then (if p3 = 0 then (grd (inb p1 8) (if (100 : Int32) ≤ (q1.1 72 p1.toNatClampNeg) then some ((-1 : Int32), q1) else (grd (inb p1 8) (some ((q1.1 72 p1.toNatClampNeg), q1))))) else some ((-1 : Int32), q1)) else (grd (inb p1 8) (if (q1.1 72 p1.toNatClampNeg) = (100 : Int32) then (if p3 = 0 then (grd (inb p1 8) (if (100 : Int32) ≤ (q1.1 72 p1.toNatClampNeg) then some ((-1 : Int32), q1) else (grd (inb p1 8) (some ((q1.1 72 p1.toNatClampNeg), q1))))) else some ((-1 : Int32), q1)) else (Option.bind (fX9_tellStranger_L54 p1 q1 fu (0 : Int32)) fun q23 => some (q23, q1)))))))
noncomputable def fX9_stranger (p1 : Int32) (p2 : Int32) (p3 : Int32) (σ : St) : Option (Int32 × St) := (if (fX9_isPerson p1 σ) = 0 then some ((-101 : Int32), σ) else (if (fX9_isPerson p2 σ) = 0 then some ((-101 : Int32), σ) else (if (fX9_in p3.toInt64 (0 : Int64) (1 : Int64)) = 0 then some ((-102 : Int32), σ) else (Option.bind (fX9_tellStranger p1 p2 p3 σ) fun q4 => some (q4.1, q4.2)))))
noncomputable def fX9_livesMany_L4 (σ : St) : Nat → Int32 → Int32 → Option (Int32)
  | 0, _, _ => none
  | n + 1, v1, v2 => (if (σ.1 58 20) ≤ v2 then some v1 else (Option.bind (fX9_lives v2 σ) fun q2 => (bnd (if q2 = 0 then (0 : Int32) else (1 : Int32)) fun x4 => fX9_livesMany_L4 σ n (v1 + x4) (v2 + (1 : Int32)))))
noncomputable def fX9_livesMany (σ : St) : Option (Int32) := (Option.bind (fX9_livesMany_L4 σ fu (0 : Int32) (0 : Int32)) fun q6 => some q6)
noncomputable def fX9_copy_L2 (a0 n0 : Nat) (a1 n1 : Nat) (c2 : Int32) : Nat → Int32 → St → Option (St)
  | 0, _, _ => none
  | n + 1, v3, σ => (if c2 ≤ v3 then some σ else (grd (inb v3 n0) (grd (inb v3 n1) (bnd (setI σ a1 v3.toNatClampNeg (σ.1 a0 v3.toNatClampNeg)) fun σ4 => fX9_copy_L2 a0 n0 a1 n1 c2 n (v3 + (1 : Int32)) σ4))))
noncomputable def fX9_copy (a0 n0 : Nat) (a1 n1 : Nat) (p2 : Int32) (σ : St) : Option (St) := (Option.bind (fX9_copy_L2 a0 n0 a1 n1 p2 fu (0 : Int32) σ) fun q5 => some q5)
noncomputable def fX9_drawn_L87 (c1 : Int32) (c3 : Int32) (c4 : Int32) : Nat → Int32 → Int32 → St → Option (Int32 × St)
  | 0, _, _, _ => none
  | n + 1, v5, v6, σ => (if c1 ≤ v6 then some (v5, σ) else (Option.bind (fX9_year (1 : Int32) σ) fun q9 => fX9_drawn_L87 c1 c3 c4 n (v5 + q9.1) (v6 + (1 : Int32)) q9.2))
noncomputable def fX9_drawn (p1 : Int32) (p2 : Int32) (p3 : Int32) (σ : St) : Option (Int32 × St) := (if (fX9_in p1.toInt64 (1 : Int64) (30 : Int64)) = 0 then some ((-102 : Int32), σ) else (if p2 < 0 then some ((-102 : Int32), σ) else (if (fX9_in p3.toInt64 (0 : Int64) (3 : Int64)) = 0 then some ((-102 : Int32), σ) else (Option.bind (fX9_copy 65 64 73 64 (64 : Int32) σ) fun q4 => (Option.bind (fX9_copy 63 64 74 64 (64 : Int32) q4) fun q5 => (Option.bind (fX9_copy 64 8 75 8 (8 : Int32) q5) fun q6 => (bnd (setI q6 58 22 p2) fun σ7 => (Option.bind (fX9_drawn_L87 p1 p3 (q6.1 58 18) fu (0 : Int32) (0 : Int32) σ7) fun q10 => (Option.bind (fX9_livesMany q10.2) fun q11 => (bnd ((q10.2.1 58 18) - (q6.1 58 18)) fun x12 => (Option.bind (fX9_copy 73 64 65 64 (64 : Int32) q10.2) fun q13 => (Option.bind (fX9_copy 74 64 63 64 (64 : Int32) q13) fun q14 => (Option.bind (fX9_copy 75 8 64 8 (8 : Int32) q14) fun q15 => (bnd (setI q15 58 18 (q6.1 58 18)) fun σ16 => (bnd (setI σ16 58 19 ((σ16.1 58 19) - p1)) fun σ17 => (if p3 = 0 then some (q10.1, σ17) else (if p3 = (1 : Int32) then some (q11, σ17) else (if p3 = (2 : Int32) then some (x12, σ17) else some ((σ17.1 58 22), σ17)))))))))))))))))))
noncomputable def fX9_open_L38  : Nat → Int32 → St → Option (St)
  | 0, _, _ => none
  | n + 1, v3, σ => (if (8 : Int32) ≤ v3 then some σ else (grd (inb v3 8) (bnd (setI σ 76 v3.toNatClampNeg (-1 : Int32)) fun σ7 => fX9_open_L38 n (v3 + (1 : Int32)) σ7)))
noncomputable def fX9_open (p1 : Int32) (p2 : Int32) (σ : St) : Option (Int32 × St) := (if (fX9_isPerson p1 σ) = 0 then some ((-101 : Int32), σ) else (if (fX9_in p2.toInt64 (1 : Int64) (7 : Int64)) = 0 then some ((-102 : Int32), σ) else (bnd (setI σ 58 33 p1) fun σ3 => (bnd (setI σ3 58 34 p2) fun σ4 => (Option.bind (fX9_open_L38 fu (0 : Int32) σ4) fun q8 => some ((q8.1 58 12), q8))))))
noncomputable def fX9_isYear (p1 : Int32) (σ : St) : Int32 := (fX9_in p1.toInt64 (1 : Int64) ((σ.1 58 34).toInt64))
noncomputable def fX9_write (p1 : Int32) (p2 : Int32) (σ : St) : Option (Int32 × St) := (if (σ.1 58 33) = (-1 : Int32) then some ((-103 : Int32), σ) else (if (fX9_isYear p1 σ) = 0 then some ((-101 : Int32), σ) else (if p2 = (-1 : Int32) then (grd (inb p1 8) (bnd (σ.1 76 p1.toNatClampNeg) fun x5 => (grd (inb p1 8) (bnd (setI σ 76 p1.toNatClampNeg p2) fun σ7 => some (x5, σ7))))) else (if (fX9_isPerson p2 σ) = 0 then some ((-101 : Int32), σ) else (grd (inb p1 8) (bnd (σ.1 76 p1.toNatClampNeg) fun x10 => (grd (inb p1 8) (bnd (setI σ 76 p1.toNatClampNeg p2) fun σ12 => some (x10, σ12)))))))))
noncomputable def fX9_filledOf_L2  : Nat → Int32 → St → Option (St)
  | 0, _, _ => none
  | n + 1, v1, σ => (if (72 : Int32) ≤ v1 then some σ else (bnd (if v1 = (((9 : Int32) * (σ.1 58 33)) + (8 : Int32)) then (1 : Int64) else (0 : Int64)) fun x3 => (grd (inb v1 72) (bnd (setL σ 67 v1.toNatClampNeg x3) fun σ5 => fX9_filledOf_L2 n (v1 + (1 : Int32)) σ5))))
noncomputable def fX9_filledOf_L51 (c1 : Int32) : Nat → Int32 → St → Option (St)
  | 0, _, _ => none
  | n + 1, v2, σ => (if (72 : Int32) ≤ v2 then some σ else (grd (inb v2 72) (bnd (setL σ 68 v2.toNatClampNeg (0 : Int64)) fun σ11 => fX9_filledOf_L51 c1 n (v2 + (1 : Int32)) σ11)))
noncomputable def fX9_filledOf_L86 (c1 : Int32) (c2 : Int32) (c3 : Int32) : Nat → Int32 → St → Option (St)
  | 0, _, _ => none
  | n + 1, v4, σ => (if (σ.1 58 12) ≤ v4 then some σ else (grd (inb c2 72) (if (lg_cmp (σ.2 67 c2.toNatClampNeg) (0 : Int64)) ≤ 0 then some σ else (grd (inb c3 8) (bnd (if (((σ.1 61 c3.toNatClampNeg) >>> (v4 &&& 31)) &&& (1 : Int32)) = (1 : Int32) then (if v4 = (c2 - c2 / (9 : Int32) * (9 : Int32)) then (0 : Int32) else (if v4 = (σ.1 58 33) then (0 : Int32) else (1 : Int32))) else (0 : Int32)) fun x19 => (Option.bind (if x19 = 0 then some (0 : Int32) else (grd (inb c1 8) (if (σ.1 76 c1.toNatClampNeg) = (-1 : Int32) then some (1 : Int32) else (grd (inb c1 8) (if (σ.1 76 c1.toNatClampNeg) = v4 then some (1 : Int32) else some (0 : Int32)))))) fun q21 => (grd (inb (((9 : Int32) * v4) + c3) 72) (Option.bind (if q21 = 0 then some (0 : Int64) else (grd (inb c2 72) (some (σ.2 67 c2.toNatClampNeg)))) fun q24 => (grd (inb (((9 : Int32) * v4) + c3) 72) (bnd (setL σ 68 (((9 : Int32) * v4) + c3).toNatClampNeg ((σ.2 68 (((9 : Int32) * v4) + c3).toNatClampNeg) + q24)) fun σ26 => fX9_filledOf_L86 c1 c2 c3 n (v4 + (1 : Int32)) σ26))))))))))
noncomputable def fX9_filledOf_L72 (c1 : Int32) : Nat → Int32 → St → Option (St)
  | 0, _, _ => none
  | n + 1, v2, σ => (if (72 : Int32) ≤ v2 then some σ else (Option.bind (fX9_filledOf_L86 c1 v2 (v2 / (9 : Int32)) fu (0 : Int32) σ) fun q39 => fX9_filledOf_L72 c1 n (v2 + (1 : Int32)) q39))
noncomputable def fX9_filledOf_L223 (c1 : Int32) : Nat → Int32 → St → Option (St)
  | 0, _, _ => none
  | n + 1, v2, σ => (if (72 : Int32) ≤ v2 then some σ else (grd (inb v2 72) (grd (inb v2 72) (bnd (setL σ 67 v2.toNatClampNeg (σ.2 68 v2.toNatClampNeg)) fun σ46 => fX9_filledOf_L223 c1 n (v2 + (1 : Int32)) σ46))))
noncomputable def fX9_filledOf_L41  : Nat → Int32 → St → Option (St)
  | 0, _, _ => none
  | n + 1, v1, σ => (if (σ.1 58 34) < v1 then some σ else (Option.bind (fX9_filledOf_L51 v1 fu (0 : Int32) σ) fun q12 => (Option.bind (fX9_filledOf_L72 v1 fu (0 : Int32) q12) fun q42 => (Option.bind (fX9_filledOf_L223 v1 fu (0 : Int32) q42) fun q47 => fX9_filledOf_L41 n (v1 + (1 : Int32)) q47))))
noncomputable def fX9_filledOf_L257 (σ : St) : Nat → Int64 → Int32 → Option (Int64)
  | 0, _, _ => none
  | n + 1, v1, v3 => (if (72 : Int32) ≤ v3 then some v1 else (grd (inb v3 72) (bnd (v1 + (σ.2 67 v3.toNatClampNeg)) fun x57 => fX9_filledOf_L257 σ n x57 (v3 + (1 : Int32)))))
noncomputable def fX9_filledOf (σ : St) : Option (Int32 × St) := (Option.bind (fX9_filledOf_L2 fu (0 : Int32) σ) fun q7 => (Option.bind (fX9_filledOf_L41 fu (1 : Int32) q7) fun q54 => (Option.bind (fX9_filledOf_L257 q54 fu (0 : Int64) (0 : Int32)) fun q58 => some (q58.toInt32, q54))))
noncomputable def fX9_filled (σ : St) : Option (Int32 × St) := (if (σ.1 58 33) = (-1 : Int32) then some ((-103 : Int32), σ) else (Option.bind (fX9_filledOf σ) fun q2 => some (q2.1, q2.2)))
noncomputable def fX9_sure_L37 (c1 : Int32) (c2 : Int32) : Nat → Int32 → Int32 → Int32 → St → Option (Int32 × Int32 × St)
  | 0, _, _, _, _ => none
  | n + 1, v3, v4, v5, σ => (if (σ.1 58 12) ≤ v5 then some (v3, v4, σ) else (grd (inb c1 8) (bnd (setI σ 76 c1.toNatClampNeg v5) fun σ7 => (Option.bind (if c2 = (-1 : Int32) then (Option.bind (fX9_filledOf σ7) fun q18 => (if q18.1 ≤ 0 then some ((0 : Int32), q18.2) else some ((1 : Int32), q18.2))) else (if c2 = v5 then (Option.bind (fX9_filledOf σ7) fun q21 => (if q21.1 ≤ 0 then some ((0 : Int32), q21.2) else some ((1 : Int32), q21.2))) else some ((0 : Int32), σ7))) fun q9 => (bnd (if q9.1 = 0 then v3 else v5) fun x11 => (bnd (if q9.1 = 0 then (0 : Int32) else (1 : Int32)) fun x13 => fX9_sure_L37 c1 c2 n x11 (v4 + x13) (v5 + (1 : Int32)) q9.2))))))
noncomputable def fX9_sure (p1 : Int32) (σ : St) : Option (Int32 × St) := (if (σ.1 58 33) = (-1 : Int32) then some ((-103 : Int32), σ) else (if (fX9_isYear p1 σ) = 0 then some ((-101 : Int32), σ) else (grd (inb p1 8) (bnd (σ.1 76 p1.toNatClampNeg) fun x4 => (Option.bind (fX9_sure_L37 p1 x4 fu (-1 : Int32) (0 : Int32) (0 : Int32) σ) fun q23 => (grd (inb p1 8) (bnd (setI q23.2.2 76 p1.toNatClampNeg x4) fun σ25 => (if q23.2.1 = (1 : Int32) then some (q23.1, σ25) else some ((-1 : Int32), σ25)))))))))
noncomputable def fX9_image (σ : St) : Option (Int32 × St) := (Option.bind (fX9_copy 65 64 77 64 (64 : Int32) σ) fun q1 => (Option.bind (fX9_copy 63 64 78 64 (64 : Int32) q1) fun q2 => (Option.bind (fX9_copy 62 64 79 64 (64 : Int32) q2) fun q3 => (Option.bind (fX9_copy 61 8 80 8 (8 : Int32) q3) fun q4 => (Option.bind (fX9_copy 64 8 81 8 (8 : Int32) q4) fun q5 => (bnd (setI q5 58 36 (q5.1 58 20)) fun σ6 => (bnd (setI σ6 58 37 (σ6.1 58 12)) fun σ7 => (bnd (setI σ7 58 38 (σ7.1 58 18)) fun σ8 => (bnd (setI σ8 58 39 (σ8.1 58 19)) fun σ9 => some ((σ9.1 58 20), σ9))))))))))
noncomputable def fX9_restore (σ : St) : Option (Int32 × St) := (if (σ.1 58 36) = (-1 : Int32) then some ((-103 : Int32), σ) else (if (σ.1 58 37) = (σ.1 58 12) then (Option.bind (fX9_copy 77 64 65 64 (64 : Int32) σ) fun q3 => (Option.bind (fX9_copy 78 64 63 64 (64 : Int32) q3) fun q4 => (Option.bind (fX9_copy 79 64 62 64 (64 : Int32) q4) fun q5 => (Option.bind (fX9_copy 80 8 61 8 (8 : Int32) q5) fun q6 => (Option.bind (fX9_copy 81 8 64 8 (8 : Int32) q6) fun q7 => (bnd (setI q7 58 20 (q7.1 58 36)) fun σ8 => (bnd (setI σ8 58 18 (σ8.1 58 38)) fun σ9 => (bnd (setI σ9 58 19 (σ9.1 58 39)) fun σ10 => some ((σ10.1 58 20), σ10))))))))) else some ((-103 : Int32), σ)))
noncomputable def fX9_countOf (p1 : Int32) (σ : St) : Option (Int32) := (if p1 = (0 : Int32) then some (σ.1 58 12) else (if p1 = (1 : Int32) then some (σ.1 58 20) else (if p1 = (2 : Int32) then (Option.bind (fX9_livesMany σ) fun q4 => some q4) else (if p1 = (3 : Int32) then some (σ.1 58 19) else (if p1 = (4 : Int32) then some (σ.1 58 18) else (if p1 = (5 : Int32) then some (σ.1 58 1) else (if p1 = (6 : Int32) then some (σ.1 58 6) else some (-102 : Int32))))))))
noncomputable def fX9_count (p1 : Int32) (σ : St) : Option (Int32) := (Option.bind (fX9_countOf p1 σ) fun q1 => some q1)
noncomputable def fX9_say (p1 : Int64) (σ : St) : Option (St) := (bnd (setL σ 58 45 (((31 : Int64) * (σ.2 58 45)) + p1)) fun σ1 => some σ1)
noncomputable def fX9_sayGift_L2 (c1 : Int32) : Nat → Int32 → St → Option (St)
  | 0, _, _ => none
  | n + 1, v2, σ => (if (9 : Int32) ≤ v2 then some σ else (Option.bind (fX9_tellGift c1 v2 σ) fun q2 => (Option.bind (fX9_say q2.toInt64 σ) fun q3 => fX9_sayGift_L2 c1 n (v2 + (1 : Int32)) q3)))
noncomputable def fX9_sayGift (p1 : Int32) (σ : St) : Option (St) := (Option.bind (fX9_sayGift_L2 p1 fu (0 : Int32) σ) fun q4 => (Option.bind (fX9_lives p1 q4) fun q5 => (if q5 = 0 then some q4 else (Option.bind (fX9_mayOf p1 q4) fun q7 => (Option.bind (fX9_say q7.toInt64 q4) fun q8 => (Option.bind (fX9_soonestOf p1 q8) fun q9 => (Option.bind (fX9_say q9.1.toInt64 q9.2) fun q10 => some q10)))))))
noncomputable def fX9_digest_L9  : Nat → Int32 → St → Option (St)
  | 0, _, _ => none
  | n + 1, v1, σ => (if (4 : Int32) ≤ v1 then some σ else (Option.bind (fX9_say ((fX9_tellLaw v1 σ).toInt64) σ) fun q3 => fX9_digest_L9 n (v1 + (1 : Int32)) q3))
noncomputable def fX9_digest_L42 (c1 : Int32) : Nat → Int32 → St → Option (St)
  | 0, _, _ => none
  | n + 1, v2, σ => (if (4 : Int32) ≤ v2 then some σ else (Option.bind (fX9_tellPerson c1 v2 σ) fun q7 => (Option.bind (fX9_say q7.toInt64 σ) fun q8 => fX9_digest_L42 c1 n (v2 + (1 : Int32)) q8)))
noncomputable def fX9_digest_L32  : Nat → Int32 → St → Option (St)
  | 0, _, _ => none
  | n + 1, v1, σ => (if (σ.1 58 12) ≤ v1 then some σ else (Option.bind (fX9_digest_L42 v1 fu (0 : Int32) σ) fun q9 => (Option.bind (fX9_restOf v1 q9) fun q10 => (Option.bind (fX9_say q10.toInt64 q9) fun q11 => fX9_digest_L32 n (v1 + (1 : Int32)) q11))))
noncomputable def fX9_digest_L82  : Nat → Int32 → St → Option (St)
  | 0, _, _ => none
  | n + 1, v1, σ => (if (σ.1 58 20) ≤ v1 then some σ else (Option.bind (fX9_sayGift v1 σ) fun q16 => fX9_digest_L82 n (v1 + (1 : Int32)) q16))
noncomputable def fX9_digest_L149  : Nat → Int32 → St → Option (St)
  | 0, _, _ => none
  | n + 1, v1, σ => (if (σ.1 58 1) ≤ v1 then some σ else (grd (inb v1 16) (Option.bind (fX9_say ((σ.1 59 v1.toNatClampNeg).toInt64) σ) fun q28 => fX9_digest_L149 n (v1 + (1 : Int32)) q28)))
noncomputable def fX9_digest_L176  : Nat → Int32 → St → Option (St)
  | 0, _, _ => none
  | n + 1, v1, σ => (if (7 : Int32) ≤ v1 then some σ else (Option.bind (fX9_countOf v1 σ) fun q31 => (Option.bind (fX9_say q31.toInt64 σ) fun q32 => fX9_digest_L176 n (v1 + (1 : Int32)) q32)))
noncomputable def fX9_digest (σ : St) : Option (Int64 × St) := (bnd (setL σ 58 45 (607 : Int64)) fun σ1 => (Option.bind (fX9_digest_L9 fu (0 : Int32) σ1) fun q4 => (Option.bind (fX9_digest_L32 fu (0 : Int32) q4) fun q14 => (Option.bind (fX9_digest_L82 fu (0 : Int32) q14) fun q17 => (Option.bind (fX9_trapsOf q17) fun q18 => (Option.bind (fX9_say q18.toInt64 q17) fun q19 => (Option.bind (fX9_tellRound (0 : Int32) q19) fun q20 => (Option.bind (fX9_say q20.1.toInt64 q20.2) fun q21 => (Option.bind (fX9_tellRound (1 : Int32) q21) fun q22 => (Option.bind (fX9_say q22.1.toInt64 q22.2) fun q23 => (Option.bind (if (q23.1 58 33) = (-1 : Int32) then some q23 else (Option.bind (fX9_filledOf q23) fun q40 => (Option.bind (fX9_say q40.1.toInt64 q40.2) fun q41 => some q41))) fun q25 => (Option.bind (fX9_digest_L149 fu (0 : Int32) q25) fun q29 => (Option.bind (fX9_digest_L176 fu (0 : Int32) q29) fun q33 => some ((q33.2 58 45), q33))))))))))))))
end
