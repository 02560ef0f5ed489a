/-- a private method of a class that the tables say can be made, by its rows of tables_1 -/
def lw_okq (q : MethodName × Nat) : Prop := (q.1.cls ≠ "java/lang/invoke/MethodHandle" ∧ q.1.cls ≠ "java/lang/invoke/VarHandle") ∧ Cond.instantiable q.1.cls q.2 ∈ tables_1 ∧ Cond.privateMethod q.1 ∈ tables_1 ∧ Cond.instanceMethod q.1 ∈ tables_1
theorem lw_p0 : lw_okq (⟨"ToolShed", "changed", "(I)I"⟩, 4) := ⟨⟨by decide +kernel, by decide +kernel⟩, List.mem_of_getElem? (i := 15) (by decide +kernel), List.mem_of_getElem? (i := 307) (by decide +kernel), List.mem_of_getElem? (i := 308) (by decide +kernel)⟩
theorem lw_p1 : lw_okq (⟨"ToolShed$Members", "putBehindTurns", "(I)V"⟩, 5) := ⟨⟨by decide +kernel, by decide +kernel⟩, List.mem_of_getElem? (i := 29) (by decide +kernel), List.mem_of_getElem? (i := 324) (by decide +kernel), List.mem_of_getElem? (i := 325) (by decide +kernel)⟩
theorem lw_p2 : lw_okq (⟨"ToolShed$Shed", "isBound", "(I)Z"⟩, 5) := ⟨⟨by decide +kernel, by decide +kernel⟩, List.mem_of_getElem? (i := 23) (by decide +kernel), List.mem_of_getElem? (i := 360) (by decide +kernel), List.mem_of_getElem? (i := 361) (by decide +kernel)⟩
theorem lw_p3 : lw_okq (⟨"ToolShed$Members", "takeOutOfTurns", "(I)V"⟩, 5) := ⟨⟨by decide +kernel, by decide +kernel⟩, List.mem_of_getElem? (i := 29) (by decide +kernel), List.mem_of_getElem? (i := 389) (by decide +kernel), List.mem_of_getElem? (i := 390) (by decide +kernel)⟩
theorem lw_p4 : lw_okq (⟨"ToolShed$Member", "payOpen", "(I)V"⟩, 1) := ⟨⟨by decide +kernel, by decide +kernel⟩, List.mem_of_getElem? (i := 36) (by decide +kernel), List.mem_of_getElem? (i := 406) (by decide +kernel), List.mem_of_getElem? (i := 407) (by decide +kernel)⟩
theorem lw_p5 : lw_okq (⟨"ToolShed$Shed", "toolsOfMember", "(IZ)I"⟩, 5) := ⟨⟨by decide +kernel, by decide +kernel⟩, List.mem_of_getElem? (i := 23) (by decide +kernel), List.mem_of_getElem? (i := 442) (by decide +kernel), List.mem_of_getElem? (i := 443) (by decide +kernel)⟩
theorem lw_p6 : lw_okq (⟨"ToolShed$Members", "debtorsAheadOf", "(I)I"⟩, 5) := ⟨⟨by decide +kernel, by decide +kernel⟩, List.mem_of_getElem? (i := 29) (by decide +kernel), List.mem_of_getElem? (i := 463) (by decide +kernel), List.mem_of_getElem? (i := 464) (by decide +kernel)⟩
theorem lw_p7 : lw_okq (⟨"ToolShed$Shed", "isHook", "(II)Z"⟩, 5) := ⟨⟨by decide +kernel, by decide +kernel⟩, List.mem_of_getElem? (i := 23) (by decide +kernel), List.mem_of_getElem? (i := 488) (by decide +kernel), List.mem_of_getElem? (i := 489) (by decide +kernel)⟩
theorem lw_p8 : lw_okq (⟨"ToolShed$Shed", "countTaken", "(I)I"⟩, 5) := ⟨⟨by decide +kernel, by decide +kernel⟩, List.mem_of_getElem? (i := 23) (by decide +kernel), List.mem_of_getElem? (i := 501) (by decide +kernel), List.mem_of_getElem? (i := 502) (by decide +kernel)⟩
theorem lw_p9 : lw_okq (⟨"ToolShed$Shed", "cuttersAheadOf", "(I)I"⟩, 5) := ⟨⟨by decide +kernel, by decide +kernel⟩, List.mem_of_getElem? (i := 23) (by decide +kernel), List.mem_of_getElem? (i := 622) (by decide +kernel), List.mem_of_getElem? (i := 623) (by decide +kernel)⟩
theorem lw_p10 : lw_okq (⟨"ToolShed$Members", "nextForPanel", "(II)I"⟩, 5) := ⟨⟨by decide +kernel, by decide +kernel⟩, List.mem_of_getElem? (i := 29) (by decide +kernel), List.mem_of_getElem? (i := 669) (by decide +kernel), List.mem_of_getElem? (i := 670) (by decide +kernel)⟩
theorem lw_p11 : lw_okq (⟨"ToolShed$Shed", "settleLoss", "(LToolShed$Tool;I)V"⟩, 5) := ⟨⟨by decide +kernel, by decide +kernel⟩, List.mem_of_getElem? (i := 23) (by decide +kernel), List.mem_of_getElem? (i := 705) (by decide +kernel), List.mem_of_getElem? (i := 706) (by decide +kernel)⟩
theorem lw_p12 : lw_okq (⟨"ToolShed$Shed", "beginDay", "()V"⟩, 5) := ⟨⟨by decide +kernel, by decide +kernel⟩, List.mem_of_getElem? (i := 23) (by decide +kernel), List.mem_of_getElem? (i := 801) (by decide +kernel), List.mem_of_getElem? (i := 802) (by decide +kernel)⟩
theorem lw_p13 : lw_okq (⟨"ToolShed$Shed", "countAtPlace", "(I)I"⟩, 5) := ⟨⟨by decide +kernel, by decide +kernel⟩, List.mem_of_getElem? (i := 23) (by decide +kernel), List.mem_of_getElem? (i := 822) (by decide +kernel), List.mem_of_getElem? (i := 823) (by decide +kernel)⟩
theorem lw_p14 : lw_okq (⟨"ToolShed$Shed", "countProposals", "()I"⟩, 5) := ⟨⟨by decide +kernel, by decide +kernel⟩, List.mem_of_getElem? (i := 23) (by decide +kernel), List.mem_of_getElem? (i := 826) (by decide +kernel), List.mem_of_getElem? (i := 827) (by decide +kernel)⟩
theorem lw_p15 : lw_okq (⟨"ToolShed$Orders", "runOrder", "(LToolShed$Shed;)I"⟩, 6) := ⟨⟨by decide +kernel, by decide +kernel⟩, List.mem_of_getElem? (i := 220) (by decide +kernel), List.mem_of_getElem? (i := 867) (by decide +kernel), List.mem_of_getElem? (i := 868) (by decide +kernel)⟩
def lw_privs_1 : List (MethodName × Nat) := [(⟨"ToolShed", "changed", "(I)I"⟩, 4), (⟨"ToolShed$Members", "putBehindTurns", "(I)V"⟩, 5), (⟨"ToolShed$Shed", "isBound", "(I)Z"⟩, 5), (⟨"ToolShed$Members", "takeOutOfTurns", "(I)V"⟩, 5), (⟨"ToolShed$Member", "payOpen", "(I)V"⟩, 1), (⟨"ToolShed$Shed", "toolsOfMember", "(IZ)I"⟩, 5), (⟨"ToolShed$Members", "debtorsAheadOf", "(I)I"⟩, 5), (⟨"ToolShed$Shed", "isHook", "(II)Z"⟩, 5), (⟨"ToolShed$Shed", "countTaken", "(I)I"⟩, 5), (⟨"ToolShed$Shed", "cuttersAheadOf", "(I)I"⟩, 5), (⟨"ToolShed$Members", "nextForPanel", "(II)I"⟩, 5), (⟨"ToolShed$Shed", "settleLoss", "(LToolShed$Tool;I)V"⟩, 5), (⟨"ToolShed$Shed", "beginDay", "()V"⟩, 5), (⟨"ToolShed$Shed", "countAtPlace", "(I)I"⟩, 5), (⟨"ToolShed$Shed", "countProposals", "()I"⟩, 5), (⟨"ToolShed$Orders", "runOrder", "(LToolShed$Shed;)I"⟩, 6)]
theorem lw_r1 : ∀ q ∈ lw_privs_1, lw_okq q := List.forall_mem_cons.mpr ⟨lw_p0, List.forall_mem_cons.mpr ⟨lw_p1, List.forall_mem_cons.mpr ⟨lw_p2, List.forall_mem_cons.mpr ⟨lw_p3, List.forall_mem_cons.mpr ⟨lw_p4, List.forall_mem_cons.mpr ⟨lw_p5, List.forall_mem_cons.mpr ⟨lw_p6, List.forall_mem_cons.mpr ⟨lw_p7, List.forall_mem_cons.mpr ⟨lw_p8, List.forall_mem_cons.mpr ⟨lw_p9, List.forall_mem_cons.mpr ⟨lw_p10, List.forall_mem_cons.mpr ⟨lw_p11, List.forall_mem_cons.mpr ⟨lw_p12, List.forall_mem_cons.mpr ⟨lw_p13, List.forall_mem_cons.mpr ⟨lw_p14, List.forall_mem_cons.mpr ⟨lw_p15, fun _ h => absurd h List.not_mem_nil⟩⟩⟩⟩⟩⟩⟩⟩⟩⟩⟩⟩⟩⟩⟩⟩
theorem lw_p16 : lw_okq (⟨"ToolShed$Orders", "peek", "()C"⟩, 6) := ⟨⟨by decide +kernel, by decide +kernel⟩, List.mem_of_getElem? (i := 220) (by decide +kernel), List.mem_of_getElem? (i := 871) (by decide +kernel), List.mem_of_getElem? (i := 872) (by decide +kernel)⟩
theorem lw_p17 : lw_okq (⟨"ToolShed$Orders", "readNumber", "()I"⟩, 6) := ⟨⟨by decide +kernel, by decide +kernel⟩, List.mem_of_getElem? (i := 220) (by decide +kernel), List.mem_of_getElem? (i := 875) (by decide +kernel), List.mem_of_getElem? (i := 876) (by decide +kernel)⟩
theorem lw_p18 : lw_okq (⟨"ToolShed$Orders", "takes", "(C)Z"⟩, 6) := ⟨⟨by decide +kernel, by decide +kernel⟩, List.mem_of_getElem? (i := 220) (by decide +kernel), List.mem_of_getElem? (i := 880) (by decide +kernel), List.mem_of_getElem? (i := 881) (by decide +kernel)⟩
theorem lw_p19 : lw_okq (⟨"ToolShed$Orders", "carryOut", "(LToolShed$Shed;CII)I"⟩, 6) := ⟨⟨by decide +kernel, by decide +kernel⟩, List.mem_of_getElem? (i := 220) (by decide +kernel), List.mem_of_getElem? (i := 884) (by decide +kernel), List.mem_of_getElem? (i := 885) (by decide +kernel)⟩
theorem lw_p20 : lw_okq (⟨"ToolShedModel", "hold", "()V"⟩, 14) := ⟨⟨by decide +kernel, by decide +kernel⟩, List.mem_of_getElem? (i := 901) (by decide +kernel), List.mem_of_getElem? (i := 961) (by decide +kernel), List.mem_of_getElem? (i := 962) (by decide +kernel)⟩
theorem lw_p21 : lw_okq (⟨"ToolShedModel", "ends", "(I)I"⟩, 14) := ⟨⟨by decide +kernel, by decide +kernel⟩, List.mem_of_getElem? (i := 901) (by decide +kernel), List.mem_of_getElem? (i := 968) (by decide +kernel), List.mem_of_getElem? (i := 969) (by decide +kernel)⟩
theorem lw_p22 : lw_okq (⟨"ToolShedModel", "isMember", "(I)Z"⟩, 14) := ⟨⟨by decide +kernel, by decide +kernel⟩, List.mem_of_getElem? (i := 901) (by decide +kernel), List.mem_of_getElem? (i := 982) (by decide +kernel), List.mem_of_getElem? (i := 983) (by decide +kernel)⟩
theorem lw_p23 : lw_okq (⟨"ToolShedModel", "of", "(II)I"⟩, 14) := ⟨⟨by decide +kernel, by decide +kernel⟩, List.mem_of_getElem? (i := 901) (by decide +kernel), List.mem_of_getElem? (i := 986) (by decide +kernel), List.mem_of_getElem? (i := 987) (by decide +kernel)⟩
theorem lw_p24 : lw_okq (⟨"ToolShedModel", "toolsOf", "(IZ)I"⟩, 14) := ⟨⟨by decide +kernel, by decide +kernel⟩, List.mem_of_getElem? (i := 901) (by decide +kernel), List.mem_of_getElem? (i := 995) (by decide +kernel), List.mem_of_getElem? (i := 996) (by decide +kernel)⟩
theorem lw_p25 : lw_okq (⟨"ToolShedModel", "its", "(II)I"⟩, 14) := ⟨⟨by decide +kernel, by decide +kernel⟩, List.mem_of_getElem? (i := 901) (by decide +kernel), List.mem_of_getElem? (i := 999) (by decide +kernel), List.mem_of_getElem? (i := 1000) (by decide +kernel)⟩
theorem lw_p26 : lw_okq (⟨"ToolShedModel", "openOf", "(I)I"⟩, 14) := ⟨⟨by decide +kernel, by decide +kernel⟩, List.mem_of_getElem? (i := 901) (by decide +kernel), List.mem_of_getElem? (i := 1003) (by decide +kernel), List.mem_of_getElem? (i := 1004) (by decide +kernel)⟩
theorem lw_p27 : lw_okq (⟨"ToolShedModel", "isInPanel", "(I)Z"⟩, 14) := ⟨⟨by decide +kernel, by decide +kernel⟩, List.mem_of_getElem? (i := 901) (by decide +kernel), List.mem_of_getElem? (i := 1007) (by decide +kernel), List.mem_of_getElem? (i := 1008) (by decide +kernel)⟩
theorem lw_p28 : lw_okq (⟨"ToolShedModel", "placeIn", "(II)I"⟩, 14) := ⟨⟨by decide +kernel, by decide +kernel⟩, List.mem_of_getElem? (i := 901) (by decide +kernel), List.mem_of_getElem? (i := 1011) (by decide +kernel), List.mem_of_getElem? (i := 1012) (by decide +kernel)⟩
theorem lw_p29 : lw_okq (⟨"ToolShedModel", "sharing", "(I)I"⟩, 14) := ⟨⟨by decide +kernel, by decide +kernel⟩, List.mem_of_getElem? (i := 901) (by decide +kernel), List.mem_of_getElem? (i := 1015) (by decide +kernel), List.mem_of_getElem? (i := 1016) (by decide +kernel)⟩
theorem lw_p30 : lw_okq (⟨"ToolShedModel", "shares", "(II)Z"⟩, 14) := ⟨⟨by decide +kernel, by decide +kernel⟩, List.mem_of_getElem? (i := 901) (by decide +kernel), List.mem_of_getElem? (i := 1019) (by decide +kernel), List.mem_of_getElem? (i := 1020) (by decide +kernel)⟩
theorem lw_p31 : lw_okq (⟨"ToolShedModel", "outOfTurns", "(I)V"⟩, 14) := ⟨⟨by decide +kernel, by decide +kernel⟩, List.mem_of_getElem? (i := 901) (by decide +kernel), List.mem_of_getElem? (i := 1023) (by decide +kernel), List.mem_of_getElem? (i := 1024) (by decide +kernel)⟩
def lw_privs_2 : List (MethodName × Nat) := [(⟨"ToolShed$Orders", "peek", "()C"⟩, 6), (⟨"ToolShed$Orders", "readNumber", "()I"⟩, 6), (⟨"ToolShed$Orders", "takes", "(C)Z"⟩, 6), (⟨"ToolShed$Orders", "carryOut", "(LToolShed$Shed;CII)I"⟩, 6), (⟨"ToolShedModel", "hold", "()V"⟩, 14), (⟨"ToolShedModel", "ends", "(I)I"⟩, 14), (⟨"ToolShedModel", "isMember", "(I)Z"⟩, 14), (⟨"ToolShedModel", "of", "(II)I"⟩, 14), (⟨"ToolShedModel", "toolsOf", "(IZ)I"⟩, 14), (⟨"ToolShedModel", "its", "(II)I"⟩, 14), (⟨"ToolShedModel", "openOf", "(I)I"⟩, 14), (⟨"ToolShedModel", "isInPanel", "(I)Z"⟩, 14), (⟨"ToolShedModel", "placeIn", "(II)I"⟩, 14), (⟨"ToolShedModel", "sharing", "(I)I"⟩, 14), (⟨"ToolShedModel", "shares", "(II)Z"⟩, 14), (⟨"ToolShedModel", "outOfTurns", "(I)V"⟩, 14)]
theorem lw_r2 : ∀ q ∈ lw_privs_2, lw_okq q := List.forall_mem_cons.mpr ⟨lw_p16, List.forall_mem_cons.mpr ⟨lw_p17, List.forall_mem_cons.mpr ⟨lw_p18, List.forall_mem_cons.mpr ⟨lw_p19, List.forall_mem_cons.mpr ⟨lw_p20, List.forall_mem_cons.mpr ⟨lw_p21, List.forall_mem_cons.mpr ⟨lw_p22, List.forall_mem_cons.mpr ⟨lw_p23, List.forall_mem_cons.mpr ⟨lw_p24, List.forall_mem_cons.mpr ⟨lw_p25, List.forall_mem_cons.mpr ⟨lw_p26, List.forall_mem_cons.mpr ⟨lw_p27, List.forall_mem_cons.mpr ⟨lw_p28, List.forall_mem_cons.mpr ⟨lw_p29, List.forall_mem_cons.mpr ⟨lw_p30, List.forall_mem_cons.mpr ⟨lw_p31, fun _ h => absurd h List.not_mem_nil⟩⟩⟩⟩⟩⟩⟩⟩⟩⟩⟩⟩⟩⟩⟩⟩
theorem lw_p32 : lw_okq (⟨"ToolShedModel", "turnOf", "(I)I"⟩, 14) := ⟨⟨by decide +kernel, by decide +kernel⟩, List.mem_of_getElem? (i := 901) (by decide +kernel), List.mem_of_getElem? (i := 1027) (by decide +kernel), List.mem_of_getElem? (i := 1028) (by decide +kernel)⟩
theorem lw_p33 : lw_okq (⟨"ToolShedModel", "more", "(III)V"⟩, 14) := ⟨⟨by decide +kernel, by decide +kernel⟩, List.mem_of_getElem? (i := 901) (by decide +kernel), List.mem_of_getElem? (i := 1031) (by decide +kernel), List.mem_of_getElem? (i := 1032) (by decide +kernel)⟩
theorem lw_p34 : lw_okq (⟨"ToolShedModel", "shared", "(III)V"⟩, 14) := ⟨⟨by decide +kernel, by decide +kernel⟩, List.mem_of_getElem? (i := 901) (by decide +kernel), List.mem_of_getElem? (i := 1035) (by decide +kernel), List.mem_of_getElem? (i := 1036) (by decide +kernel)⟩
theorem lw_p35 : lw_okq (⟨"ToolShedModel", "gains", "(III)V"⟩, 14) := ⟨⟨by decide +kernel, by decide +kernel⟩, List.mem_of_getElem? (i := 901) (by decide +kernel), List.mem_of_getElem? (i := 1039) (by decide +kernel), List.mem_of_getElem? (i := 1040) (by decide +kernel)⟩
theorem lw_p36 : lw_okq (⟨"ToolShedModel", "charges", "(III)V"⟩, 14) := ⟨⟨by decide +kernel, by decide +kernel⟩, List.mem_of_getElem? (i := 901) (by decide +kernel), List.mem_of_getElem? (i := 1043) (by decide +kernel), List.mem_of_getElem? (i := 1044) (by decide +kernel)⟩
theorem lw_p37 : lw_okq (⟨"ToolShedModel", "noGift", "(II)I"⟩, 14) := ⟨⟨by decide +kernel, by decide +kernel⟩, List.mem_of_getElem? (i := 901) (by decide +kernel), List.mem_of_getElem? (i := 1051) (by decide +kernel), List.mem_of_getElem? (i := 1052) (by decide +kernel)⟩
theorem lw_p38 : lw_okq (⟨"ToolShedModel", "lay", "(III)V"⟩, 14) := ⟨⟨by decide +kernel, by decide +kernel⟩, List.mem_of_getElem? (i := 901) (by decide +kernel), List.mem_of_getElem? (i := 1071) (by decide +kernel), List.mem_of_getElem? (i := 1072) (by decide +kernel)⟩
theorem lw_p39 : lw_okq (⟨"ToolShedModel", "isTool", "(I)Z"⟩, 14) := ⟨⟨by decide +kernel, by decide +kernel⟩, List.mem_of_getElem? (i := 901) (by decide +kernel), List.mem_of_getElem? (i := 1092) (by decide +kernel), List.mem_of_getElem? (i := 1093) (by decide +kernel)⟩
theorem lw_p40 : lw_okq (⟨"ToolShedModel", "onHook", "(I)I"⟩, 14) := ⟨⟨by decide +kernel, by decide +kernel⟩, List.mem_of_getElem? (i := 901) (by decide +kernel), List.mem_of_getElem? (i := 1096) (by decide +kernel), List.mem_of_getElem? (i := 1097) (by decide +kernel)⟩
theorem lw_p41 : lw_okq (⟨"ToolShedModel", "onWall", "(I)I"⟩, 14) := ⟨⟨by decide +kernel, by decide +kernel⟩, List.mem_of_getElem? (i := 901) (by decide +kernel), List.mem_of_getElem? (i := 1100) (by decide +kernel), List.mem_of_getElem? (i := 1101) (by decide +kernel)⟩
theorem lw_p42 : lw_okq (⟨"ToolShedModel", "noLoan", "(II)I"⟩, 14) := ⟨⟨by decide +kernel, by decide +kernel⟩, List.mem_of_getElem? (i := 901) (by decide +kernel), List.mem_of_getElem? (i := 1108) (by decide +kernel), List.mem_of_getElem? (i := 1109) (by decide +kernel)⟩
theorem lw_p43 : lw_okq (⟨"ToolShedModel", "borrows", "(II)V"⟩, 14) := ⟨⟨by decide +kernel, by decide +kernel⟩, List.mem_of_getElem? (i := 901) (by decide +kernel), List.mem_of_getElem? (i := 1112) (by decide +kernel), List.mem_of_getElem? (i := 1113) (by decide +kernel)⟩
theorem lw_p44 : lw_okq (⟨"ToolShedModel", "goesOut", "(IIII)V"⟩, 14) := ⟨⟨by decide +kernel, by decide +kernel⟩, List.mem_of_getElem? (i := 901) (by decide +kernel), List.mem_of_getElem? (i := 1116) (by decide +kernel), List.mem_of_getElem? (i := 1117) (by decide +kernel)⟩
theorem lw_p45 : lw_okq (⟨"ToolShedModel", "noReturn", "(I)I"⟩, 14) := ⟨⟨by decide +kernel, by decide +kernel⟩, List.mem_of_getElem? (i := 901) (by decide +kernel), List.mem_of_getElem? (i := 1124) (by decide +kernel), List.mem_of_getElem? (i := 1125) (by decide +kernel)⟩
theorem lw_p46 : lw_okq (⟨"ToolShedModel", "returned", "(I)I"⟩, 14) := ⟨⟨by decide +kernel, by decide +kernel⟩, List.mem_of_getElem? (i := 901) (by decide +kernel), List.mem_of_getElem? (i := 1128) (by decide +kernel), List.mem_of_getElem? (i := 1129) (by decide +kernel)⟩
theorem lw_p47 : lw_okq (⟨"ToolShedModel", "daysOut", "(I)I"⟩, 14) := ⟨⟨by decide +kernel, by decide +kernel⟩, List.mem_of_getElem? (i := 901) (by decide +kernel), List.mem_of_getElem? (i := 1132) (by decide +kernel), List.mem_of_getElem? (i := 1133) (by decide +kernel)⟩
def lw_privs_3 : List (MethodName × Nat) := [(⟨"ToolShedModel", "turnOf", "(I)I"⟩, 14), (⟨"ToolShedModel", "more", "(III)V"⟩, 14), (⟨"ToolShedModel", "shared", "(III)V"⟩, 14), (⟨"ToolShedModel", "gains", "(III)V"⟩, 14), (⟨"ToolShedModel", "charges", "(III)V"⟩, 14), (⟨"ToolShedModel", "noGift", "(II)I"⟩, 14), (⟨"ToolShedModel", "lay", "(III)V"⟩, 14), (⟨"ToolShedModel", "isTool", "(I)Z"⟩, 14), (⟨"ToolShedModel", "onHook", "(I)I"⟩, 14), (⟨"ToolShedModel", "onWall", "(I)I"⟩, 14), (⟨"ToolShedModel", "noLoan", "(II)I"⟩, 14), (⟨"ToolShedModel", "borrows", "(II)V"⟩, 14), (⟨"ToolShedModel", "goesOut", "(IIII)V"⟩, 14), (⟨"ToolShedModel", "noReturn", "(I)I"⟩, 14), (⟨"ToolShedModel", "returned", "(I)I"⟩, 14), (⟨"ToolShedModel", "daysOut", "(I)I"⟩, 14)]
theorem lw_r3 : ∀ q ∈ lw_privs_3, lw_okq q := List.forall_mem_cons.mpr ⟨lw_p32, List.forall_mem_cons.mpr ⟨lw_p33, List.forall_mem_cons.mpr ⟨lw_p34, List.forall_mem_cons.mpr ⟨lw_p35, List.forall_mem_cons.mpr ⟨lw_p36, List.forall_mem_cons.mpr ⟨lw_p37, List.forall_mem_cons.mpr ⟨lw_p38, List.forall_mem_cons.mpr ⟨lw_p39, List.forall_mem_cons.mpr ⟨lw_p40, List.forall_mem_cons.mpr ⟨lw_p41, List.forall_mem_cons.mpr ⟨lw_p42, List.forall_mem_cons.mpr ⟨lw_p43, List.forall_mem_cons.mpr ⟨lw_p44, List.forall_mem_cons.mpr ⟨lw_p45, List.forall_mem_cons.mpr ⟨lw_p46, List.forall_mem_cons.mpr ⟨lw_p47, fun _ h => absurd h List.not_mem_nil⟩⟩⟩⟩⟩⟩⟩⟩⟩⟩⟩⟩⟩⟩⟩⟩
theorem lw_p48 : lw_okq (⟨"ToolShedModel", "duller", "(II)F"⟩, 14) := ⟨⟨by decide +kernel, by decide +kernel⟩, List.mem_of_getElem? (i := 901) (by decide +kernel), List.mem_of_getElem? (i := 1136) (by decide +kernel), List.mem_of_getElem? (i := 1137) (by decide +kernel)⟩
theorem lw_p49 : lw_okq (⟨"ToolShedModel", "isOut", "(I)Z"⟩, 14) := ⟨⟨by decide +kernel, by decide +kernel⟩, List.mem_of_getElem? (i := 901) (by decide +kernel), List.mem_of_getElem? (i := 1151) (by decide +kernel), List.mem_of_getElem? (i := 1152) (by decide +kernel)⟩
theorem lw_p50 : lw_okq (⟨"ToolShedModel", "whoSharpens", "()I"⟩, 14) := ⟨⟨by decide +kernel, by decide +kernel⟩, List.mem_of_getElem? (i := 901) (by decide +kernel), List.mem_of_getElem? (i := 1180) (by decide +kernel), List.mem_of_getElem? (i := 1181) (by decide +kernel)⟩
theorem lw_p51 : lw_okq (⟨"ToolShedModel", "dullest", "()I"⟩, 14) := ⟨⟨by decide +kernel, by decide +kernel⟩, List.mem_of_getElem? (i := 901) (by decide +kernel), List.mem_of_getElem? (i := 1184) (by decide +kernel), List.mem_of_getElem? (i := 1185) (by decide +kernel)⟩
theorem lw_p52 : lw_okq (⟨"ToolShedModel", "isCutter", "(I)Z"⟩, 14) := ⟨⟨by decide +kernel, by decide +kernel⟩, List.mem_of_getElem? (i := 901) (by decide +kernel), List.mem_of_getElem? (i := 1188) (by decide +kernel), List.mem_of_getElem? (i := 1189) (by decide +kernel)⟩
theorem lw_p53 : lw_okq (⟨"ToolShedModel", "isDuller", "(II)Z"⟩, 14) := ⟨⟨by decide +kernel, by decide +kernel⟩, List.mem_of_getElem? (i := 901) (by decide +kernel), List.mem_of_getElem? (i := 1192) (by decide +kernel), List.mem_of_getElem? (i := 1193) (by decide +kernel)⟩
theorem lw_p54 : lw_okq (⟨"ToolShedModel", "isDull", "(I)Z"⟩, 14) := ⟨⟨by decide +kernel, by decide +kernel⟩, List.mem_of_getElem? (i := 901) (by decide +kernel), List.mem_of_getElem? (i := 1196) (by decide +kernel), List.mem_of_getElem? (i := 1197) (by decide +kernel)⟩
theorem lw_p55 : lw_okq (⟨"ToolShedModel", "sharpens", "(II)V"⟩, 14) := ⟨⟨by decide +kernel, by decide +kernel⟩, List.mem_of_getElem? (i := 901) (by decide +kernel), List.mem_of_getElem? (i := 1200) (by decide +kernel), List.mem_of_getElem? (i := 1201) (by decide +kernel)⟩
theorem lw_p56 : lw_okq (⟨"ToolShedModel", "calls", "(I)Z"⟩, 14) := ⟨⟨by decide +kernel, by decide +kernel⟩, List.mem_of_getElem? (i := 901) (by decide +kernel), List.mem_of_getElem? (i := 1220) (by decide +kernel), List.mem_of_getElem? (i := 1221) (by decide +kernel)⟩
theorem lw_p57 : lw_okq (⟨"ToolShedModel", "isCalled", "(II)Z"⟩, 14) := ⟨⟨by decide +kernel, by decide +kernel⟩, List.mem_of_getElem? (i := 901) (by decide +kernel), List.mem_of_getElem? (i := 1224) (by decide +kernel), List.mem_of_getElem? (i := 1225) (by decide +kernel)⟩
theorem lw_p58 : lw_okq (⟨"ToolShedModel", "decided", "(I)I"⟩, 14) := ⟨⟨by decide +kernel, by decide +kernel⟩, List.mem_of_getElem? (i := 901) (by decide +kernel), List.mem_of_getElem? (i := 1232) (by decide +kernel), List.mem_of_getElem? (i := 1233) (by decide +kernel)⟩
theorem lw_p59 : lw_okq (⟨"ToolShedModel", "paysFor", "(II)V"⟩, 14) := ⟨⟨by decide +kernel, by decide +kernel⟩, List.mem_of_getElem? (i := 901) (by decide +kernel), List.mem_of_getElem? (i := 1236) (by decide +kernel), List.mem_of_getElem? (i := 1237) (by decide +kernel)⟩
theorem lw_p60 : lw_okq (⟨"ToolShedModel", "counted", "(I)I"⟩, 14) := ⟨⟨by decide +kernel, by decide +kernel⟩, List.mem_of_getElem? (i := 901) (by decide +kernel), List.mem_of_getElem? (i := 1256) (by decide +kernel), List.mem_of_getElem? (i := 1257) (by decide +kernel)⟩
theorem lw_p61 : lw_okq (⟨"ToolShedModel", "dayBegins", "()V"⟩, 14) := ⟨⟨by decide +kernel, by decide +kernel⟩, List.mem_of_getElem? (i := 901) (by decide +kernel), List.mem_of_getElem? (i := 1279) (by decide +kernel), List.mem_of_getElem? (i := 1280) (by decide +kernel)⟩
theorem lw_p62 : lw_okq (⟨"ToolShedModel", "inStatus", "(I)I"⟩, 14) := ⟨⟨by decide +kernel, by decide +kernel⟩, List.mem_of_getElem? (i := 901) (by decide +kernel), List.mem_of_getElem? (i := 1287) (by decide +kernel), List.mem_of_getElem? (i := 1288) (by decide +kernel)⟩
theorem lw_p63 : lw_okq (⟨"ToolShedModel", "inPlace", "(I)I"⟩, 14) := ⟨⟨by decide +kernel, by decide +kernel⟩, List.mem_of_getElem? (i := 901) (by decide +kernel), List.mem_of_getElem? (i := 1291) (by decide +kernel), List.mem_of_getElem? (i := 1292) (by decide +kernel)⟩
def lw_privs_4 : List (MethodName × Nat) := [(⟨"ToolShedModel", "duller", "(II)F"⟩, 14), (⟨"ToolShedModel", "isOut", "(I)Z"⟩, 14), (⟨"ToolShedModel", "whoSharpens", "()I"⟩, 14), (⟨"ToolShedModel", "dullest", "()I"⟩, 14), (⟨"ToolShedModel", "isCutter", "(I)Z"⟩, 14), (⟨"ToolShedModel", "isDuller", "(II)Z"⟩, 14), (⟨"ToolShedModel", "isDull", "(I)Z"⟩, 14), (⟨"ToolShedModel", "sharpens", "(II)V"⟩, 14), (⟨"ToolShedModel", "calls", "(I)Z"⟩, 14), (⟨"ToolShedModel", "isCalled", "(II)Z"⟩, 14), (⟨"ToolShedModel", "decided", "(I)I"⟩, 14), (⟨"ToolShedModel", "paysFor", "(II)V"⟩, 14), (⟨"ToolShedModel", "counted", "(I)I"⟩, 14), (⟨"ToolShedModel", "dayBegins", "()V"⟩, 14), (⟨"ToolShedModel", "inStatus", "(I)I"⟩, 14), (⟨"ToolShedModel", "inPlace", "(I)I"⟩, 14)]
theorem lw_r4 : ∀ q ∈ lw_privs_4, lw_okq q := List.forall_mem_cons.mpr ⟨lw_p48, List.forall_mem_cons.mpr ⟨lw_p49, List.forall_mem_cons.mpr ⟨lw_p50, List.forall_mem_cons.mpr ⟨lw_p51, List.forall_mem_cons.mpr ⟨lw_p52, List.forall_mem_cons.mpr ⟨lw_p53, List.forall_mem_cons.mpr ⟨lw_p54, List.forall_mem_cons.mpr ⟨lw_p55, List.forall_mem_cons.mpr ⟨lw_p56, List.forall_mem_cons.mpr ⟨lw_p57, List.forall_mem_cons.mpr ⟨lw_p58, List.forall_mem_cons.mpr ⟨lw_p59, List.forall_mem_cons.mpr ⟨lw_p60, List.forall_mem_cons.mpr ⟨lw_p61, List.forall_mem_cons.mpr ⟨lw_p62, List.forall_mem_cons.mpr ⟨lw_p63, fun _ h => absurd h List.not_mem_nil⟩⟩⟩⟩⟩⟩⟩⟩⟩⟩⟩⟩⟩⟩⟩⟩
theorem lw_p64 : lw_okq (⟨"ToolShedModel", "proposals", "()I"⟩, 14) := ⟨⟨by decide +kernel, by decide +kernel⟩, List.mem_of_getElem? (i := 901) (by decide +kernel), List.mem_of_getElem? (i := 1295) (by decide +kernel), List.mem_of_getElem? (i := 1296) (by decide +kernel)⟩
theorem lw_p65 : lw_okq (⟨"ToolShedModel", "runs", "()I"⟩, 14) := ⟨⟨by decide +kernel, by decide +kernel⟩, List.mem_of_getElem? (i := 901) (by decide +kernel), List.mem_of_getElem? (i := 1315) (by decide +kernel), List.mem_of_getElem? (i := 1316) (by decide +kernel)⟩
theorem lw_p66 : lw_okq (⟨"ToolShedModel", "readOrder", "()Z"⟩, 14) := ⟨⟨by decide +kernel, by decide +kernel⟩, List.mem_of_getElem? (i := 901) (by decide +kernel), List.mem_of_getElem? (i := 1319) (by decide +kernel), List.mem_of_getElem? (i := 1320) (by decide +kernel)⟩
theorem lw_p67 : lw_okq (⟨"ToolShedModel", "here", "()I"⟩, 14) := ⟨⟨by decide +kernel, by decide +kernel⟩, List.mem_of_getElem? (i := 901) (by decide +kernel), List.mem_of_getElem? (i := 1323) (by decide +kernel), List.mem_of_getElem? (i := 1324) (by decide +kernel)⟩
theorem lw_p68 : lw_okq (⟨"ToolShedModel", "passes", "(I)Z"⟩, 14) := ⟨⟨by decide +kernel, by decide +kernel⟩, List.mem_of_getElem? (i := 901) (by decide +kernel), List.mem_of_getElem? (i := 1327) (by decide +kernel), List.mem_of_getElem? (i := 1328) (by decide +kernel)⟩
theorem lw_p69 : lw_okq (⟨"ToolShedModel", "number", "()I"⟩, 14) := ⟨⟨by decide +kernel, by decide +kernel⟩, List.mem_of_getElem? (i := 901) (by decide +kernel), List.mem_of_getElem? (i := 1331) (by decide +kernel), List.mem_of_getElem? (i := 1332) (by decide +kernel)⟩
theorem lw_p70 : lw_okq (⟨"ToolShedModel", "does", "()I"⟩, 14) := ⟨⟨by decide +kernel, by decide +kernel⟩, List.mem_of_getElem? (i := 901) (by decide +kernel), List.mem_of_getElem? (i := 1335) (by decide +kernel), List.mem_of_getElem? (i := 1336) (by decide +kernel)⟩
def lw_privs_5 : List (MethodName × Nat) := [(⟨"ToolShedModel", "proposals", "()I"⟩, 14), (⟨"ToolShedModel", "runs", "()I"⟩, 14), (⟨"ToolShedModel", "readOrder", "()Z"⟩, 14), (⟨"ToolShedModel", "here", "()I"⟩, 14), (⟨"ToolShedModel", "passes", "(I)Z"⟩, 14), (⟨"ToolShedModel", "number", "()I"⟩, 14), (⟨"ToolShedModel", "does", "()I"⟩, 14)]
theorem lw_r5 : ∀ q ∈ lw_privs_5, lw_okq q := List.forall_mem_cons.mpr ⟨lw_p64, List.forall_mem_cons.mpr ⟨lw_p65, List.forall_mem_cons.mpr ⟨lw_p66, List.forall_mem_cons.mpr ⟨lw_p67, List.forall_mem_cons.mpr ⟨lw_p68, List.forall_mem_cons.mpr ⟨lw_p69, List.forall_mem_cons.mpr ⟨lw_p70, fun _ h => absurd h List.not_mem_nil⟩⟩⟩⟩⟩⟩⟩
def lw_privs : List (MethodName × Nat) := lw_privs_1 ++ (lw_privs_2 ++ (lw_privs_3 ++ (lw_privs_4 ++ (lw_privs_5))))
def lw_tbl : List Cond := k2_sels lw_privs ++ tables_1
theorem lw_privs_ok : ∀ q ∈ lw_privs, lw_okq q := by
  show ∀ q ∈ lw_privs_1 ++ (lw_privs_2 ++ (lw_privs_3 ++ (lw_privs_4 ++ (lw_privs_5)))), lw_okq q
  exact List.forall_mem_append.mpr ⟨lw_r1, List.forall_mem_append.mpr ⟨lw_r2, List.forall_mem_append.mpr ⟨lw_r3, List.forall_mem_append.mpr ⟨lw_r4, lw_r5⟩⟩⟩⟩
/-- the streams that the claim lets the run draw from -/
abbrev lw_cs : List Choice := [Jvm.Choice.named "NaN.bits", Jvm.Choice.named "NaN.copy"]
theorem lw_bits : nanBits ∈ lw_cs := by first | decide | exact List.mem_cons_self | simp [lw_cs, nanBits]
def RX0 : String := "ToolShed$History"
def TX0 : u_T := fun k => match k with
  | 0 => ("ToolShed$History", "states", "[LToolShed$Shed;", true)
  | _ => ("ToolShed$History", "kept", "I", false)
def tyX0 : Nat → FieldType := fun k => match k with
  | 0 => .array (.object "ToolShed$Shed")
  | _ => .int
abbrev wsX00 : List Cond := u_ws RX0 TX0 2
theorem nmX0 : ∀ a, a < 2 → ∀ b, b < 2 → a ≠ b → (TX0 a).2.1 ≠ (TX0 b).2.1 := by decide +kernel
theorem tyX0_ok : ∀ k, k < 2 → parseFieldDescriptor (TX0 k).2.2.1 = some (tyX0 k) := by decide +kernel
abbrev cX0_init : ByteArray := prog_2_method_1_code
def yX0_init : MethodName := ⟨RX0, "<init>", "()V"⟩
abbrev cX0_copyPresent : ByteArray := prog_2_method_2_code
def yX0_copyPresent : MethodName := ⟨RX0, "copyPresent", "(LToolShed$Shed;)V"⟩
abbrev cX0_keepCopy : ByteArray := prog_2_method_3_code
def yX0_keepCopy : MethodName := ⟨RX0, "keepCopy", "()V"⟩
abbrev cX0_restore : ByteArray := prog_2_method_4_code
def yX0_restore : MethodName := ⟨RX0, "restore", "(LToolShed$Shed;)I"⟩
def RX1 : String := "ToolShed$Member"
def TX1 : u_T := fun k => match k with
  | _ => ("ToolShed$Member", "numbers", "[I", true)
def tyX1 : Nat → FieldType := fun k => match k with
  | _ => .array .int
abbrev wsX10 : List Cond := u_ws RX1 TX1 1
theorem nmX1 : ∀ a, a < 1 → ∀ b, b < 1 → a ≠ b → (TX1 a).2.1 ≠ (TX1 b).2.1 := by decide +kernel
theorem tyX1_ok : ∀ k, k < 1 → parseFieldDescriptor (TX1 k).2.2.1 = some (tyX1 k) := by decide +kernel
abbrev cX1_init : ByteArray := prog_3_method_1_code
def yX1_init : MethodName := ⟨RX1, "<init>", "()V"⟩
abbrev cX1_copyFrom : ByteArray := prog_3_method_2_code
def yX1_copyFrom : MethodName := ⟨RX1, "copyFrom", "(LToolShed$Member;)V"⟩
abbrev cX1_isThere : ByteArray := prog_3_method_3_code
def yX1_isThere : MethodName := ⟨RX1, "isThere", "()Z"⟩
abbrev cX1_isGone : ByteArray := prog_3_method_4_code
def yX1_isGone : MethodName := ⟨RX1, "isGone", "()Z"⟩
abbrev cX1_openInAll : ByteArray := prog_3_method_5_code
def yX1_openInAll : MethodName := ⟨RX1, "openInAll", "()I"⟩
abbrev cX1_gainGiven : ByteArray := prog_3_method_6_code
def yX1_gainGiven : MethodName := ⟨RX1, "gainGiven", "(I)V"⟩
abbrev cX1_gainShared : ByteArray := prog_3_method_7_code
def yX1_gainShared : MethodName := ⟨RX1, "gainShared", "(I)V"⟩
abbrev cX1_payOpen : ByteArray := prog_3_method_8_code
def yX1_payOpen : MethodName := ⟨RX1, "payOpen", "(I)V"⟩
abbrev cX1_charge : ByteArray := prog_3_method_9_code
def yX1_charge : MethodName := ⟨RX1, "charge", "(II)V"⟩
abbrev cX1_takeShare : ByteArray := prog_3_method_10_code
def yX1_takeShare : MethodName := ⟨RX1, "takeShare", "(II)V"⟩
def RX2 : String := "ToolShed$Members"
def TX2 : u_T := fun k => match k with
  | 0 => ("ToolShed$Members", "all", "[LToolShed$Member;", true)
  | 1 => ("ToolShed$Members", "turns", "[I", true)
  | 2 => ("ToolShed$Members", "joined", "I", false)
  | 3 => ("ToolShed$Members", "inTurns", "I", false)
  | _ => ("ToolShed$Members", "pointer", "I", false)
def tyX2 : Nat → FieldType := fun k => match k with
  | 0 => .array (.object "ToolShed$Member")
  | 1 => .array .int
  | 2 => .int
  | 3 => .int
  | _ => .int
abbrev wsX20 : List Cond := u_ws RX2 TX2 5
theorem nmX2 : ∀ a, a < 5 → ∀ b, b < 5 → a ≠ b → (TX2 a).2.1 ≠ (TX2 b).2.1 := by decide +kernel
theorem tyX2_ok : ∀ k, k < 5 → parseFieldDescriptor (TX2 k).2.2.1 = some (tyX2 k) := by decide +kernel
abbrev cX2_init : ByteArray := prog_4_method_1_code
def yX2_init : MethodName := ⟨RX2, "<init>", "()V"⟩
abbrev cX2_copyFrom : ByteArray := prog_4_method_2_code
def yX2_copyFrom : MethodName := ⟨RX2, "copyFrom", "(LToolShed$Members;)V"⟩
abbrev cX2_has : ByteArray := prog_4_method_3_code
def yX2_has : MethodName := ⟨RX2, "has", "(I)Z"⟩
abbrev cX2_takesPart : ByteArray := prog_4_method_4_code
def yX2_takesPart : MethodName := ⟨RX2, "takesPart", "(II)Z"⟩
abbrev cX2_countNotGone : ByteArray := prog_4_method_5_code
def yX2_countNotGone : MethodName := ⟨RX2, "countNotGone", "(I)I"⟩
abbrev cX2_countWithStatus : ByteArray := prog_4_method_6_code
def yX2_countWithStatus : MethodName := ⟨RX2, "countWithStatus", "(I)I"⟩
abbrev cX2_join : ByteArray := prog_4_method_7_code
def yX2_join : MethodName := ⟨RX2, "join", "()I"⟩
abbrev cX2_putAway : ByteArray := prog_4_method_8_code
def yX2_putAway : MethodName := ⟨RX2, "putAway", "(II)I"⟩
abbrev cX2_depart : ByteArray := prog_4_method_9_code
def yX2_depart : MethodName := ⟨RX2, "depart", "(I)I"⟩
abbrev cX2_takeGift : ByteArray := prog_4_method_10_code
def yX2_takeGift : MethodName := ⟨RX2, "takeGift", "(II)I"⟩
abbrev cX2_chargeEach : ByteArray := prog_4_method_11_code
def yX2_chargeEach : MethodName := ⟨RX2, "chargeEach", "(II)V"⟩
abbrev cX2_share : ByteArray := prog_4_method_12_code
def yX2_share : MethodName := ⟨RX2, "share", "(III)V"⟩
abbrev cX2_tellOfAll : ByteArray := prog_4_method_13_code
def yX2_tellOfAll : MethodName := ⟨RX2, "tellOfAll", "(I)I"⟩
abbrev cX2_debtorInOrder : ByteArray := prog_4_method_14_code
def yX2_debtorInOrder : MethodName := ⟨RX2, "debtorInOrder", "(I)I"⟩
abbrev cX2_debtorsAheadOf : ByteArray := prog_4_method_15_code
def yX2_debtorsAheadOf : MethodName := ⟨RX2, "debtorsAheadOf", "(I)I"⟩
abbrev cX2_putBehindTurns : ByteArray := prog_4_method_16_code
def yX2_putBehindTurns : MethodName := ⟨RX2, "putBehindTurns", "(I)V"⟩
abbrev cX2_takeOutOfTurns : ByteArray := prog_4_method_17_code
def yX2_takeOutOfTurns : MethodName := ⟨RX2, "takeOutOfTurns", "(I)V"⟩
abbrev cX2_moveToEndOfTurns : ByteArray := prog_4_method_18_code
def yX2_moveToEndOfTurns : MethodName := ⟨RX2, "moveToEndOfTurns", "(I)V"⟩
abbrev cX2_placeInTurns : ByteArray := prog_4_method_19_code
def yX2_placeInTurns : MethodName := ⟨RX2, "placeInTurns", "(I)I"⟩
abbrev cX2_memberInTurn : ByteArray := prog_4_method_20_code
def yX2_memberInTurn : MethodName := ⟨RX2, "memberInTurn", "(I)I"⟩
abbrev cX2_firstThereInTurns : ByteArray := prog_4_method_21_code
def yX2_firstThereInTurns : MethodName := ⟨RX2, "firstThereInTurns", "()I"⟩
abbrev cX2_swapTurns : ByteArray := prog_4_method_22_code
def yX2_swapTurns : MethodName := ⟨RX2, "swapTurns", "(II)I"⟩
abbrev cX2_callPanel : ByteArray := prog_4_method_23_code
def yX2_callPanel : MethodName := ⟨RX2, "callPanel", "(ILToolShed$Panel;)Z"⟩
abbrev cX2_nextForPanel : ByteArray := prog_4_method_24_code
def yX2_nextForPanel : MethodName := ⟨RX2, "nextForPanel", "(II)I"⟩
def RX3 : String := "ToolShed$Orders"
def TX3 : u_T := fun k => match k with
  | 0 => ("ToolShed$Orders", "text", "[C", true)
  | 1 => ("ToolShed$Orders", "length", "I", false)
  | 2 => ("ToolShed$Orders", "next", "I", false)
  | 3 => ("ToolShed$Orders", "position", "I", false)
  | 4 => ("ToolShed$Orders", "reason", "I", false)
  | _ => ("ToolShed$Orders", "done", "I", false)
def tyX3 : Nat → FieldType := fun k => match k with
  | 0 => .array .char
  | 1 => .int
  | 2 => .int
  | 3 => .int
  | 4 => .int
  | _ => .int
abbrev wsX30 : List Cond := u_ws RX3 TX3 6
theorem nmX3 : ∀ a, a < 6 → ∀ b, b < 6 → a ≠ b → (TX3 a).2.1 ≠ (TX3 b).2.1 := by decide +kernel
theorem tyX3_ok : ∀ k, k < 6 → parseFieldDescriptor (TX3 k).2.2.1 = some (tyX3 k) := by decide +kernel
abbrev cX3_init : ByteArray := prog_5_method_1_code
def yX3_init : MethodName := ⟨RX3, "<init>", "()V"⟩
abbrev cX3_append : ByteArray := prog_5_method_2_code
def yX3_append : MethodName := ⟨RX3, "append", "(I)I"⟩
abbrev cX3_empty : ByteArray := prog_5_method_3_code
def yX3_empty : MethodName := ⟨RX3, "empty", "()I"⟩
abbrev cX3_tryOn : ByteArray := prog_5_method_4_code
def yX3_tryOn : MethodName := ⟨RX3, "tryOn", "(LToolShed$Shed;LToolShed$Shed;)V"⟩
abbrev cX3_runOrder : ByteArray := prog_5_method_5_code
def yX3_runOrder : MethodName := ⟨RX3, "runOrder", "(LToolShed$Shed;)I"⟩
abbrev cX3_carryOut : ByteArray := prog_5_method_6_code
def yX3_carryOut : MethodName := ⟨RX3, "carryOut", "(LToolShed$Shed;CII)I"⟩
abbrev cX3_peek : ByteArray := prog_5_method_7_code
def yX3_peek : MethodName := ⟨RX3, "peek", "()C"⟩
abbrev cX3_takes : ByteArray := prog_5_method_8_code
def yX3_takes : MethodName := ⟨RX3, "takes", "(C)Z"⟩
abbrev cX3_readNumber : ByteArray := prog_5_method_9_code
def yX3_readNumber : MethodName := ⟨RX3, "readNumber", "()I"⟩
def RX4 : String := "ToolShed$Panel"
def TX4 : u_T := fun k => match k with
  | 0 => ("ToolShed$Panel", "seated", "[I", true)
  | 1 => ("ToolShed$Panel", "words", "[I", true)
  | _ => ("ToolShed$Panel", "seats", "I", false)
def tyX4 : Nat → FieldType := fun k => match k with
  | 0 => .array .int
  | 1 => .array .int
  | _ => .int
abbrev wsX40 : List Cond := u_ws RX4 TX4 3
theorem nmX4 : ∀ a, a < 3 → ∀ b, b < 3 → a ≠ b → (TX4 a).2.1 ≠ (TX4 b).2.1 := by decide +kernel
theorem tyX4_ok : ∀ k, k < 3 → parseFieldDescriptor (TX4 k).2.2.1 = some (tyX4 k) := by decide +kernel
abbrev cX4_init : ByteArray := prog_6_method_1_code
def yX4_init : MethodName := ⟨RX4, "<init>", "()V"⟩
abbrev cX4_copyFrom : ByteArray := prog_6_method_2_code
def yX4_copyFrom : MethodName := ⟨RX4, "copyFrom", "(LToolShed$Panel;)V"⟩
abbrev cX4_begin : ByteArray := prog_6_method_3_code
def yX4_begin : MethodName := ⟨RX4, "begin", "()V"⟩
abbrev cX4_seat : ByteArray := prog_6_method_4_code
def yX4_seat : MethodName := ⟨RX4, "seat", "(I)V"⟩
abbrev cX4_hasSeated : ByteArray := prog_6_method_5_code
def yX4_hasSeated : MethodName := ⟨RX4, "hasSeated", "(I)Z"⟩
abbrev cX4_hears : ByteArray := prog_6_method_6_code
def yX4_hears : MethodName := ⟨RX4, "hears", "(II)Z"⟩
abbrev cX4_countOfWord : ByteArray := prog_6_method_7_code
def yX4_countOfWord : MethodName := ⟨RX4, "countOfWord", "(I)I"⟩
abbrev cX4_countOfSpeakers : ByteArray := prog_6_method_8_code
def yX4_countOfSpeakers : MethodName := ⟨RX4, "countOfSpeakers", "()I"⟩
abbrev cX4_decision : ByteArray := prog_6_method_9_code
def yX4_decision : MethodName := ⟨RX4, "decision", "()I"⟩
def RX5 : String := "ToolShed$Proposal"
def TX5 : u_T := fun k => match k with
  | 0 => ("ToolShed$Proposal", "stands", "Z", false)
  | 1 => ("ToolShed$Proposal", "cost", "I", false)
  | 2 => ("ToolShed$Proposal", "better", "I", false)
  | 3 => ("ToolShed$Proposal", "lastDay", "I", false)
  | 4 => ("ToolShed$Proposal", "yes", "I", false)
  | 5 => ("ToolShed$Proposal", "no", "I", false)
  | _ => ("ToolShed$Proposal", "voted", "I", false)
def tyX5 : Nat → FieldType := fun k => match k with
  | 0 => .boolean
  | 1 => .int
  | 2 => .int
  | 3 => .int
  | 4 => .int
  | 5 => .int
  | _ => .int
abbrev wsX50 : List Cond := u_ws RX5 TX5 7
theorem nmX5 : ∀ a, a < 7 → ∀ b, b < 7 → a ≠ b → (TX5 a).2.1 ≠ (TX5 b).2.1 := by decide +kernel
theorem tyX5_ok : ∀ k, k < 7 → parseFieldDescriptor (TX5 k).2.2.1 = some (tyX5 k) := by decide +kernel
abbrev cX5_init : ByteArray := prog_7_method_1_code
def yX5_init : MethodName := ⟨RX5, "<init>", "()V"⟩
abbrev cX5_copyFrom : ByteArray := prog_7_method_2_code
def yX5_copyFrom : MethodName := ⟨RX5, "copyFrom", "(LToolShed$Proposal;)V"⟩
abbrev cX5_begin : ByteArray := prog_7_method_3_code
def yX5_begin : MethodName := ⟨RX5, "begin", "(III)V"⟩
abbrev cX5_hasVoteOf : ByteArray := prog_7_method_4_code
def yX5_hasVoteOf : MethodName := ⟨RX5, "hasVoteOf", "(I)Z"⟩
abbrev cX5_countVote : ByteArray := prog_7_method_5_code
def yX5_countVote : MethodName := ⟨RX5, "countVote", "(IZ)V"⟩
abbrev cX5_outcome : ByteArray := prog_7_method_6_code
def yX5_outcome : MethodName := ⟨RX5, "outcome", "(I)I"⟩
abbrev cX5_tell : ByteArray := prog_7_method_7_code
def yX5_tell : MethodName := ⟨RX5, "tell", "(I)I"⟩
def RX6 : String := "ToolShed$Shed"
def TX6 : u_T := fun k => match k with
  | 0 => ("ToolShed$Shed", "settings", "[I", true)
  | 1 => ("ToolShed$Shed", "members", "LToolShed$Members;", true)
  | 2 => ("ToolShed$Shed", "tools", "[LToolShed$Tool;", true)
  | 3 => ("ToolShed$Shed", "added", "I", false)
  | _ => ("ToolShed$Shed", "today", "I", false)
def tyX6 : Nat → FieldType := fun k => match k with
  | 0 => .array .int
  | 1 => .object "ToolShed$Members"
  | 2 => .array (.object "ToolShed$Tool")
  | 3 => .int
  | _ => .int
abbrev wsX60 : List Cond := u_ws RX6 TX6 5
theorem nmX6 : ∀ a, a < 5 → ∀ b, b < 5 → a ≠ b → (TX6 a).2.1 ≠ (TX6 b).2.1 := by decide +kernel
theorem tyX6_ok : ∀ k, k < 5 → parseFieldDescriptor (TX6 k).2.2.1 = some (tyX6 k) := by decide +kernel
abbrev cX6_init : ByteArray := prog_8_method_1_code
def yX6_init : MethodName := ⟨RX6, "<init>", "()V"⟩
abbrev cX6_copyFrom : ByteArray := prog_8_method_2_code
def yX6_copyFrom : MethodName := ⟨RX6, "copyFrom", "(LToolShed$Shed;)V"⟩
abbrev cX6_hasTool : ByteArray := prog_8_method_3_code
def yX6_hasTool : MethodName := ⟨RX6, "hasTool", "(I)Z"⟩
abbrev cX6_changeSetting : ByteArray := prog_8_method_4_code
def yX6_changeSetting : MethodName := ⟨RX6, "changeSetting", "(II)I"⟩
abbrev cX6_letLeave : ByteArray := prog_8_method_5_code
def yX6_letLeave : MethodName := ⟨RX6, "letLeave", "(I)I"⟩
abbrev cX6_isBound : ByteArray := prog_8_method_6_code
def yX6_isBound : MethodName := ⟨RX6, "isBound", "(I)Z"⟩
abbrev cX6_tellOfMember : ByteArray := prog_8_method_7_code
def yX6_tellOfMember : MethodName := ⟨RX6, "tellOfMember", "(II)I"⟩
abbrev cX6_toolsOfMember : ByteArray := prog_8_method_8_code
def yX6_toolsOfMember : MethodName := ⟨RX6, "toolsOfMember", "(IZ)I"⟩
abbrev cX6_addTool : ByteArray := prog_8_method_9_code
def yX6_addTool : MethodName := ⟨RX6, "addTool", "(III)I"⟩
abbrev cX6_isHook : ByteArray := prog_8_method_10_code
def yX6_isHook : MethodName := ⟨RX6, "isHook", "(II)Z"⟩
abbrev cX6_hangTool : ByteArray := prog_8_method_11_code
def yX6_hangTool : MethodName := ⟨RX6, "hangTool", "(III)I"⟩
abbrev cX6_countTaken : ByteArray := prog_8_method_12_code
def yX6_countTaken : MethodName := ⟨RX6, "countTaken", "(I)I"⟩
abbrev cX6_toolOnHook : ByteArray := prog_8_method_13_code
def yX6_toolOnHook : MethodName := ⟨RX6, "toolOnHook", "(II)I"⟩
abbrev cX6_lendToMember : ByteArray := prog_8_method_14_code
def yX6_lendToMember : MethodName := ⟨RX6, "lendToMember", "(II)I"⟩
abbrev cX6_takeBack : ByteArray := prog_8_method_15_code
def yX6_takeBack : MethodName := ⟨RX6, "takeBack", "(I)I"⟩
abbrev cX6_tellOfTool : ByteArray := prog_8_method_16_code
def yX6_tellOfTool : MethodName := ⟨RX6, "tellOfTool", "(II)I"⟩
abbrev cX6_bitsOfTool : ByteArray := prog_8_method_17_code
def yX6_bitsOfTool : MethodName := ⟨RX6, "bitsOfTool", "(I)I"⟩
abbrev cX6_foretellDullness : ByteArray := prog_8_method_18_code
def yX6_foretellDullness : MethodName := ⟨RX6, "foretellDullness", "(II)I"⟩
abbrev cX6_meanSharpness : ByteArray := prog_8_method_19_code
def yX6_meanSharpness : MethodName := ⟨RX6, "meanSharpness", "(I)I"⟩
abbrev cX6_cutterInOrder : ByteArray := prog_8_method_20_code
def yX6_cutterInOrder : MethodName := ⟨RX6, "cutterInOrder", "(I)I"⟩
abbrev cX6_cuttersAheadOf : ByteArray := prog_8_method_21_code
def yX6_cuttersAheadOf : MethodName := ⟨RX6, "cuttersAheadOf", "(I)I"⟩
abbrev cX6_sharpenDullest : ByteArray := prog_8_method_22_code
def yX6_sharpenDullest : MethodName := ⟨RX6, "sharpenDullest", "()I"⟩
abbrev cX6_loseTool : ByteArray := prog_8_method_23_code
def yX6_loseTool : MethodName := ⟨RX6, "loseTool", "(I)I"⟩
abbrev cX6_hearPanel : ByteArray := prog_8_method_24_code
def yX6_hearPanel : MethodName := ⟨RX6, "hearPanel", "(III)I"⟩
abbrev cX6_settleLoss : ByteArray := prog_8_method_25_code
def yX6_settleLoss : MethodName := ⟨RX6, "settleLoss", "(LToolShed$Tool;I)V"⟩
abbrev cX6_findTool : ByteArray := prog_8_method_26_code
def yX6_findTool : MethodName := ⟨RX6, "findTool", "(I)I"⟩
abbrev cX6_tellOfPanel : ByteArray := prog_8_method_27_code
def yX6_tellOfPanel : MethodName := ⟨RX6, "tellOfPanel", "(III)I"⟩
abbrev cX6_openProposal : ByteArray := prog_8_method_28_code
def yX6_openProposal : MethodName := ⟨RX6, "openProposal", "(III)I"⟩
abbrev cX6_takeVote : ByteArray := prog_8_method_29_code
def yX6_takeVote : MethodName := ⟨RX6, "takeVote", "(III)I"⟩
abbrev cX6_tellOfProposal : ByteArray := prog_8_method_30_code
def yX6_tellOfProposal : MethodName := ⟨RX6, "tellOfProposal", "(II)I"⟩
abbrev cX6_lendToShed : ByteArray := prog_8_method_31_code
def yX6_lendToShed : MethodName := ⟨RX6, "lendToShed", "(IIII)I"⟩
abbrev cX6_takeFromShed : ByteArray := prog_8_method_32_code
def yX6_takeFromShed : MethodName := ⟨RX6, "takeFromShed", "(I)I"⟩
abbrev cX6_letDaysPass : ByteArray := prog_8_method_33_code
def yX6_letDaysPass : MethodName := ⟨RX6, "letDaysPass", "(I)I"⟩
abbrev cX6_beginDay : ByteArray := prog_8_method_34_code
def yX6_beginDay : MethodName := ⟨RX6, "beginDay", "()V"⟩
abbrev cX6_tellCount : ByteArray := prog_8_method_35_code
def yX6_tellCount : MethodName := ⟨RX6, "tellCount", "(I)I"⟩
abbrev cX6_countAtPlace : ByteArray := prog_8_method_36_code
def yX6_countAtPlace : MethodName := ⟨RX6, "countAtPlace", "(I)I"⟩
abbrev cX6_countProposals : ByteArray := prog_8_method_37_code
def yX6_countProposals : MethodName := ⟨RX6, "countProposals", "()I"⟩
def RX7 : String := "ToolShed$Tool"
def TX7 : u_T := fun k => match k with
  | 0 => ("ToolShed$Tool", "kind", "I", false)
  | 1 => ("ToolShed$Tool", "value", "I", false)
  | 2 => ("ToolShed$Tool", "wear", "I", false)
  | 3 => ("ToolShed$Tool", "sharpness", "F", false)
  | 4 => ("ToolShed$Tool", "place", "I", false)
  | 5 => ("ToolShed$Tool", "holder", "I", false)
  | 6 => ("ToolShed$Tool", "since", "I", false)
  | 7 => ("ToolShed$Tool", "due", "I", false)
  | 8 => ("ToolShed$Tool", "fee", "I", false)
  | 9 => ("ToolShed$Tool", "lends", "I", false)
  | 10 => ("ToolShed$Tool", "wall", "I", false)
  | 11 => ("ToolShed$Tool", "hook", "I", false)
  | 12 => ("ToolShed$Tool", "panel", "LToolShed$Panel;", true)
  | _ => ("ToolShed$Tool", "proposal", "LToolShed$Proposal;", true)
def tyX7 : Nat → FieldType := fun k => match k with
  | 0 => .int
  | 1 => .int
  | 2 => .int
  | 3 => .float
  | 4 => .int
  | 5 => .int
  | 6 => .int
  | 7 => .int
  | 8 => .int
  | 9 => .int
  | 10 => .int
  | 11 => .int
  | 12 => .object "ToolShed$Panel"
  | _ => .object "ToolShed$Proposal"
abbrev wsX70 : List Cond := u_ws RX7 TX7 14
theorem nmX7 : ∀ a, a < 14 → ∀ b, b < 14 → a ≠ b → (TX7 a).2.1 ≠ (TX7 b).2.1 := by decide +kernel
theorem tyX7_ok : ∀ k, k < 14 → parseFieldDescriptor (TX7 k).2.2.1 = some (tyX7 k) := by decide +kernel
abbrev cX7_init : ByteArray := prog_9_method_1_code
def yX7_init : MethodName := ⟨RX7, "<init>", "()V"⟩
abbrev cX7_copyFrom : ByteArray := prog_9_method_2_code
def yX7_copyFrom : MethodName := ⟨RX7, "copyFrom", "(LToolShed$Tool;)V"⟩
abbrev cX7_begin : ByteArray := prog_9_method_3_code
def yX7_begin : MethodName := ⟨RX7, "begin", "(III)V"⟩
abbrev cX7_isCutterInShed : ByteArray := prog_9_method_4_code
def yX7_isCutterInShed : MethodName := ⟨RX7, "isCutterInShed", "()Z"⟩
abbrev cX7_isOnMember : ByteArray := prog_9_method_5_code
def yX7_isOnMember : MethodName := ⟨RX7, "isOnMember", "(I)Z"⟩
abbrev cX7_hangsOn : ByteArray := prog_9_method_6_code
def yX7_hangsOn : MethodName := ⟨RX7, "hangsOn", "(II)Z"⟩
abbrev cX7_goOut : ByteArray := prog_9_method_7_code
def yX7_goOut : MethodName := ⟨RX7, "goOut", "(IIII)V"⟩
abbrev cX7_daysOut : ByteArray := prog_9_method_8_code
def yX7_daysOut : MethodName := ⟨RX7, "daysOut", "(I)I"⟩
abbrev cX7_comeIn : ByteArray := prog_9_method_9_code
def yX7_comeIn : MethodName := ⟨RX7, "comeIn", "(I)V"⟩
abbrev cX7_sharpnessBehind : ByteArray := prog_9_method_10_code
def yX7_sharpnessBehind : MethodName := ⟨RX7, "sharpnessBehind", "(I)F"⟩
abbrev cX7_sharpenBy : ByteArray := prog_9_method_11_code
def yX7_sharpenBy : MethodName := ⟨RX7, "sharpenBy", "(I)V"⟩
abbrev cX7_vanish : ByteArray := prog_9_method_12_code
def yX7_vanish : MethodName := ⟨RX7, "vanish", "()V"⟩
abbrev cX7_tell : ByteArray := prog_9_method_13_code
def yX7_tell : MethodName := ⟨RX7, "tell", "(I)I"⟩
def RX8 : String := "ToolShed"
def TX8 : u_T := fun k => match k with
  | 0 => ("ToolShed", "present", "LToolShed$Shed;", true)
  | 1 => ("ToolShed", "trial", "LToolShed$Shed;", true)
  | 2 => ("ToolShed", "history", "LToolShed$History;", true)
  | _ => ("ToolShed", "orders", "LToolShed$Orders;", true)
def tyX8 : Nat → FieldType := fun k => match k with
  | 0 => .object "ToolShed$Shed"
  | 1 => .object "ToolShed$Shed"
  | 2 => .object "ToolShed$History"
  | _ => .object "ToolShed$Orders"
abbrev wsX80 : List Cond := u_ws RX8 TX8 4
theorem nmX8 : ∀ a, a < 4 → ∀ b, b < 4 → a ≠ b → (TX8 a).2.1 ≠ (TX8 b).2.1 := by decide +kernel
theorem tyX8_ok : ∀ k, k < 4 → parseFieldDescriptor (TX8 k).2.2.1 = some (tyX8 k) := by decide +kernel
abbrev cX8_init : ByteArray := prog_1_method_1_code
def yX8_init : MethodName := ⟨RX8, "<init>", "()V"⟩
abbrev cX8_set : ByteArray := prog_1_method_2_code
def yX8_set : MethodName := ⟨RX8, "set", "(II)I"⟩
abbrev cX8_member : ByteArray := prog_1_method_3_code
def yX8_member : MethodName := ⟨RX8, "member", "()I"⟩
abbrev cX8_away : ByteArray := prog_1_method_4_code
def yX8_away : MethodName := ⟨RX8, "away", "(II)I"⟩
abbrev cX8_leave : ByteArray := prog_1_method_5_code
def yX8_leave : MethodName := ⟨RX8, "leave", "(I)I"⟩
abbrev cX8_give : ByteArray := prog_1_method_6_code
def yX8_give : MethodName := ⟨RX8, "give", "(II)I"⟩
abbrev cX8_memberOf : ByteArray := prog_1_method_7_code
def yX8_memberOf : MethodName := ⟨RX8, "memberOf", "(II)I"⟩
abbrev cX8_account : ByteArray := prog_1_method_8_code
def yX8_account : MethodName := ⟨RX8, "account", "(I)I"⟩
abbrev cX8_debtorAt : ByteArray := prog_1_method_9_code
def yX8_debtorAt : MethodName := ⟨RX8, "debtorAt", "(I)I"⟩
abbrev cX8_tool : ByteArray := prog_1_method_10_code
def yX8_tool : MethodName := ⟨RX8, "tool", "(III)I"⟩
abbrev cX8_hang : ByteArray := prog_1_method_11_code
def yX8_hang : MethodName := ⟨RX8, "hang", "(III)I"⟩
abbrev cX8_borrow : ByteArray := prog_1_method_12_code
def yX8_borrow : MethodName := ⟨RX8, "borrow", "(II)I"⟩
abbrev cX8_giveBack : ByteArray := prog_1_method_13_code
def yX8_giveBack : MethodName := ⟨RX8, "giveBack", "(I)I"⟩
abbrev cX8_toolOf : ByteArray := prog_1_method_14_code
def yX8_toolOf : MethodName := ⟨RX8, "toolOf", "(II)I"⟩
abbrev cX8_bits : ByteArray := prog_1_method_15_code
def yX8_bits : MethodName := ⟨RX8, "bits", "(I)I"⟩
abbrev cX8_dullBehind : ByteArray := prog_1_method_16_code
def yX8_dullBehind : MethodName := ⟨RX8, "dullBehind", "(II)I"⟩
abbrev cX8_mean : ByteArray := prog_1_method_17_code
def yX8_mean : MethodName := ⟨RX8, "mean", "(I)I"⟩
abbrev cX8_hookAt : ByteArray := prog_1_method_18_code
def yX8_hookAt : MethodName := ⟨RX8, "hookAt", "(II)I"⟩
abbrev cX8_sharpen : ByteArray := prog_1_method_19_code
def yX8_sharpen : MethodName := ⟨RX8, "sharpen", "()I"⟩
abbrev cX8_swap : ByteArray := prog_1_method_20_code
def yX8_swap : MethodName := ⟨RX8, "swap", "(II)I"⟩
abbrev cX8_turnAt : ByteArray := prog_1_method_21_code
def yX8_turnAt : MethodName := ⟨RX8, "turnAt", "(I)I"⟩
abbrev cX8_dullAt : ByteArray := prog_1_method_22_code
def yX8_dullAt : MethodName := ⟨RX8, "dullAt", "(I)I"⟩
abbrev cX8_lose : ByteArray := prog_1_method_23_code
def yX8_lose : MethodName := ⟨RX8, "lose", "(I)I"⟩
abbrev cX8_say : ByteArray := prog_1_method_24_code
def yX8_say : MethodName := ⟨RX8, "say", "(III)I"⟩
abbrev cX8_find : ByteArray := prog_1_method_25_code
def yX8_find : MethodName := ⟨RX8, "find", "(I)I"⟩
abbrev cX8_panelAt : ByteArray := prog_1_method_26_code
def yX8_panelAt : MethodName := ⟨RX8, "panelAt", "(III)I"⟩
abbrev cX8_propose : ByteArray := prog_1_method_27_code
def yX8_propose : MethodName := ⟨RX8, "propose", "(III)I"⟩
abbrev cX8_vote : ByteArray := prog_1_method_28_code
def yX8_vote : MethodName := ⟨RX8, "vote", "(III)I"⟩
abbrev cX8_proposalOf : ByteArray := prog_1_method_29_code
def yX8_proposalOf : MethodName := ⟨RX8, "proposalOf", "(II)I"⟩
abbrev cX8_lendOut : ByteArray := prog_1_method_30_code
def yX8_lendOut : MethodName := ⟨RX8, "lendOut", "(IIII)I"⟩
abbrev cX8_comeBack : ByteArray := prog_1_method_31_code
def yX8_comeBack : MethodName := ⟨RX8, "comeBack", "(I)I"⟩
abbrev cX8_pass : ByteArray := prog_1_method_32_code
def yX8_pass : MethodName := ⟨RX8, "pass", "(I)I"⟩
abbrev cX8_count : ByteArray := prog_1_method_33_code
def yX8_count : MethodName := ⟨RX8, "count", "(I)I"⟩
abbrev cX8_undo : ByteArray := prog_1_method_34_code
def yX8_undo : MethodName := ⟨RX8, "undo", "()I"⟩
abbrev cX8_type : ByteArray := prog_1_method_35_code
def yX8_type : MethodName := ⟨RX8, "type", "(I)I"⟩
abbrev cX8_clearText : ByteArray := prog_1_method_36_code
def yX8_clearText : MethodName := ⟨RX8, "clearText", "()I"⟩
abbrev cX8_fault : ByteArray := prog_1_method_37_code
def yX8_fault : MethodName := ⟨RX8, "fault", "(I)I"⟩
abbrev cX8_play : ByteArray := prog_1_method_38_code
def yX8_play : MethodName := ⟨RX8, "play", "()I"⟩
abbrev cX8_changed : ByteArray := prog_1_method_39_code
def yX8_changed : MethodName := ⟨RX8, "changed", "(I)I"⟩
abbrev cX8_thousandths : ByteArray := prog_1_method_40_code
def yX8_thousandths : MethodName := ⟨RX8, "thousandths", "(F)I"⟩
abbrev cX8_floatBits : ByteArray := prog_1_method_41_code
def yX8_floatBits : MethodName := ⟨RX8, "floatBits", "(F)I"⟩
def RX9 : String := "ToolShedModel"
def TX9 : u_T := fun k => match k with
  | 0 => ("ToolShedModel", "p", "[I", true)
  | 1 => ("ToolShedModel", "aside", "[I", true)
  | 2 => ("ToolShedModel", "trial", "[I", true)
  | 3 => ("ToolShedModel", "saved", "[I", true)
  | 4 => ("ToolShedModel", "states", "I", false)
  | 5 => ("ToolShedModel", "text", "[I", true)
  | 6 => ("ToolShedModel", "length", "I", false)
  | 7 => ("ToolShedModel", "called", "[I", true)
  | 8 => ("ToolShedModel", "at", "I", false)
  | 9 => ("ToolShedModel", "first", "I", false)
  | 10 => ("ToolShedModel", "second", "I", false)
  | 11 => ("ToolShedModel", "letter", "I", false)
  | 12 => ("ToolShedModel", "orders", "I", false)
  | _ => ("ToolShedModel", "reason", "I", false)
def tyX9 : Nat → FieldType := fun k => match k with
  | 0 => .array .int
  | 1 => .array .int
  | 2 => .array .int
  | 3 => .array .int
  | 4 => .int
  | 5 => .array .int
  | 6 => .int
  | 7 => .array .int
  | 8 => .int
  | 9 => .int
  | 10 => .int
  | 11 => .int
  | 12 => .int
  | _ => .int
abbrev wsX90 : List Cond := u_ws RX9 TX9 14
theorem nmX9 : ∀ a, a < 14 → ∀ b, b < 14 → a ≠ b → (TX9 a).2.1 ≠ (TX9 b).2.1 := by decide +kernel
theorem tyX9_ok : ∀ k, k < 14 → parseFieldDescriptor (TX9 k).2.2.1 = some (tyX9 k) := by decide +kernel
abbrev cX9_init : ByteArray := prog_11_method_1_code
def yX9_init : MethodName := ⟨RX9, "<init>", "()V"⟩
abbrev cX9_in : ByteArray := prog_11_method_3_code
def yX9_in : MethodName := ⟨RX9, "in", "(III)Z"⟩
abbrev cX9_bring : ByteArray := prog_11_method_4_code
def yX9_bring : MethodName := ⟨RX9, "bring", "([II[II)V"⟩
abbrev cX9_hold : ByteArray := prog_11_method_5_code
def yX9_hold : MethodName := ⟨RX9, "hold", "()V"⟩
abbrev cX9_ends : ByteArray := prog_11_method_6_code
def yX9_ends : MethodName := ⟨RX9, "ends", "(I)I"⟩
abbrev cX9_isMember : ByteArray := prog_11_method_7_code
def yX9_isMember : MethodName := ⟨RX9, "isMember", "(I)Z"⟩
abbrev cX9_isTool : ByteArray := prog_11_method_8_code
def yX9_isTool : MethodName := ⟨RX9, "isTool", "(I)Z"⟩
abbrev cX9_of : ByteArray := prog_11_method_9_code
def yX9_of : MethodName := ⟨RX9, "of", "(II)I"⟩
abbrev cX9_more : ByteArray := prog_11_method_10_code
def yX9_more : MethodName := ⟨RX9, "more", "(III)V"⟩
abbrev cX9_its : ByteArray := prog_11_method_11_code
def yX9_its : MethodName := ⟨RX9, "its", "(II)I"⟩
abbrev cX9_lay : ByteArray := prog_11_method_12_code
def yX9_lay : MethodName := ⟨RX9, "lay", "(III)V"⟩
abbrev cX9_gains : ByteArray := prog_11_method_13_code
def yX9_gains : MethodName := ⟨RX9, "gains", "(III)V"⟩
abbrev cX9_charges : ByteArray := prog_11_method_14_code
def yX9_charges : MethodName := ⟨RX9, "charges", "(III)V"⟩
abbrev cX9_shares : ByteArray := prog_11_method_15_code
def yX9_shares : MethodName := ⟨RX9, "shares", "(II)Z"⟩
abbrev cX9_sharing : ByteArray := prog_11_method_16_code
def yX9_sharing : MethodName := ⟨RX9, "sharing", "(I)I"⟩
abbrev cX9_shared : ByteArray := prog_11_method_17_code
def yX9_shared : MethodName := ⟨RX9, "shared", "(III)V"⟩
abbrev cX9_openOf : ByteArray := prog_11_method_18_code
def yX9_openOf : MethodName := ⟨RX9, "openOf", "(I)I"⟩
abbrev cX9_highest : ByteArray := prog_11_method_19_code
def yX9_highest : MethodName := ⟨RX9, "highest", "(I)I"⟩
abbrev cX9_set : ByteArray := prog_11_method_20_code
def yX9_set : MethodName := ⟨RX9, "set", "(II)I"⟩
abbrev cX9_member : ByteArray := prog_11_method_21_code
def yX9_member : MethodName := ⟨RX9, "member", "()I"⟩
abbrev cX9_away : ByteArray := prog_11_method_22_code
def yX9_away : MethodName := ⟨RX9, "away", "(II)I"⟩
abbrev cX9_toolsOf : ByteArray := prog_11_method_23_code
def yX9_toolsOf : MethodName := ⟨RX9, "toolsOf", "(IZ)I"⟩
abbrev cX9_isInPanel : ByteArray := prog_11_method_24_code
def yX9_isInPanel : MethodName := ⟨RX9, "isInPanel", "(I)Z"⟩
abbrev cX9_placeIn : ByteArray := prog_11_method_25_code
def yX9_placeIn : MethodName := ⟨RX9, "placeIn", "(II)I"⟩
abbrev cX9_turnOf : ByteArray := prog_11_method_26_code
def yX9_turnOf : MethodName := ⟨RX9, "turnOf", "(I)I"⟩
abbrev cX9_outOfTurns : ByteArray := prog_11_method_27_code
def yX9_outOfTurns : MethodName := ⟨RX9, "outOfTurns", "(I)V"⟩
abbrev cX9_leave : ByteArray := prog_11_method_28_code
def yX9_leave : MethodName := ⟨RX9, "leave", "(I)I"⟩
abbrev cX9_noGift : ByteArray := prog_11_method_29_code
def yX9_noGift : MethodName := ⟨RX9, "noGift", "(II)I"⟩
abbrev cX9_give : ByteArray := prog_11_method_30_code
def yX9_give : MethodName := ⟨RX9, "give", "(II)I"⟩
abbrev cX9_memberOf : ByteArray := prog_11_method_31_code
def yX9_memberOf : MethodName := ⟨RX9, "memberOf", "(II)I"⟩
abbrev cX9_account : ByteArray := prog_11_method_32_code
def yX9_account : MethodName := ⟨RX9, "account", "(I)I"⟩
abbrev cX9_debtorAt : ByteArray := prog_11_method_33_code
def yX9_debtorAt : MethodName := ⟨RX9, "debtorAt", "(I)I"⟩
abbrev cX9_real : ByteArray := prog_11_method_34_code
def yX9_real : MethodName := ⟨RX9, "real", "(I)F"⟩
abbrev cX9_bitsOf : ByteArray := prog_11_method_35_code
def yX9_bitsOf : MethodName := ⟨RX9, "bitsOf", "(F)I"⟩
abbrev cX9_thousandths : ByteArray := prog_11_method_36_code
def yX9_thousandths : MethodName := ⟨RX9, "thousandths", "(F)I"⟩
abbrev cX9_duller : ByteArray := prog_11_method_37_code
def yX9_duller : MethodName := ⟨RX9, "duller", "(II)F"⟩
abbrev cX9_tool : ByteArray := prog_11_method_38_code
def yX9_tool : MethodName := ⟨RX9, "tool", "(III)I"⟩
abbrev cX9_onHook : ByteArray := prog_11_method_39_code
def yX9_onHook : MethodName := ⟨RX9, "onHook", "(I)I"⟩
abbrev cX9_onWall : ByteArray := prog_11_method_40_code
def yX9_onWall : MethodName := ⟨RX9, "onWall", "(I)I"⟩
abbrev cX9_hang : ByteArray := prog_11_method_41_code
def yX9_hang : MethodName := ⟨RX9, "hang", "(III)I"⟩
abbrev cX9_noLoan : ByteArray := prog_11_method_42_code
def yX9_noLoan : MethodName := ⟨RX9, "noLoan", "(II)I"⟩
abbrev cX9_goesOut : ByteArray := prog_11_method_43_code
def yX9_goesOut : MethodName := ⟨RX9, "goesOut", "(IIII)V"⟩
abbrev cX9_borrows : ByteArray := prog_11_method_44_code
def yX9_borrows : MethodName := ⟨RX9, "borrows", "(II)V"⟩
abbrev cX9_borrow : ByteArray := prog_11_method_45_code
def yX9_borrow : MethodName := ⟨RX9, "borrow", "(II)I"⟩
abbrev cX9_noReturn : ByteArray := prog_11_method_46_code
def yX9_noReturn : MethodName := ⟨RX9, "noReturn", "(I)I"⟩
abbrev cX9_daysOut : ByteArray := prog_11_method_47_code
def yX9_daysOut : MethodName := ⟨RX9, "daysOut", "(I)I"⟩
abbrev cX9_returned : ByteArray := prog_11_method_48_code
def yX9_returned : MethodName := ⟨RX9, "returned", "(I)I"⟩
abbrev cX9_giveBack : ByteArray := prog_11_method_49_code
def yX9_giveBack : MethodName := ⟨RX9, "giveBack", "(I)I"⟩
abbrev cX9_isOut : ByteArray := prog_11_method_50_code
def yX9_isOut : MethodName := ⟨RX9, "isOut", "(I)Z"⟩
abbrev cX9_toolOf : ByteArray := prog_11_method_51_code
def yX9_toolOf : MethodName := ⟨RX9, "toolOf", "(II)I"⟩
abbrev cX9_bits : ByteArray := prog_11_method_52_code
def yX9_bits : MethodName := ⟨RX9, "bits", "(I)I"⟩
abbrev cX9_dullBehind : ByteArray := prog_11_method_53_code
def yX9_dullBehind : MethodName := ⟨RX9, "dullBehind", "(II)I"⟩
abbrev cX9_mean : ByteArray := prog_11_method_54_code
def yX9_mean : MethodName := ⟨RX9, "mean", "(I)I"⟩
abbrev cX9_hookAt : ByteArray := prog_11_method_55_code
def yX9_hookAt : MethodName := ⟨RX9, "hookAt", "(II)I"⟩
abbrev cX9_isCutter : ByteArray := prog_11_method_56_code
def yX9_isCutter : MethodName := ⟨RX9, "isCutter", "(I)Z"⟩
abbrev cX9_isDuller : ByteArray := prog_11_method_57_code
def yX9_isDuller : MethodName := ⟨RX9, "isDuller", "(II)Z"⟩
abbrev cX9_dullest : ByteArray := prog_11_method_58_code
def yX9_dullest : MethodName := ⟨RX9, "dullest", "()I"⟩
abbrev cX9_whoSharpens : ByteArray := prog_11_method_59_code
def yX9_whoSharpens : MethodName := ⟨RX9, "whoSharpens", "()I"⟩
abbrev cX9_isDull : ByteArray := prog_11_method_60_code
def yX9_isDull : MethodName := ⟨RX9, "isDull", "(I)Z"⟩
abbrev cX9_sharpens : ByteArray := prog_11_method_61_code
def yX9_sharpens : MethodName := ⟨RX9, "sharpens", "(II)V"⟩
abbrev cX9_sharpen : ByteArray := prog_11_method_62_code
def yX9_sharpen : MethodName := ⟨RX9, "sharpen", "()I"⟩
abbrev cX9_swap : ByteArray := prog_11_method_63_code
def yX9_swap : MethodName := ⟨RX9, "swap", "(II)I"⟩
abbrev cX9_turnAt : ByteArray := prog_11_method_64_code
def yX9_turnAt : MethodName := ⟨RX9, "turnAt", "(I)I"⟩
abbrev cX9_dullAt : ByteArray := prog_11_method_65_code
def yX9_dullAt : MethodName := ⟨RX9, "dullAt", "(I)I"⟩
abbrev cX9_isCalled : ByteArray := prog_11_method_66_code
def yX9_isCalled : MethodName := ⟨RX9, "isCalled", "(II)Z"⟩
abbrev cX9_calls : ByteArray := prog_11_method_67_code
def yX9_calls : MethodName := ⟨RX9, "calls", "(I)Z"⟩
abbrev cX9_lose : ByteArray := prog_11_method_68_code
def yX9_lose : MethodName := ⟨RX9, "lose", "(I)I"⟩
abbrev cX9_decided : ByteArray := prog_11_method_69_code
def yX9_decided : MethodName := ⟨RX9, "decided", "(I)I"⟩
abbrev cX9_paysFor : ByteArray := prog_11_method_70_code
def yX9_paysFor : MethodName := ⟨RX9, "paysFor", "(II)V"⟩
abbrev cX9_say : ByteArray := prog_11_method_71_code
def yX9_say : MethodName := ⟨RX9, "say", "(III)I"⟩
abbrev cX9_find : ByteArray := prog_11_method_72_code
def yX9_find : MethodName := ⟨RX9, "find", "(I)I"⟩
abbrev cX9_panelAt : ByteArray := prog_11_method_73_code
def yX9_panelAt : MethodName := ⟨RX9, "panelAt", "(III)I"⟩
abbrev cX9_propose : ByteArray := prog_11_method_74_code
def yX9_propose : MethodName := ⟨RX9, "propose", "(III)I"⟩
abbrev cX9_bitsIn : ByteArray := prog_11_method_75_code
def yX9_bitsIn : MethodName := ⟨RX9, "bitsIn", "(I)I"⟩
abbrev cX9_counted : ByteArray := prog_11_method_76_code
def yX9_counted : MethodName := ⟨RX9, "counted", "(I)I"⟩
abbrev cX9_vote : ByteArray := prog_11_method_77_code
def yX9_vote : MethodName := ⟨RX9, "vote", "(III)I"⟩
abbrev cX9_proposalOf : ByteArray := prog_11_method_78_code
def yX9_proposalOf : MethodName := ⟨RX9, "proposalOf", "(II)I"⟩
abbrev cX9_lendOut : ByteArray := prog_11_method_79_code
def yX9_lendOut : MethodName := ⟨RX9, "lendOut", "(IIII)I"⟩
abbrev cX9_comeBack : ByteArray := prog_11_method_80_code
def yX9_comeBack : MethodName := ⟨RX9, "comeBack", "(I)I"⟩
abbrev cX9_dayBegins : ByteArray := prog_11_method_81_code
def yX9_dayBegins : MethodName := ⟨RX9, "dayBegins", "()V"⟩
abbrev cX9_pass : ByteArray := prog_11_method_82_code
def yX9_pass : MethodName := ⟨RX9, "pass", "(I)I"⟩
abbrev cX9_inStatus : ByteArray := prog_11_method_83_code
def yX9_inStatus : MethodName := ⟨RX9, "inStatus", "(I)I"⟩
abbrev cX9_inPlace : ByteArray := prog_11_method_84_code
def yX9_inPlace : MethodName := ⟨RX9, "inPlace", "(I)I"⟩
abbrev cX9_proposals : ByteArray := prog_11_method_85_code
def yX9_proposals : MethodName := ⟨RX9, "proposals", "()I"⟩
abbrev cX9_count : ByteArray := prog_11_method_86_code
def yX9_count : MethodName := ⟨RX9, "count", "(I)I"⟩
abbrev cX9_undo : ByteArray := prog_11_method_87_code
def yX9_undo : MethodName := ⟨RX9, "undo", "()I"⟩
abbrev cX9_type : ByteArray := prog_11_method_88_code
def yX9_type : MethodName := ⟨RX9, "type", "(I)I"⟩
abbrev cX9_clearText : ByteArray := prog_11_method_89_code
def yX9_clearText : MethodName := ⟨RX9, "clearText", "()I"⟩
abbrev cX9_here : ByteArray := prog_11_method_90_code
def yX9_here : MethodName := ⟨RX9, "here", "()I"⟩
abbrev cX9_number : ByteArray := prog_11_method_91_code
def yX9_number : MethodName := ⟨RX9, "number", "()I"⟩
abbrev cX9_passes : ByteArray := prog_11_method_92_code
def yX9_passes : MethodName := ⟨RX9, "passes", "(I)Z"⟩
abbrev cX9_readOrder : ByteArray := prog_11_method_93_code
def yX9_readOrder : MethodName := ⟨RX9, "readOrder", "()Z"⟩
abbrev cX9_does : ByteArray := prog_11_method_94_code
def yX9_does : MethodName := ⟨RX9, "does", "()I"⟩
abbrev cX9_runs : ByteArray := prog_11_method_95_code
def yX9_runs : MethodName := ⟨RX9, "runs", "()I"⟩
abbrev cX9_fault : ByteArray := prog_11_method_96_code
def yX9_fault : MethodName := ⟨RX9, "fault", "(I)I"⟩
abbrev cX9_play : ByteArray := prog_11_method_97_code
def yX9_play : MethodName := ⟨RX9, "play", "()I"⟩
def RJxf58ca : String := "java/lang/Float"
def TJxf58ca : u_T := fun k => match k with
  | _ => ("", "", "", false)
def tyJxf58ca : Nat → FieldType := fun k => match k with
  | _ => .int
abbrev wsJxf58ca0 : List Cond := u_ws RJxf58ca TJxf58ca 0
theorem nmJxf58ca : ∀ a, a < 0 → ∀ b, b < 0 → a ≠ b → (TJxf58ca a).2.1 ≠ (TJxf58ca b).2.1 := by decide +kernel
theorem tyJxf58ca_ok : ∀ k, k < 0 → parseFieldDescriptor (TJxf58ca k).2.2.1 = some (tyJxf58ca k) := by decide +kernel
abbrev cJxf58ca_isNaN_12338 : ByteArray := prog_12_method_6_code
def yJxf58ca_isNaN_12338 : MethodName := ⟨RJxf58ca, "isNaN", "(F)Z"⟩
abbrev cJxf58ca_floatToIntBits_5c35a : ByteArray := prog_12_method_24_code
def yJxf58ca_floatToIntBits_5c35a : MethodName := ⟨RJxf58ca, "floatToIntBits", "(F)I"⟩
def RJ9 : String := "java/lang/Math"
def TJ9 : u_T := fun k => match k with
  | _ => ("", "", "", false)
def tyJ9 : Nat → FieldType := fun k => match k with
  | _ => .int
abbrev wsJ90 : List Cond := u_ws RJ9 TJ9 0
theorem nmJ9 : ∀ a, a < 0 → ∀ b, b < 0 → a ≠ b → (TJ9 a).2.1 ≠ (TJ9 b).2.1 := by decide +kernel
theorem tyJ9_ok : ∀ k, k < 0 → parseFieldDescriptor (TJ9 k).2.2.1 = some (tyJ9 k) := by decide +kernel
abbrev cJ9_max_7cf53 : ByteArray := prog_13_method_65_code
def yJ9_max_7cf53 : MethodName := ⟨RJ9, "max", "(II)I"⟩
abbrev cJ9_min_7cf53 : ByteArray := prog_13_method_69_code
def yJ9_min_7cf53 : MethodName := ⟨RJ9, "min", "(II)I"⟩
def RJ10 : String := "java/lang/System"
def TJ10 : u_T := fun k => match k with
  | _ => ("", "", "", false)
def tyJ10 : Nat → FieldType := fun k => match k with
  | _ => .int
abbrev wsJ100 : List Cond := u_ws RJ10 TJ10 0
theorem nmJ10 : ∀ a, a < 0 → ∀ b, b < 0 → a ≠ b → (TJ10 a).2.1 ≠ (TJ10 b).2.1 := by decide +kernel
theorem tyJ10_ok : ∀ k, k < 0 → parseFieldDescriptor (TJ10 k).2.2.1 = some (tyJ10 k) := by decide +kernel
def RL : String := "ToolShedLaw"
abbrev cL_law : ByteArray := code
def yL_law : MethodName := ⟨RL, "law", "([I)Z"⟩
abbrev vwCl : List vw_C := [(RX0, TX0, 2), (RX1, TX1, 1), (RX2, TX2, 5), (RX3, TX3, 6), (RX4, TX4, 3), (RX5, TX5, 7), (RX6, TX6, 5), (RX7, TX7, 14), (RX8, TX8, 4), (RX9, TX9, 14)]
