section
/-- a private method of a class that the tables say can be made, by its rows of tables_1 -/
def lw_okq (q : MethodName × Nat) : Prop := (q.1.cls ≠ "java/lang/invoke/MethodHandle" ∧ q.1.cls ≠ "java/lang/invoke/VarHandle") ∧ Cond.instantiable q.1.cls q.2 ∈ tables_1 ∧ Cond.privateMethod q.1 ∈ tables_1 ∧ Cond.instanceMethod q.1 ∈ tables_1
theorem lw_p0 : lw_okq (⟨"ToolShed", "changed", "(I)I"⟩, 4) := ⟨⟨by decide +kernel, by decide +kernel⟩, List.mem_of_getElem? (i := 15) (by decide +kernel), List.mem_of_getElem? (i := 307) (by decide +kernel), List.mem_of_getElem? (i := 308) (by decide +kernel)⟩
theorem lw_p1 : lw_okq (⟨"ToolShed$Members", "putBehindTurns", "(I)V"⟩, 5) := ⟨⟨by decide +kernel, by decide +kernel⟩, List.mem_of_getElem? (i := 29) (by decide +kernel), List.mem_of_getElem? (i := 324) (by decide +kernel), List.mem_of_getElem? (i := 325) (by decide +kernel)⟩
theorem lw_p2 : lw_okq (⟨"ToolShed$Shed", "isBound", "(I)Z"⟩, 5) := ⟨⟨by decide +kernel, by decide +kernel⟩, List.mem_of_getElem? (i := 23) (by decide +kernel), List.mem_of_getElem? (i := 360) (by decide +kernel), List.mem_of_getElem? (i := 361) (by decide +kernel)⟩
theorem lw_p3 : lw_okq (⟨"ToolShed$Members", "takeOutOfTurns", "(I)V"⟩, 5) := ⟨⟨by decide +kernel, by decide +kernel⟩, List.mem_of_getElem? (i := 29) (by decide +kernel), List.mem_of_getElem? (i := 389) (by decide +kernel), List.mem_of_getElem? (i := 390) (by decide +kernel)⟩
theorem lw_p4 : lw_okq (⟨"ToolShed$Member", "payOpen", "(I)V"⟩, 1) := ⟨⟨by decide +kernel, by decide +kernel⟩, List.mem_of_getElem? (i := 36) (by decide +kernel), List.mem_of_getElem? (i := 406) (by decide +kernel), List.mem_of_getElem? (i := 407) (by decide +kernel)⟩
theorem lw_p5 : lw_okq (⟨"ToolShed$Shed", "toolsOfMember", "(IZ)I"⟩, 5) := ⟨⟨by decide +kernel, by decide +kernel⟩, List.mem_of_getElem? (i := 23) (by decide +kernel), List.mem_of_getElem? (i := 442) (by decide +kernel), List.mem_of_getElem? (i := 443) (by decide +kernel)⟩
theorem lw_p6 : lw_okq (⟨"ToolShed$Members", "debtorsAheadOf", "(I)I"⟩, 5) := ⟨⟨by decide +kernel, by decide +kernel⟩, List.mem_of_getElem? (i := 29) (by decide +kernel), List.mem_of_getElem? (i := 463) (by decide +kernel), List.mem_of_getElem? (i := 464) (by decide +kernel)⟩
theorem lw_p7 : lw_okq (⟨"ToolShed$Shed", "isHook", "(II)Z"⟩, 5) := ⟨⟨by decide +kernel, by decide +kernel⟩, List.mem_of_getElem? (i := 23) (by decide +kernel), List.mem_of_getElem? (i := 488) (by decide +kernel), List.mem_of_getElem? (i := 489) (by decide +kernel)⟩
theorem lw_p8 : lw_okq (⟨"ToolShed$Shed", "countTaken", "(I)I"⟩, 5) := ⟨⟨by decide +kernel, by decide +kernel⟩, List.mem_of_getElem? (i := 23) (by decide +kernel), List.mem_of_getElem? (i := 501) (by decide +kernel), List.mem_of_getElem? (i := 502) (by decide +kernel)⟩
theorem lw_p9 : lw_okq (⟨"ToolShed$Shed", "cuttersAheadOf", "(I)I"⟩, 5) := ⟨⟨by decide +kernel, by decide +kernel⟩, List.mem_of_getElem? (i := 23) (by decide +kernel), List.mem_of_getElem? (i := 622) (by decide +kernel), List.mem_of_getElem? (i := 623) (by decide +kernel)⟩
theorem lw_p10 : lw_okq (⟨"ToolShed$Members", "nextForPanel", "(II)I"⟩, 5) := ⟨⟨by decide +kernel, by decide +kernel⟩, List.mem_of_getElem? (i := 29) (by decide +kernel), List.mem_of_getElem? (i := 669) (by decide +kernel), List.mem_of_getElem? (i := 670) (by decide +kernel)⟩
theorem lw_p11 : lw_okq (⟨"ToolShed$Shed", "settleLoss", "(LToolShed$Tool;I)V"⟩, 5) := ⟨⟨by decide +kernel, by decide +kernel⟩, List.mem_of_getElem? (i := 23) (by decide +kernel), List.mem_of_getElem? (i := 705) (by decide +kernel), List.mem_of_getElem? (i := 706) (by decide +kernel)⟩
theorem lw_p12 : lw_okq (⟨"ToolShed$Shed", "beginDay", "()V"⟩, 5) := ⟨⟨by decide +kernel, by decide +kernel⟩, List.mem_of_getElem? (i := 23) (by decide +kernel), List.mem_of_getElem? (i := 801) (by decide +kernel), List.mem_of_getElem? (i := 802) (by decide +kernel)⟩
theorem lw_p13 : lw_okq (⟨"ToolShed$Shed", "countAtPlace", "(I)I"⟩, 5) := ⟨⟨by decide +kernel, by decide +kernel⟩, List.mem_of_getElem? (i := 23) (by decide +kernel), List.mem_of_getElem? (i := 822) (by decide +kernel), List.mem_of_getElem? (i := 823) (by decide +kernel)⟩
theorem lw_p14 : lw_okq (⟨"ToolShed$Shed", "countProposals", "()I"⟩, 5) := ⟨⟨by decide +kernel, by decide +kernel⟩, List.mem_of_getElem? (i := 23) (by decide +kernel), List.mem_of_getElem? (i := 826) (by decide +kernel), List.mem_of_getElem? (i := 827) (by decide +kernel)⟩
theorem lw_p15 : lw_okq (⟨"ToolShed$Orders", "runOrder", "(LToolShed$Shed;)I"⟩, 6) := ⟨⟨by decide +kernel, by decide +kernel⟩, List.mem_of_getElem? (i := 220) (by decide +kernel), List.mem_of_getElem? (i := 867) (by decide +kernel), List.mem_of_getElem? (i := 868) (by decide +kernel)⟩
def lw_privs_1 : List (MethodName × Nat) := [(⟨"ToolShed", "changed", "(I)I"⟩, 4), (⟨"ToolShed$Members", "putBehindTurns", "(I)V"⟩, 5), (⟨"ToolShed$Shed", "isBound", "(I)Z"⟩, 5), (⟨"ToolShed$Members", "takeOutOfTurns", "(I)V"⟩, 5), (⟨"ToolShed$Member", "payOpen", "(I)V"⟩, 1), (⟨"ToolShed$Shed", "toolsOfMember", "(IZ)I"⟩, 5), (⟨"ToolShed$Members", "debtorsAheadOf", "(I)I"⟩, 5), (⟨"ToolShed$Shed", "isHook", "(II)Z"⟩, 5), (⟨"ToolShed$Shed", "countTaken", "(I)I"⟩, 5), (⟨"ToolShed$Shed", "cuttersAheadOf", "(I)I"⟩, 5), (⟨"ToolShed$Members", "nextForPanel", "(II)I"⟩, 5), (⟨"ToolShed$Shed", "settleLoss", "(LToolShed$Tool;I)V"⟩, 5), (⟨"ToolShed$Shed", "beginDay", "()V"⟩, 5), (⟨"ToolShed$Shed", "countAtPlace", "(I)I"⟩, 5), (⟨"ToolShed$Shed", "countProposals", "()I"⟩, 5), (⟨"ToolShed$Orders", "runOrder", "(LToolShed$Shed;)I"⟩, 6)]
theorem lw_r1 : ∀ q ∈ lw_privs_1, lw_okq q := List.forall_mem_cons.mpr ⟨lw_p0, List.forall_mem_cons.mpr ⟨lw_p1, List.forall_mem_cons.mpr ⟨lw_p2, List.forall_mem_cons.mpr ⟨lw_p3, List.forall_mem_cons.mpr ⟨lw_p4, List.forall_mem_cons.mpr ⟨lw_p5, List.forall_mem_cons.mpr ⟨lw_p6, List.forall_mem_cons.mpr ⟨lw_p7, List.forall_mem_cons.mpr ⟨lw_p8, List.forall_mem_cons.mpr ⟨lw_p9, List.forall_mem_cons.mpr ⟨lw_p10, List.forall_mem_cons.mpr ⟨lw_p11, List.forall_mem_cons.mpr ⟨lw_p12, List.forall_mem_cons.mpr ⟨lw_p13, List.forall_mem_cons.mpr ⟨lw_p14, List.forall_mem_cons.mpr ⟨lw_p15, fun _ h => absurd h List.not_mem_nil⟩⟩⟩⟩⟩⟩⟩⟩⟩⟩⟩⟩⟩⟩⟩⟩
theorem lw_p16 : lw_okq (⟨"ToolShed$Orders", "peek", "()C"⟩, 6) := ⟨⟨by decide +kernel, by decide +kernel⟩, List.mem_of_getElem? (i := 220) (by decide +kernel), List.mem_of_getElem? (i := 871) (by decide +kernel), List.mem_of_getElem? (i := 872) (by decide +kernel)⟩
theorem lw_p17 : lw_okq (⟨"ToolShed$Orders", "readNumber", "()I"⟩, 6) := ⟨⟨by decide +kernel, by decide +kernel⟩, List.mem_of_getElem? (i := 220) (by decide +kernel), List.mem_of_getElem? (i := 875) (by decide +kernel), List.mem_of_getElem? (i := 876) (by decide +kernel)⟩
theorem lw_p18 : lw_okq (⟨"ToolShed$Orders", "takes", "(C)Z"⟩, 6) := ⟨⟨by decide +kernel, by decide +kernel⟩, List.mem_of_getElem? (i := 220) (by decide +kernel), List.mem_of_getElem? (i := 880) (by decide +kernel), List.mem_of_getElem? (i := 881) (by decide +kernel)⟩
theorem lw_p19 : lw_okq (⟨"ToolShed$Orders", "carryOut", "(LToolShed$Shed;CII)I"⟩, 6) := ⟨⟨by decide +kernel, by decide +kernel⟩, List.mem_of_getElem? (i := 220) (by decide +kernel), List.mem_of_getElem? (i := 884) (by decide +kernel), List.mem_of_getElem? (i := 885) (by decide +kernel)⟩
theorem lw_p20 : lw_okq (⟨"ToolShedModel", "hold", "()V"⟩, 14) := ⟨⟨by decide +kernel, by decide +kernel⟩, List.mem_of_getElem? (i := 901) (by decide +kernel), List.mem_of_getElem? (i := 961) (by decide +kernel), List.mem_of_getElem? (i := 962) (by decide +kernel)⟩
theorem lw_p21 : lw_okq (⟨"ToolShedModel", "ends", "(I)I"⟩, 14) := ⟨⟨by decide +kernel, by decide +kernel⟩, List.mem_of_getElem? (i := 901) (by decide +kernel), List.mem_of_getElem? (i := 968) (by decide +kernel), List.mem_of_getElem? (i := 969) (by decide +kernel)⟩
theorem lw_p22 : lw_okq (⟨"ToolShedModel", "isMember", "(I)Z"⟩, 14) := ⟨⟨by decide +kernel, by decide +kernel⟩, List.mem_of_getElem? (i := 901) (by decide +kernel), List.mem_of_getElem? (i := 982) (by decide +kernel), List.mem_of_getElem? (i := 983) (by decide +kernel)⟩
theorem lw_p23 : lw_okq (⟨"ToolShedModel", "of", "(II)I"⟩, 14) := ⟨⟨by decide +kernel, by decide +kernel⟩, List.mem_of_getElem? (i := 901) (by decide +kernel), List.mem_of_getElem? (i := 986) (by decide +kernel), List.mem_of_getElem? (i := 987) (by decide +kernel)⟩
theorem lw_p24 : lw_okq (⟨"ToolShedModel", "toolsOf", "(IZ)I"⟩, 14) := ⟨⟨by decide +kernel, by decide +kernel⟩, List.mem_of_getElem? (i := 901) (by decide +kernel), List.mem_of_getElem? (i := 995) (by decide +kernel), List.mem_of_getElem? (i := 996) (by decide +kernel)⟩
theorem lw_p25 : lw_okq (⟨"ToolShedModel", "its", "(II)I"⟩, 14) := ⟨⟨by decide +kernel, by decide +kernel⟩, List.mem_of_getElem? (i := 901) (by decide +kernel), List.mem_of_getElem? (i := 999) (by decide +kernel), List.mem_of_getElem? (i := 1000) (by decide +kernel)⟩
theorem lw_p26 : lw_okq (⟨"ToolShedModel", "openOf", "(I)I"⟩, 14) := ⟨⟨by decide +kernel, by decide +kernel⟩, List.mem_of_getElem? (i := 901) (by decide +kernel), List.mem_of_getElem? (i := 1003) (by decide +kernel), List.mem_of_getElem? (i := 1004) (by decide +kernel)⟩
theorem lw_p27 : lw_okq (⟨"ToolShedModel", "isInPanel", "(I)Z"⟩, 14) := ⟨⟨by decide +kernel, by decide +kernel⟩, List.mem_of_getElem? (i := 901) (by decide +kernel), List.mem_of_getElem? (i := 1007) (by decide +kernel), List.mem_of_getElem? (i := 1008) (by decide +kernel)⟩
theorem lw_p28 : lw_okq (⟨"ToolShedModel", "placeIn", "(II)I"⟩, 14) := ⟨⟨by decide +kernel, by decide +kernel⟩, List.mem_of_getElem? (i := 901) (by decide +kernel), List.mem_of_getElem? (i := 1011) (by decide +kernel), List.mem_of_getElem? (i := 1012) (by decide +kernel)⟩
theorem lw_p29 : lw_okq (⟨"ToolShedModel", "sharing", "(I)I"⟩, 14) := ⟨⟨by decide +kernel, by decide +kernel⟩, List.mem_of_getElem? (i := 901) (by decide +kernel), List.mem_of_getElem? (i := 1015) (by decide +kernel), List.mem_of_getElem? (i := 1016) (by decide +kernel)⟩
theorem lw_p30 : lw_okq (⟨"ToolShedModel", "shares", "(II)Z"⟩, 14) := ⟨⟨by decide +kernel, by decide +kernel⟩, List.mem_of_getElem? (i := 901) (by decide +kernel), List.mem_of_getElem? (i := 1019) (by decide +kernel), List.mem_of_getElem? (i := 1020) (by decide +kernel)⟩
theorem lw_p31 : lw_okq (⟨"ToolShedModel", "outOfTurns", "(I)V"⟩, 14) := ⟨⟨by decide +kernel, by decide +kernel⟩, List.mem_of_getElem? (i := 901) (by decide +kernel), List.mem_of_getElem? (i := 1023) (by decide +kernel), List.mem_of_getElem? (i := 1024) (by decide +kernel)⟩
def lw_privs_2 : List (MethodName × Nat) := [(⟨"ToolShed$Orders", "peek", "()C"⟩, 6), (⟨"ToolShed$Orders", "readNumber", "()I"⟩, 6), (⟨"ToolShed$Orders", "takes", "(C)Z"⟩, 6), (⟨"ToolShed$Orders", "carryOut", "(LToolShed$Shed;CII)I"⟩, 6), (⟨"ToolShedModel", "hold", "()V"⟩, 14), (⟨"ToolShedModel", "ends", "(I)I"⟩, 14), (⟨"ToolShedModel", "isMember", "(I)Z"⟩, 14), (⟨"ToolShedModel", "of", "(II)I"⟩, 14), (⟨"ToolShedModel", "toolsOf", "(IZ)I"⟩, 14), (⟨"ToolShedModel", "its", "(II)I"⟩, 14), (⟨"ToolShedModel", "openOf", "(I)I"⟩, 14), (⟨"ToolShedModel", "isInPanel", "(I)Z"⟩, 14), (⟨"ToolShedModel", "placeIn", "(II)I"⟩, 14), (⟨"ToolShedModel", "sharing", "(I)I"⟩, 14), (⟨"ToolShedModel", "shares", "(II)Z"⟩, 14), (⟨"ToolShedModel", "outOfTurns", "(I)V"⟩, 14)]
theorem lw_r2 : ∀ q ∈ lw_privs_2, lw_okq q := List.forall_mem_cons.mpr ⟨lw_p16, List.forall_mem_cons.mpr ⟨lw_p17, List.forall_mem_cons.mpr ⟨lw_p18, List.forall_mem_cons.mpr ⟨lw_p19, List.forall_mem_cons.mpr ⟨lw_p20, List.forall_mem_cons.mpr ⟨lw_p21, List.forall_mem_cons.mpr ⟨lw_p22, List.forall_mem_cons.mpr ⟨lw_p23, List.forall_mem_cons.mpr ⟨lw_p24, List.forall_mem_cons.mpr ⟨lw_p25, List.forall_mem_cons.mpr ⟨lw_p26, List.forall_mem_cons.mpr ⟨lw_p27, List.forall_mem_cons.mpr ⟨lw_p28, List.forall_mem_cons.mpr ⟨lw_p29, List.forall_mem_cons.mpr ⟨lw_p30, List.forall_mem_cons.mpr ⟨lw_p31, fun _ h => absurd h List.not_mem_nil⟩⟩⟩⟩⟩⟩⟩⟩⟩⟩⟩⟩⟩⟩⟩⟩
theorem lw_p32 : lw_okq (⟨"ToolShedModel", "turnOf", "(I)I"⟩, 14) := ⟨⟨by decide +kernel, by decide +kernel⟩, List.mem_of_getElem? (i := 901) (by decide +kernel), List.mem_of_getElem? (i := 1027) (by decide +kernel), List.mem_of_getElem? (i := 1028) (by decide +kernel)⟩
theorem lw_p33 : lw_okq (⟨"ToolShedModel", "more", "(III)V"⟩, 14) := ⟨⟨by decide +kernel, by decide +kernel⟩, List.mem_of_getElem? (i := 901) (by decide +kernel), List.mem_of_getElem? (i := 1031) (by decide +kernel), List.mem_of_getElem? (i := 1032) (by decide +kernel)⟩
theorem lw_p34 : lw_okq (⟨"ToolShedModel", "shared", "(III)V"⟩, 14) := ⟨⟨by decide +kernel, by decide +kernel⟩, List.mem_of_getElem? (i := 901) (by decide +kernel), List.mem_of_getElem? (i := 1035) (by decide +kernel), List.mem_of_getElem? (i := 1036) (by decide +kernel)⟩
theorem lw_p35 : lw_okq (⟨"ToolShedModel", "gains", "(III)V"⟩, 14) := ⟨⟨by decide +kernel, by decide +kernel⟩, List.mem_of_getElem? (i := 901) (by decide +kernel), List.mem_of_getElem? (i := 1039) (by decide +kernel), List.mem_of_getElem? (i := 1040) (by decide +kernel)⟩
theorem lw_p36 : lw_okq (⟨"ToolShedModel", "charges", "(III)V"⟩, 14) := ⟨⟨by decide +kernel, by decide +kernel⟩, List.mem_of_getElem? (i := 901) (by decide +kernel), List.mem_of_getElem? (i := 1043) (by decide +kernel), List.mem_of_getElem? (i := 1044) (by decide +kernel)⟩
theorem lw_p37 : lw_okq (⟨"ToolShedModel", "noGift", "(II)I"⟩, 14) := ⟨⟨by decide +kernel, by decide +kernel⟩, List.mem_of_getElem? (i := 901) (by decide +kernel), List.mem_of_getElem? (i := 1051) (by decide +kernel), List.mem_of_getElem? (i := 1052) (by decide +kernel)⟩
theorem lw_p38 : lw_okq (⟨"ToolShedModel", "lay", "(III)V"⟩, 14) := ⟨⟨by decide +kernel, by decide +kernel⟩, List.mem_of_getElem? (i := 901) (by decide +kernel), List.mem_of_getElem? (i := 1071) (by decide +kernel), List.mem_of_getElem? (i := 1072) (by decide +kernel)⟩
theorem lw_p39 : lw_okq (⟨"ToolShedModel", "isTool", "(I)Z"⟩, 14) := ⟨⟨by decide +kernel, by decide +kernel⟩, List.mem_of_getElem? (i := 901) (by decide +kernel), List.mem_of_getElem? (i := 1092) (by decide +kernel), List.mem_of_getElem? (i := 1093) (by decide +kernel)⟩
theorem lw_p40 : lw_okq (⟨"ToolShedModel", "onHook", "(I)I"⟩, 14) := ⟨⟨by decide +kernel, by decide +kernel⟩, List.mem_of_getElem? (i := 901) (by decide +kernel), List.mem_of_getElem? (i := 1096) (by decide +kernel), List.mem_of_getElem? (i := 1097) (by decide +kernel)⟩
theorem lw_p41 : lw_okq (⟨"ToolShedModel", "onWall", "(I)I"⟩, 14) := ⟨⟨by decide +kernel, by decide +kernel⟩, List.mem_of_getElem? (i := 901) (by decide +kernel), List.mem_of_getElem? (i := 1100) (by decide +kernel), List.mem_of_getElem? (i := 1101) (by decide +kernel)⟩
theorem lw_p42 : lw_okq (⟨"ToolShedModel", "noLoan", "(II)I"⟩, 14) := ⟨⟨by decide +kernel, by decide +kernel⟩, List.mem_of_getElem? (i := 901) (by decide +kernel), List.mem_of_getElem? (i := 1108) (by decide +kernel), List.mem_of_getElem? (i := 1109) (by decide +kernel)⟩
theorem lw_p43 : lw_okq (⟨"ToolShedModel", "borrows", "(II)V"⟩, 14) := ⟨⟨by decide +kernel, by decide +kernel⟩, List.mem_of_getElem? (i := 901) (by decide +kernel), List.mem_of_getElem? (i := 1112) (by decide +kernel), List.mem_of_getElem? (i := 1113) (by decide +kernel)⟩
theorem lw_p44 : lw_okq (⟨"ToolShedModel", "goesOut", "(IIII)V"⟩, 14) := ⟨⟨by decide +kernel, by decide +kernel⟩, List.mem_of_getElem? (i := 901) (by decide +kernel), List.mem_of_getElem? (i := 1116) (by decide +kernel), List.mem_of_getElem? (i := 1117) (by decide +kernel)⟩
theorem lw_p45 : lw_okq (⟨"ToolShedModel", "noReturn", "(I)I"⟩, 14) := ⟨⟨by decide +kernel, by decide +kernel⟩, List.mem_of_getElem? (i := 901) (by decide +kernel), List.mem_of_getElem? (i := 1124) (by decide +kernel), List.mem_of_getElem? (i := 1125) (by decide +kernel)⟩
theorem lw_p46 : lw_okq (⟨"ToolShedModel", "returned", "(I)I"⟩, 14) := ⟨⟨by decide +kernel, by decide +kernel⟩, List.mem_of_getElem? (i := 901) (by decide +kernel), List.mem_of_getElem? (i := 1128) (by decide +kernel), List.mem_of_getElem? (i := 1129) (by decide +kernel)⟩
theorem lw_p47 : lw_okq (⟨"ToolShedModel", "daysOut", "(I)I"⟩, 14) := ⟨⟨by decide +kernel, by decide +kernel⟩, List.mem_of_getElem? (i := 901) (by decide +kernel), List.mem_of_getElem? (i := 1132) (by decide +kernel), List.mem_of_getElem? (i := 1133) (by decide +kernel)⟩
def lw_privs_3 : List (MethodName × Nat) := [(⟨"ToolShedModel", "turnOf", "(I)I"⟩, 14), (⟨"ToolShedModel", "more", "(III)V"⟩, 14), (⟨"ToolShedModel", "shared", "(III)V"⟩, 14), (⟨"ToolShedModel", "gains", "(III)V"⟩, 14), (⟨"ToolShedModel", "charges", "(III)V"⟩, 14), (⟨"ToolShedModel", "noGift", "(II)I"⟩, 14), (⟨"ToolShedModel", "lay", "(III)V"⟩, 14), (⟨"ToolShedModel", "isTool", "(I)Z"⟩, 14), (⟨"ToolShedModel", "onHook", "(I)I"⟩, 14), (⟨"ToolShedModel", "onWall", "(I)I"⟩, 14), (⟨"ToolShedModel", "noLoan", "(II)I"⟩, 14), (⟨"ToolShedModel", "borrows", "(II)V"⟩, 14), (⟨"ToolShedModel", "goesOut", "(IIII)V"⟩, 14), (⟨"ToolShedModel", "noReturn", "(I)I"⟩, 14), (⟨"ToolShedModel", "returned", "(I)I"⟩, 14), (⟨"ToolShedModel", "daysOut", "(I)I"⟩, 14)]
theorem lw_r3 : ∀ q ∈ lw_privs_3, lw_okq q := List.forall_mem_cons.mpr ⟨lw_p32, List.forall_mem_cons.mpr ⟨lw_p33, List.forall_mem_cons.mpr ⟨lw_p34, List.forall_mem_cons.mpr ⟨lw_p35, List.forall_mem_cons.mpr ⟨lw_p36, List.forall_mem_cons.mpr ⟨lw_p37, List.forall_mem_cons.mpr ⟨lw_p38, List.forall_mem_cons.mpr ⟨lw_p39, List.forall_mem_cons.mpr ⟨lw_p40, List.forall_mem_cons.mpr ⟨lw_p41, List.forall_mem_cons.mpr ⟨lw_p42, List.forall_mem_cons.mpr ⟨lw_p43, List.forall_mem_cons.mpr ⟨lw_p44, List.forall_mem_cons.mpr ⟨lw_p45, List.forall_mem_cons.mpr ⟨lw_p46, List.forall_mem_cons.mpr ⟨lw_p47, fun _ h => absurd h List.not_mem_nil⟩⟩⟩⟩⟩⟩⟩⟩⟩⟩⟩⟩⟩⟩⟩⟩
theorem lw_p48 : lw_okq (⟨"ToolShedModel", "duller", "(II)F"⟩, 14) := ⟨⟨by decide +kernel, by decide +kernel⟩, List.mem_of_getElem? (i := 901) (by decide +kernel), List.mem_of_getElem? (i := 1136) (by decide +kernel), List.mem_of_getElem? (i := 1137) (by decide +kernel)⟩
theorem lw_p49 : lw_okq (⟨"ToolShedModel", "isOut", "(I)Z"⟩, 14) := ⟨⟨by decide +kernel, by decide +kernel⟩, List.mem_of_getElem? (i := 901) (by decide +kernel), List.mem_of_getElem? (i := 1151) (by decide +kernel), List.mem_of_getElem? (i := 1152) (by decide +kernel)⟩
theorem lw_p50 : lw_okq (⟨"ToolShedModel", "whoSharpens", "()I"⟩, 14) := ⟨⟨by decide +kernel, by decide +kernel⟩, List.mem_of_getElem? (i := 901) (by decide +kernel), List.mem_of_getElem? (i := 1180) (by decide +kernel), List.mem_of_getElem? (i := 1181) (by decide +kernel)⟩
theorem lw_p51 : lw_okq (⟨"ToolShedModel", "dullest", "()I"⟩, 14) := ⟨⟨by decide +kernel, by decide +kernel⟩, List.mem_of_getElem? (i := 901) (by decide +kernel), List.mem_of_getElem? (i := 1184) (by decide +kernel), List.mem_of_getElem? (i := 1185) (by decide +kernel)⟩
theorem lw_p52 : lw_okq (⟨"ToolShedModel", "isCutter", "(I)Z"⟩, 14) := ⟨⟨by decide +kernel, by decide +kernel⟩, List.mem_of_getElem? (i := 901) (by decide +kernel), List.mem_of_getElem? (i := 1188) (by decide +kernel), List.mem_of_getElem? (i := 1189) (by decide +kernel)⟩
theorem lw_p53 : lw_okq (⟨"ToolShedModel", "isDuller", "(II)Z"⟩, 14) := ⟨⟨by decide +kernel, by decide +kernel⟩, List.mem_of_getElem? (i := 901) (by decide +kernel), List.mem_of_getElem? (i := 1192) (by decide +kernel), List.mem_of_getElem? (i := 1193) (by decide +kernel)⟩
theorem lw_p54 : lw_okq (⟨"ToolShedModel", "isDull", "(I)Z"⟩, 14) := ⟨⟨by decide +kernel, by decide +kernel⟩, List.mem_of_getElem? (i := 901) (by decide +kernel), List.mem_of_getElem? (i := 1196) (by decide +kernel), List.mem_of_getElem? (i := 1197) (by decide +kernel)⟩
theorem lw_p55 : lw_okq (⟨"ToolShedModel", "sharpens", "(II)V"⟩, 14) := ⟨⟨by decide +kernel, by decide +kernel⟩, List.mem_of_getElem? (i := 901) (by decide +kernel), List.mem_of_getElem? (i := 1200) (by decide +kernel), List.mem_of_getElem? (i := 1201) (by decide +kernel)⟩
theorem lw_p56 : lw_okq (⟨"ToolShedModel", "calls", "(I)Z"⟩, 14) := ⟨⟨by decide +kernel, by decide +kernel⟩, List.mem_of_getElem? (i := 901) (by decide +kernel), List.mem_of_getElem? (i := 1220) (by decide +kernel), List.mem_of_getElem? (i := 1221) (by decide +kernel)⟩
theorem lw_p57 : lw_okq (⟨"ToolShedModel", "isCalled", "(II)Z"⟩, 14) := ⟨⟨by decide +kernel, by decide +kernel⟩, List.mem_of_getElem? (i := 901) (by decide +kernel), List.mem_of_getElem? (i := 1224) (by decide +kernel), List.mem_of_getElem? (i := 1225) (by decide +kernel)⟩
theorem lw_p58 : lw_okq (⟨"ToolShedModel", "decided", "(I)I"⟩, 14) := ⟨⟨by decide +kernel, by decide +kernel⟩, List.mem_of_getElem? (i := 901) (by decide +kernel), List.mem_of_getElem? (i := 1232) (by decide +kernel), List.mem_of_getElem? (i := 1233) (by decide +kernel)⟩
theorem lw_p59 : lw_okq (⟨"ToolShedModel", "paysFor", "(II)V"⟩, 14) := ⟨⟨by decide +kernel, by decide +kernel⟩, List.mem_of_getElem? (i := 901) (by decide +kernel), List.mem_of_getElem? (i := 1236) (by decide +kernel), List.mem_of_getElem? (i := 1237) (by decide +kernel)⟩
theorem lw_p60 : lw_okq (⟨"ToolShedModel", "counted", "(I)I"⟩, 14) := ⟨⟨by decide +kernel, by decide +kernel⟩, List.mem_of_getElem? (i := 901) (by decide +kernel), List.mem_of_getElem? (i := 1256) (by decide +kernel), List.mem_of_getElem? (i := 1257) (by decide +kernel)⟩
theorem lw_p61 : lw_okq (⟨"ToolShedModel", "dayBegins", "()V"⟩, 14) := ⟨⟨by decide +kernel, by decide +kernel⟩, List.mem_of_getElem? (i := 901) (by decide +kernel), List.mem_of_getElem? (i := 1279) (by decide +kernel), List.mem_of_getElem? (i := 1280) (by decide +kernel)⟩
theorem lw_p62 : lw_okq (⟨"ToolShedModel", "inStatus", "(I)I"⟩, 14) := ⟨⟨by decide +kernel, by decide +kernel⟩, List.mem_of_getElem? (i := 901) (by decide +kernel), List.mem_of_getElem? (i := 1287) (by decide +kernel), List.mem_of_getElem? (i := 1288) (by decide +kernel)⟩
theorem lw_p63 : lw_okq (⟨"ToolShedModel", "inPlace", "(I)I"⟩, 14) := ⟨⟨by decide +kernel, by decide +kernel⟩, List.mem_of_getElem? (i := 901) (by decide +kernel), List.mem_of_getElem? (i := 1291) (by decide +kernel), List.mem_of_getElem? (i := 1292) (by decide +kernel)⟩
def lw_privs_4 : List (MethodName × Nat) := [(⟨"ToolShedModel", "duller", "(II)F"⟩, 14), (⟨"ToolShedModel", "isOut", "(I)Z"⟩, 14), (⟨"ToolShedModel", "whoSharpens", "()I"⟩, 14), (⟨"ToolShedModel", "dullest", "()I"⟩, 14), (⟨"ToolShedModel", "isCutter", "(I)Z"⟩, 14), (⟨"ToolShedModel", "isDuller", "(II)Z"⟩, 14), (⟨"ToolShedModel", "isDull", "(I)Z"⟩, 14), (⟨"ToolShedModel", "sharpens", "(II)V"⟩, 14), (⟨"ToolShedModel", "calls", "(I)Z"⟩, 14), (⟨"ToolShedModel", "isCalled", "(II)Z"⟩, 14), (⟨"ToolShedModel", "decided", "(I)I"⟩, 14), (⟨"ToolShedModel", "paysFor", "(II)V"⟩, 14), (⟨"ToolShedModel", "counted", "(I)I"⟩, 14), (⟨"ToolShedModel", "dayBegins", "()V"⟩, 14), (⟨"ToolShedModel", "inStatus", "(I)I"⟩, 14), (⟨"ToolShedModel", "inPlace", "(I)I"⟩, 14)]
theorem lw_r4 : ∀ q ∈ lw_privs_4, lw_okq q := List.forall_mem_cons.mpr ⟨lw_p48, List.forall_mem_cons.mpr ⟨lw_p49, List.forall_mem_cons.mpr ⟨lw_p50, List.forall_mem_cons.mpr ⟨lw_p51, List.forall_mem_cons.mpr ⟨lw_p52, List.forall_mem_cons.mpr ⟨lw_p53, List.forall_mem_cons.mpr ⟨lw_p54, List.forall_mem_cons.mpr ⟨lw_p55, List.forall_mem_cons.mpr ⟨lw_p56, List.forall_mem_cons.mpr ⟨lw_p57, List.forall_mem_cons.mpr ⟨lw_p58, List.forall_mem_cons.mpr ⟨lw_p59, List.forall_mem_cons.mpr ⟨lw_p60, List.forall_mem_cons.mpr ⟨lw_p61, List.forall_mem_cons.mpr ⟨lw_p62, List.forall_mem_cons.mpr ⟨lw_p63, fun _ h => absurd h List.not_mem_nil⟩⟩⟩⟩⟩⟩⟩⟩⟩⟩⟩⟩⟩⟩⟩⟩
theorem lw_p64 : lw_okq (⟨"ToolShedModel", "proposals", "()I"⟩, 14) := ⟨⟨by decide +kernel, by decide +kernel⟩, List.mem_of_getElem? (i := 901) (by decide +kernel), List.mem_of_getElem? (i := 1295) (by decide +kernel), List.mem_of_getElem? (i := 1296) (by decide +kernel)⟩
theorem lw_p65 : lw_okq (⟨"ToolShedModel", "runs", "()I"⟩, 14) := ⟨⟨by decide +kernel, by decide +kernel⟩, List.mem_of_getElem? (i := 901) (by decide +kernel), List.mem_of_getElem? (i := 1315) (by decide +kernel), List.mem_of_getElem? (i := 1316) (by decide +kernel)⟩
theorem lw_p66 : lw_okq (⟨"ToolShedModel", "readOrder", "()Z"⟩, 14) := ⟨⟨by decide +kernel, by decide +kernel⟩, List.mem_of_getElem? (i := 901) (by decide +kernel), List.mem_of_getElem? (i := 1319) (by decide +kernel), List.mem_of_getElem? (i := 1320) (by decide +kernel)⟩
theorem lw_p67 : lw_okq (⟨"ToolShedModel", "here", "()I"⟩, 14) := ⟨⟨by decide +kernel, by decide +kernel⟩, List.mem_of_getElem? (i := 901) (by decide +kernel), List.mem_of_getElem? (i := 1323) (by decide +kernel), List.mem_of_getElem? (i := 1324) (by decide +kernel)⟩
theorem lw_p68 : lw_okq (⟨"ToolShedModel", "passes", "(I)Z"⟩, 14) := ⟨⟨by decide +kernel, by decide +kernel⟩, List.mem_of_getElem? (i := 901) (by decide +kernel), List.mem_of_getElem? (i := 1327) (by decide +kernel), List.mem_of_getElem? (i := 1328) (by decide +kernel)⟩
theorem lw_p69 : lw_okq (⟨"ToolShedModel", "number", "()I"⟩, 14) := ⟨⟨by decide +kernel, by decide +kernel⟩, List.mem_of_getElem? (i := 901) (by decide +kernel), List.mem_of_getElem? (i := 1331) (by decide +kernel), List.mem_of_getElem? (i := 1332) (by decide +kernel)⟩
theorem lw_p70 : lw_okq (⟨"ToolShedModel", "does", "()I"⟩, 14) := ⟨⟨by decide +kernel, by decide +kernel⟩, List.mem_of_getElem? (i := 901) (by decide +kernel), List.mem_of_getElem? (i := 1335) (by decide +kernel), List.mem_of_getElem? (i := 1336) (by decide +kernel)⟩
def lw_privs_5 : List (MethodName × Nat) := [(⟨"ToolShedModel", "proposals", "()I"⟩, 14), (⟨"ToolShedModel", "runs", "()I"⟩, 14), (⟨"ToolShedModel", "readOrder", "()Z"⟩, 14), (⟨"ToolShedModel", "here", "()I"⟩, 14), (⟨"ToolShedModel", "passes", "(I)Z"⟩, 14), (⟨"ToolShedModel", "number", "()I"⟩, 14), (⟨"ToolShedModel", "does", "()I"⟩, 14)]
theorem lw_r5 : ∀ q ∈ lw_privs_5, lw_okq q := List.forall_mem_cons.mpr ⟨lw_p64, List.forall_mem_cons.mpr ⟨lw_p65, List.forall_mem_cons.mpr ⟨lw_p66, List.forall_mem_cons.mpr ⟨lw_p67, List.forall_mem_cons.mpr ⟨lw_p68, List.forall_mem_cons.mpr ⟨lw_p69, List.forall_mem_cons.mpr ⟨lw_p70, fun _ h => absurd h List.not_mem_nil⟩⟩⟩⟩⟩⟩⟩
def lw_privs : List (MethodName × Nat) := lw_privs_1 ++ (lw_privs_2 ++ (lw_privs_3 ++ (lw_privs_4 ++ (lw_privs_5))))
def lw_tbl : List Cond := k2_sels lw_privs ++ tables_1
theorem lw_privs_ok : ∀ q ∈ lw_privs, lw_okq q := by
  show ∀ q ∈ lw_privs_1 ++ (lw_privs_2 ++ (lw_privs_3 ++ (lw_privs_4 ++ (lw_privs_5)))), lw_okq q
  exact List.forall_mem_append.mpr ⟨lw_r1, List.forall_mem_append.mpr ⟨lw_r2, List.forall_mem_append.mpr ⟨lw_r3, List.forall_mem_append.mpr ⟨lw_r4, lw_r5⟩⟩⟩⟩
/-- the streams that the claim lets the run draw from -/
abbrev lw_cs : List Choice := [Jvm.Choice.named "NaN.bits", Jvm.Choice.named "NaN.copy"]
theorem lw_bits : nanBits ∈ lw_cs := by first | decide | exact List.mem_cons_self | simp [lw_cs, nanBits]
def RX0 : String := "ToolShed$History"
def TX0 : u_T := fun k => match k with
  | 0 => ("ToolShed$History", "states", "[LToolShed$Shed;", true)
  | _ => ("ToolShed$History", "kept", "I", false)
def tyX0 : Nat → FieldType := fun k => match k with
  | 0 => .array (.object "ToolShed$Shed")
  | _ => .int
abbrev wsX00 : List Cond := u_ws RX0 TX0 2
theorem nmX0 : ∀ a, a < 2 → ∀ b, b < 2 → a ≠ b → (TX0 a).2.1 ≠ (TX0 b).2.1 := by decide +kernel
theorem tyX0_ok : ∀ k, k < 2 → parseFieldDescriptor (TX0 k).2.2.1 = some (tyX0 k) := by decide +kernel
abbrev cX0_init : ByteArray := prog_2_method_1_code
def yX0_init : MethodName := ⟨RX0, "<init>", "()V"⟩
abbrev cX0_copyPresent : ByteArray := prog_2_method_2_code
def yX0_copyPresent : MethodName := ⟨RX0, "copyPresent", "(LToolShed$Shed;)V"⟩
abbrev cX0_keepCopy : ByteArray := prog_2_method_3_code
def yX0_keepCopy : MethodName := ⟨RX0, "keepCopy", "()V"⟩
abbrev cX0_restore : ByteArray := prog_2_method_4_code
def yX0_restore : MethodName := ⟨RX0, "restore", "(LToolShed$Shed;)I"⟩
def RX1 : String := "ToolShed$Member"
def TX1 : u_T := fun k => match k with
  | _ => ("ToolShed$Member", "numbers", "[I", true)
def tyX1 : Nat → FieldType := fun k => match k with
  | _ => .array .int
abbrev wsX10 : List Cond := u_ws RX1 TX1 1
theorem nmX1 : ∀ a, a < 1 → ∀ b, b < 1 → a ≠ b → (TX1 a).2.1 ≠ (TX1 b).2.1 := by decide +kernel
theorem tyX1_ok : ∀ k, k < 1 → parseFieldDescriptor (TX1 k).2.2.1 = some (tyX1 k) := by decide +kernel
abbrev cX1_init : ByteArray := prog_3_method_1_code
def yX1_init : MethodName := ⟨RX1, "<init>", "()V"⟩
abbrev cX1_copyFrom : ByteArray := prog_3_method_2_code
def yX1_copyFrom : MethodName := ⟨RX1, "copyFrom", "(LToolShed$Member;)V"⟩
abbrev cX1_isThere : ByteArray := prog_3_method_3_code
def yX1_isThere : MethodName := ⟨RX1, "isThere", "()Z"⟩
abbrev cX1_isGone : ByteArray := prog_3_method_4_code
def yX1_isGone : MethodName := ⟨RX1, "isGone", "()Z"⟩
abbrev cX1_openInAll : ByteArray := prog_3_method_5_code
def yX1_openInAll : MethodName := ⟨RX1, "openInAll", "()I"⟩
abbrev cX1_gainGiven : ByteArray := prog_3_method_6_code
def yX1_gainGiven : MethodName := ⟨RX1, "gainGiven", "(I)V"⟩
abbrev cX1_gainShared : ByteArray := prog_3_method_7_code
def yX1_gainShared : MethodName := ⟨RX1, "gainShared", "(I)V"⟩
abbrev cX1_payOpen : ByteArray := prog_3_method_8_code
def yX1_payOpen : MethodName := ⟨RX1, "payOpen", "(I)V"⟩
abbrev cX1_charge : ByteArray := prog_3_method_9_code
def yX1_charge : MethodName := ⟨RX1, "charge", "(II)V"⟩
abbrev cX1_takeShare : ByteArray := prog_3_method_10_code
def yX1_takeShare : MethodName := ⟨RX1, "takeShare", "(II)V"⟩
def RX2 : String := "ToolShed$Members"
def TX2 : u_T := fun k => match k with
  | 0 => ("ToolShed$Members", "all", "[LToolShed$Member;", true)
  | 1 => ("ToolShed$Members", "turns", "[I", true)
  | 2 => ("ToolShed$Members", "joined", "I", false)
  | 3 => ("ToolShed$Members", "inTurns", "I", false)
  | _ => ("ToolShed$Members", "pointer", "I", false)
def tyX2 : Nat → FieldType := fun k => match k with
  | 0 => .array (.object "ToolShed$Member")
  | 1 => .array .int
  | 2 => .int
  | 3 => .int
  | _ => .int
abbrev wsX20 : List Cond := u_ws RX2 TX2 5
theorem nmX2 : ∀ a, a < 5 → ∀ b, b < 5 → a ≠ b → (TX2 a).2.1 ≠ (TX2 b).2.1 := by decide +kernel
theorem tyX2_ok : ∀ k, k < 5 → parseFieldDescriptor (TX2 k).2.2.1 = some (tyX2 k) := by decide +kernel
abbrev cX2_init : ByteArray := prog_4_method_1_code
def yX2_init : MethodName := ⟨RX2, "<init>", "()V"⟩
abbrev cX2_copyFrom : ByteArray := prog_4_method_2_code
def yX2_copyFrom : MethodName := ⟨RX2, "copyFrom", "(LToolShed$Members;)V"⟩
abbrev cX2_has : ByteArray := prog_4_method_3_code
def yX2_has : MethodName := ⟨RX2, "has", "(I)Z"⟩
abbrev cX2_takesPart : ByteArray := prog_4_method_4_code
def yX2_takesPart : MethodName := ⟨RX2, "takesPart", "(II)Z"⟩
abbrev cX2_countNotGone : ByteArray := prog_4_method_5_code
def yX2_countNotGone : MethodName := ⟨RX2, "countNotGone", "(I)I"⟩
abbrev cX2_countWithStatus : ByteArray := prog_4_method_6_code
def yX2_countWithStatus : MethodName := ⟨RX2, "countWithStatus", "(I)I"⟩
abbrev cX2_join : ByteArray := prog_4_method_7_code
def yX2_join : MethodName := ⟨RX2, "join", "()I"⟩
abbrev cX2_putAway : ByteArray := prog_4_method_8_code
def yX2_putAway : MethodName := ⟨RX2, "putAway", "(II)I"⟩
abbrev cX2_depart : ByteArray := prog_4_method_9_code
def yX2_depart : MethodName := ⟨RX2, "depart", "(I)I"⟩
abbrev cX2_takeGift : ByteArray := prog_4_method_10_code
def yX2_takeGift : MethodName := ⟨RX2, "takeGift", "(II)I"⟩
abbrev cX2_chargeEach : ByteArray := prog_4_method_11_code
def yX2_chargeEach : MethodName := ⟨RX2, "chargeEach", "(II)V"⟩
abbrev cX2_share : ByteArray := prog_4_method_12_code
def yX2_share : MethodName := ⟨RX2, "share", "(III)V"⟩
abbrev cX2_tellOfAll : ByteArray := prog_4_method_13_code
def yX2_tellOfAll : MethodName := ⟨RX2, "tellOfAll", "(I)I"⟩
abbrev cX2_debtorInOrder : ByteArray := prog_4_method_14_code
def yX2_debtorInOrder : MethodName := ⟨RX2, "debtorInOrder", "(I)I"⟩
abbrev cX2_debtorsAheadOf : ByteArray := prog_4_method_15_code
def yX2_debtorsAheadOf : MethodName := ⟨RX2, "debtorsAheadOf", "(I)I"⟩
abbrev cX2_putBehindTurns : ByteArray := prog_4_method_16_code
def yX2_putBehindTurns : MethodName := ⟨RX2, "putBehindTurns", "(I)V"⟩
abbrev cX2_takeOutOfTurns : ByteArray := prog_4_method_17_code
def yX2_takeOutOfTurns : MethodName := ⟨RX2, "takeOutOfTurns", "(I)V"⟩
abbrev cX2_moveToEndOfTurns : ByteArray := prog_4_method_18_code
def yX2_moveToEndOfTurns : MethodName := ⟨RX2, "moveToEndOfTurns", "(I)V"⟩
abbrev cX2_placeInTurns : ByteArray := prog_4_method_19_code
def yX2_placeInTurns : MethodName := ⟨RX2, "placeInTurns", "(I)I"⟩
abbrev cX2_memberInTurn : ByteArray := prog_4_method_20_code
def yX2_memberInTurn : MethodName := ⟨RX2, "memberInTurn", "(I)I"⟩
abbrev cX2_firstThereInTurns : ByteArray := prog_4_method_21_code
def yX2_firstThereInTurns : MethodName := ⟨RX2, "firstThereInTurns", "()I"⟩
abbrev cX2_swapTurns : ByteArray := prog_4_method_22_code
def yX2_swapTurns : MethodName := ⟨RX2, "swapTurns", "(II)I"⟩
abbrev cX2_callPanel : ByteArray := prog_4_method_23_code
def yX2_callPanel : MethodName := ⟨RX2, "callPanel", "(ILToolShed$Panel;)Z"⟩
abbrev cX2_nextForPanel : ByteArray := prog_4_method_24_code
def yX2_nextForPanel : MethodName := ⟨RX2, "nextForPanel", "(II)I"⟩
def RX3 : String := "ToolShed$Orders"
def TX3 : u_T := fun k => match k with
  | 0 => ("ToolShed$Orders", "text", "[C", true)
  | 1 => ("ToolShed$Orders", "length", "I", false)
  | 2 => ("ToolShed$Orders", "next", "I", false)
  | 3 => ("ToolShed$Orders", "position", "I", false)
  | 4 => ("ToolShed$Orders", "reason", "I", false)
  | _ => ("ToolShed$Orders", "done", "I", false)
def tyX3 : Nat → FieldType := fun k => match k with
  | 0 => .array .char
  | 1 => .int
  | 2 => .int
  | 3 => .int
  | 4 => .int
  | _ => .int
abbrev wsX30 : List Cond := u_ws RX3 TX3 6
theorem nmX3 : ∀ a, a < 6 → ∀ b, b < 6 → a ≠ b → (TX3 a).2.1 ≠ (TX3 b).2.1 := by decide +kernel
theorem tyX3_ok : ∀ k, k < 6 → parseFieldDescriptor (TX3 k).2.2.1 = some (tyX3 k) := by decide +kernel
abbrev cX3_init : ByteArray := prog_5_method_1_code
def yX3_init : MethodName := ⟨RX3, "<init>", "()V"⟩
abbrev cX3_append : ByteArray := prog_5_method_2_code
def yX3_append : MethodName := ⟨RX3, "append", "(I)I"⟩
abbrev cX3_empty : ByteArray := prog_5_method_3_code
def yX3_empty : MethodName := ⟨RX3, "empty", "()I"⟩
abbrev cX3_tryOn : ByteArray := prog_5_method_4_code
def yX3_tryOn : MethodName := ⟨RX3, "tryOn", "(LToolShed$Shed;LToolShed$Shed;)V"⟩
abbrev cX3_runOrder : ByteArray := prog_5_method_5_code
def yX3_runOrder : MethodName := ⟨RX3, "runOrder", "(LToolShed$Shed;)I"⟩
abbrev cX3_carryOut : ByteArray := prog_5_method_6_code
def yX3_carryOut : MethodName := ⟨RX3, "carryOut", "(LToolShed$Shed;CII)I"⟩
abbrev cX3_peek : ByteArray := prog_5_method_7_code
def yX3_peek : MethodName := ⟨RX3, "peek", "()C"⟩
abbrev cX3_takes : ByteArray := prog_5_method_8_code
def yX3_takes : MethodName := ⟨RX3, "takes", "(C)Z"⟩
abbrev cX3_readNumber : ByteArray := prog_5_method_9_code
def yX3_readNumber : MethodName := ⟨RX3, "readNumber", "()I"⟩
def RX4 : String := "ToolShed$Panel"
def TX4 : u_T := fun k => match k with
  | 0 => ("ToolShed$Panel", "seated", "[I", true)
  | 1 => ("ToolShed$Panel", "words", "[I", true)
  | _ => ("ToolShed$Panel", "seats", "I", false)
def tyX4 : Nat → FieldType := fun k => match k with
  | 0 => .array .int
  | 1 => .array .int
  | _ => .int
abbrev wsX40 : List Cond := u_ws RX4 TX4 3
theorem nmX4 : ∀ a, a < 3 → ∀ b, b < 3 → a ≠ b → (TX4 a).2.1 ≠ (TX4 b).2.1 := by decide +kernel
theorem tyX4_ok : ∀ k, k < 3 → parseFieldDescriptor (TX4 k).2.2.1 = some (tyX4 k) := by decide +kernel
abbrev cX4_init : ByteArray := prog_6_method_1_code
def yX4_init : MethodName := ⟨RX4, "<init>", "()V"⟩
abbrev cX4_copyFrom : ByteArray := prog_6_method_2_code
def yX4_copyFrom : MethodName := ⟨RX4, "copyFrom", "(LToolShed$Panel;)V"⟩
abbrev cX4_begin : ByteArray := prog_6_method_3_code
def yX4_begin : MethodName := ⟨RX4, "begin", "()V"⟩
abbrev cX4_seat : ByteArray := prog_6_method_4_code
def yX4_seat : MethodName := ⟨RX4, "seat", "(I)V"⟩
abbrev cX4_hasSeated : ByteArray := prog_6_method_5_code
def yX4_hasSeated : MethodName := ⟨RX4, "hasSeated", "(I)Z"⟩
abbrev cX4_hears : ByteArray := prog_6_method_6_code
def yX4_hears : MethodName := ⟨RX4, "hears", "(II)Z"⟩
abbrev cX4_countOfWord : ByteArray := prog_6_method_7_code
def yX4_countOfWord : MethodName := ⟨RX4, "countOfWord", "(I)I"⟩
abbrev cX4_countOfSpeakers : ByteArray := prog_6_method_8_code
def yX4_countOfSpeakers : MethodName := ⟨RX4, "countOfSpeakers", "()I"⟩
abbrev cX4_decision : ByteArray := prog_6_method_9_code
def yX4_decision : MethodName := ⟨RX4, "decision", "()I"⟩
def RX5 : String := "ToolShed$Proposal"
def TX5 : u_T := fun k => match k with
  | 0 => ("ToolShed$Proposal", "stands", "Z", false)
  | 1 => ("ToolShed$Proposal", "cost", "I", false)
  | 2 => ("ToolShed$Proposal", "better", "I", false)
  | 3 => ("ToolShed$Proposal", "lastDay", "I", false)
  | 4 => ("ToolShed$Proposal", "yes", "I", false)
  | 5 => ("ToolShed$Proposal", "no", "I", false)
  | _ => ("ToolShed$Proposal", "voted", "I", false)
def tyX5 : Nat → FieldType := fun k => match k with
  | 0 => .boolean
  | 1 => .int
  | 2 => .int
  | 3 => .int
  | 4 => .int
  | 5 => .int
  | _ => .int
abbrev wsX50 : List Cond := u_ws RX5 TX5 7
theorem nmX5 : ∀ a, a < 7 → ∀ b, b < 7 → a ≠ b → (TX5 a).2.1 ≠ (TX5 b).2.1 := by decide +kernel
theorem tyX5_ok : ∀ k, k < 7 → parseFieldDescriptor (TX5 k).2.2.1 = some (tyX5 k) := by decide +kernel
abbrev cX5_init : ByteArray := prog_7_method_1_code
def yX5_init : MethodName := ⟨RX5, "<init>", "()V"⟩
abbrev cX5_copyFrom : ByteArray := prog_7_method_2_code
def yX5_copyFrom : MethodName := ⟨RX5, "copyFrom", "(LToolShed$Proposal;)V"⟩
abbrev cX5_begin : ByteArray := prog_7_method_3_code
def yX5_begin : MethodName := ⟨RX5, "begin", "(III)V"⟩
abbrev cX5_hasVoteOf : ByteArray := prog_7_method_4_code
def yX5_hasVoteOf : MethodName := ⟨RX5, "hasVoteOf", "(I)Z"⟩
abbrev cX5_countVote : ByteArray := prog_7_method_5_code
def yX5_countVote : MethodName := ⟨RX5, "countVote", "(IZ)V"⟩
abbrev cX5_outcome : ByteArray := prog_7_method_6_code
def yX5_outcome : MethodName := ⟨RX5, "outcome", "(I)I"⟩
abbrev cX5_tell : ByteArray := prog_7_method_7_code
def yX5_tell : MethodName := ⟨RX5, "tell", "(I)I"⟩
def RX6 : String := "ToolShed$Shed"
def TX6 : u_T := fun k => match k with
  | 0 => ("ToolShed$Shed", "settings", "[I", true)
  | 1 => ("ToolShed$Shed", "members", "LToolShed$Members;", true)
  | 2 => ("ToolShed$Shed", "tools", "[LToolShed$Tool;", true)
  | 3 => ("ToolShed$Shed", "added", "I", false)
  | _ => ("ToolShed$Shed", "today", "I", false)
def tyX6 : Nat → FieldType := fun k => match k with
  | 0 => .array .int
  | 1 => .object "ToolShed$Members"
  | 2 => .array (.object "ToolShed$Tool")
  | 3 => .int
  | _ => .int
abbrev wsX60 : List Cond := u_ws RX6 TX6 5
theorem nmX6 : ∀ a, a < 5 → ∀ b, b < 5 → a ≠ b → (TX6 a).2.1 ≠ (TX6 b).2.1 := by decide +kernel
theorem tyX6_ok : ∀ k, k < 5 → parseFieldDescriptor (TX6 k).2.2.1 = some (tyX6 k) := by decide +kernel
abbrev cX6_init : ByteArray := prog_8_method_1_code
def yX6_init : MethodName := ⟨RX6, "<init>", "()V"⟩
abbrev cX6_copyFrom : ByteArray := prog_8_method_2_code
def yX6_copyFrom : MethodName := ⟨RX6, "copyFrom", "(LToolShed$Shed;)V"⟩
abbrev cX6_hasTool : ByteArray := prog_8_method_3_code
def yX6_hasTool : MethodName := ⟨RX6, "hasTool", "(I)Z"⟩
abbrev cX6_changeSetting : ByteArray := prog_8_method_4_code
def yX6_changeSetting : MethodName := ⟨RX6, "changeSetting", "(II)I"⟩
abbrev cX6_letLeave : ByteArray := prog_8_method_5_code
def yX6_letLeave : MethodName := ⟨RX6, "letLeave", "(I)I"⟩
abbrev cX6_isBound : ByteArray := prog_8_method_6_code
def yX6_isBound : MethodName := ⟨RX6, "isBound", "(I)Z"⟩
abbrev cX6_tellOfMember : ByteArray := prog_8_method_7_code
def yX6_tellOfMember : MethodName := ⟨RX6, "tellOfMember", "(II)I"⟩
abbrev cX6_toolsOfMember : ByteArray := prog_8_method_8_code
def yX6_toolsOfMember : MethodName := ⟨RX6, "toolsOfMember", "(IZ)I"⟩
abbrev cX6_addTool : ByteArray := prog_8_method_9_code
def yX6_addTool : MethodName := ⟨RX6, "addTool", "(III)I"⟩
abbrev cX6_isHook : ByteArray := prog_8_method_10_code
def yX6_isHook : MethodName := ⟨RX6, "isHook", "(II)Z"⟩
abbrev cX6_hangTool : ByteArray := prog_8_method_11_code
def yX6_hangTool : MethodName := ⟨RX6, "hangTool", "(III)I"⟩
abbrev cX6_countTaken : ByteArray := prog_8_method_12_code
def yX6_countTaken : MethodName := ⟨RX6, "countTaken", "(I)I"⟩
abbrev cX6_toolOnHook : ByteArray := prog_8_method_13_code
def yX6_toolOnHook : MethodName := ⟨RX6, "toolOnHook", "(II)I"⟩
abbrev cX6_lendToMember : ByteArray := prog_8_method_14_code
def yX6_lendToMember : MethodName := ⟨RX6, "lendToMember", "(II)I"⟩
abbrev cX6_takeBack : ByteArray := prog_8_method_15_code
def yX6_takeBack : MethodName := ⟨RX6, "takeBack", "(I)I"⟩
abbrev cX6_tellOfTool : ByteArray := prog_8_method_16_code
def yX6_tellOfTool : MethodName := ⟨RX6, "tellOfTool", "(II)I"⟩
abbrev cX6_bitsOfTool : ByteArray := prog_8_method_17_code
def yX6_bitsOfTool : MethodName := ⟨RX6, "bitsOfTool", "(I)I"⟩
abbrev cX6_foretellDullness : ByteArray := prog_8_method_18_code
def yX6_foretellDullness : MethodName := ⟨RX6, "foretellDullness", "(II)I"⟩
abbrev cX6_meanSharpness : ByteArray := prog_8_method_19_code
def yX6_meanSharpness : MethodName := ⟨RX6, "meanSharpness", "(I)I"⟩
abbrev cX6_cutterInOrder : ByteArray := prog_8_method_20_code
def yX6_cutterInOrder : MethodName := ⟨RX6, "cutterInOrder", "(I)I"⟩
abbrev cX6_cuttersAheadOf : ByteArray := prog_8_method_21_code
def yX6_cuttersAheadOf : MethodName := ⟨RX6, "cuttersAheadOf", "(I)I"⟩
abbrev cX6_sharpenDullest : ByteArray := prog_8_method_22_code
def yX6_sharpenDullest : MethodName := ⟨RX6, "sharpenDullest", "()I"⟩
abbrev cX6_loseTool : ByteArray := prog_8_method_23_code
def yX6_loseTool : MethodName := ⟨RX6, "loseTool", "(I)I"⟩
abbrev cX6_hearPanel : ByteArray := prog_8_method_24_code
def yX6_hearPanel : MethodName := ⟨RX6, "hearPanel", "(III)I"⟩
abbrev cX6_settleLoss : ByteArray := prog_8_method_25_code
def yX6_settleLoss : MethodName := ⟨RX6, "settleLoss", "(LToolShed$Tool;I)V"⟩
abbrev cX6_findTool : ByteArray := prog_8_method_26_code
def yX6_findTool : MethodName := ⟨RX6, "findTool", "(I)I"⟩
abbrev cX6_tellOfPanel : ByteArray := prog_8_method_27_code
def yX6_tellOfPanel : MethodName := ⟨RX6, "tellOfPanel", "(III)I"⟩
abbrev cX6_openProposal : ByteArray := prog_8_method_28_code
def yX6_openProposal : MethodName := ⟨RX6, "openProposal", "(III)I"⟩
abbrev cX6_takeVote : ByteArray := prog_8_method_29_code
def yX6_takeVote : MethodName := ⟨RX6, "takeVote", "(III)I"⟩
abbrev cX6_tellOfProposal : ByteArray := prog_8_method_30_code
def yX6_tellOfProposal : MethodName := ⟨RX6, "tellOfProposal", "(II)I"⟩
abbrev cX6_lendToShed : ByteArray := prog_8_method_31_code
def yX6_lendToShed : MethodName := ⟨RX6, "lendToShed", "(IIII)I"⟩
abbrev cX6_takeFromShed : ByteArray := prog_8_method_32_code
def yX6_takeFromShed : MethodName := ⟨RX6, "takeFromShed", "(I)I"⟩
abbrev cX6_letDaysPass : ByteArray := prog_8_method_33_code
def yX6_letDaysPass : MethodName := ⟨RX6, "letDaysPass", "(I)I"⟩
abbrev cX6_beginDay : ByteArray := prog_8_method_34_code
def yX6_beginDay : MethodName := ⟨RX6, "beginDay", "()V"⟩
abbrev cX6_tellCount : ByteArray := prog_8_method_35_code
def yX6_tellCount : MethodName := ⟨RX6, "tellCount", "(I)I"⟩
abbrev cX6_countAtPlace : ByteArray := prog_8_method_36_code
def yX6_countAtPlace : MethodName := ⟨RX6, "countAtPlace", "(I)I"⟩
abbrev cX6_countProposals : ByteArray := prog_8_method_37_code
def yX6_countProposals : MethodName := ⟨RX6, "countProposals", "()I"⟩
def RX7 : String := "ToolShed$Tool"
def TX7 : u_T := fun k => match k with
  | 0 => ("ToolShed$Tool", "kind", "I", false)
  | 1 => ("ToolShed$Tool", "value", "I", false)
  | 2 => ("ToolShed$Tool", "wear", "I", false)
  | 3 => ("ToolShed$Tool", "sharpness", "F", false)
  | 4 => ("ToolShed$Tool", "place", "I", false)
  | 5 => ("ToolShed$Tool", "holder", "I", false)
  | 6 => ("ToolShed$Tool", "since", "I", false)
  | 7 => ("ToolShed$Tool", "due", "I", false)
  | 8 => ("ToolShed$Tool", "fee", "I", false)
  | 9 => ("ToolShed$Tool", "lends", "I", false)
  | 10 => ("ToolShed$Tool", "wall", "I", false)
  | 11 => ("ToolShed$Tool", "hook", "I", false)
  | 12 => ("ToolShed$Tool", "panel", "LToolShed$Panel;", true)
  | _ => ("ToolShed$Tool", "proposal", "LToolShed$Proposal;", true)
def tyX7 : Nat → FieldType := fun k => match k with
  | 0 => .int
  | 1 => .int
  | 2 => .int
  | 3 => .float
  | 4 => .int
  | 5 => .int
  | 6 => .int
  | 7 => .int
  | 8 => .int
  | 9 => .int
  | 10 => .int
  | 11 => .int
  | 12 => .object "ToolShed$Panel"
  | _ => .object "ToolShed$Proposal"
abbrev wsX70 : List Cond := u_ws RX7 TX7 14
theorem nmX7 : ∀ a, a < 14 → ∀ b, b < 14 → a ≠ b → (TX7 a).2.1 ≠ (TX7 b).2.1 := by decide +kernel
theorem tyX7_ok : ∀ k, k < 14 → parseFieldDescriptor (TX7 k).2.2.1 = some (tyX7 k) := by decide +kernel
abbrev cX7_init : ByteArray := prog_9_method_1_code
def yX7_init : MethodName := ⟨RX7, "<init>", "()V"⟩
abbrev cX7_copyFrom : ByteArray := prog_9_method_2_code
def yX7_copyFrom : MethodName := ⟨RX7, "copyFrom", "(LToolShed$Tool;)V"⟩
abbrev cX7_begin : ByteArray := prog_9_method_3_code
def yX7_begin : MethodName := ⟨RX7, "begin", "(III)V"⟩
abbrev cX7_isCutterInShed : ByteArray := prog_9_method_4_code
def yX7_isCutterInShed : MethodName := ⟨RX7, "isCutterInShed", "()Z"⟩
abbrev cX7_isOnMember : ByteArray := prog_9_method_5_code
def yX7_isOnMember : MethodName := ⟨RX7, "isOnMember", "(I)Z"⟩
abbrev cX7_hangsOn : ByteArray := prog_9_method_6_code
def yX7_hangsOn : MethodName := ⟨RX7, "hangsOn", "(II)Z"⟩
abbrev cX7_goOut : ByteArray := prog_9_method_7_code
def yX7_goOut : MethodName := ⟨RX7, "goOut", "(IIII)V"⟩
abbrev cX7_daysOut : ByteArray := prog_9_method_8_code
def yX7_daysOut : MethodName := ⟨RX7, "daysOut", "(I)I"⟩
abbrev cX7_comeIn : ByteArray := prog_9_method_9_code
def yX7_comeIn : MethodName := ⟨RX7, "comeIn", "(I)V"⟩
abbrev cX7_sharpnessBehind : ByteArray := prog_9_method_10_code
def yX7_sharpnessBehind : MethodName := ⟨RX7, "sharpnessBehind", "(I)F"⟩
abbrev cX7_sharpenBy : ByteArray := prog_9_method_11_code
def yX7_sharpenBy : MethodName := ⟨RX7, "sharpenBy", "(I)V"⟩
abbrev cX7_vanish : ByteArray := prog_9_method_12_code
def yX7_vanish : MethodName := ⟨RX7, "vanish", "()V"⟩
abbrev cX7_tell : ByteArray := prog_9_method_13_code
def yX7_tell : MethodName := ⟨RX7, "tell", "(I)I"⟩
def RX8 : String := "ToolShed"
def TX8 : u_T := fun k => match k with
  | 0 => ("ToolShed", "present", "LToolShed$Shed;", true)
  | 1 => ("ToolShed", "trial", "LToolShed$Shed;", true)
  | 2 => ("ToolShed", "history", "LToolShed$History;", true)
  | _ => ("ToolShed", "orders", "LToolShed$Orders;", true)
def tyX8 : Nat → FieldType := fun k => match k with
  | 0 => .object "ToolShed$Shed"
  | 1 => .object "ToolShed$Shed"
  | 2 => .object "ToolShed$History"
  | _ => .object "ToolShed$Orders"
abbrev wsX80 : List Cond := u_ws RX8 TX8 4
theorem nmX8 : ∀ a, a < 4 → ∀ b, b < 4 → a ≠ b → (TX8 a).2.1 ≠ (TX8 b).2.1 := by decide +kernel
theorem tyX8_ok : ∀ k, k < 4 → parseFieldDescriptor (TX8 k).2.2.1 = some (tyX8 k) := by decide +kernel
abbrev cX8_init : ByteArray := prog_1_method_1_code
def yX8_init : MethodName := ⟨RX8, "<init>", "()V"⟩
abbrev cX8_set : ByteArray := prog_1_method_2_code
def yX8_set : MethodName := ⟨RX8, "set", "(II)I"⟩
abbrev cX8_member : ByteArray := prog_1_method_3_code
def yX8_member : MethodName := ⟨RX8, "member", "()I"⟩
abbrev cX8_away : ByteArray := prog_1_method_4_code
def yX8_away : MethodName := ⟨RX8, "away", "(II)I"⟩
abbrev cX8_leave : ByteArray := prog_1_method_5_code
def yX8_leave : MethodName := ⟨RX8, "leave", "(I)I"⟩
abbrev cX8_give : ByteArray := prog_1_method_6_code
def yX8_give : MethodName := ⟨RX8, "give", "(II)I"⟩
abbrev cX8_memberOf : ByteArray := prog_1_method_7_code
def yX8_memberOf : MethodName := ⟨RX8, "memberOf", "(II)I"⟩
abbrev cX8_account : ByteArray := prog_1_method_8_code
def yX8_account : MethodName := ⟨RX8, "account", "(I)I"⟩
abbrev cX8_debtorAt : ByteArray := prog_1_method_9_code
def yX8_debtorAt : MethodName := ⟨RX8, "debtorAt", "(I)I"⟩
abbrev cX8_tool : ByteArray := prog_1_method_10_code
def yX8_tool : MethodName := ⟨RX8, "tool", "(III)I"⟩
abbrev cX8_hang : ByteArray := prog_1_method_11_code
def yX8_hang : MethodName := ⟨RX8, "hang", "(III)I"⟩
abbrev cX8_borrow : ByteArray := prog_1_method_12_code
def yX8_borrow : MethodName := ⟨RX8, "borrow", "(II)I"⟩
abbrev cX8_giveBack : ByteArray := prog_1_method_13_code
def yX8_giveBack : MethodName := ⟨RX8, "giveBack", "(I)I"⟩
abbrev cX8_toolOf : ByteArray := prog_1_method_14_code
def yX8_toolOf : MethodName := ⟨RX8, "toolOf", "(II)I"⟩
abbrev cX8_bits : ByteArray := prog_1_method_15_code
def yX8_bits : MethodName := ⟨RX8, "bits", "(I)I"⟩
abbrev cX8_dullBehind : ByteArray := prog_1_method_16_code
def yX8_dullBehind : MethodName := ⟨RX8, "dullBehind", "(II)I"⟩
abbrev cX8_mean : ByteArray := prog_1_method_17_code
def yX8_mean : MethodName := ⟨RX8, "mean", "(I)I"⟩
abbrev cX8_hookAt : ByteArray := prog_1_method_18_code
def yX8_hookAt : MethodName := ⟨RX8, "hookAt", "(II)I"⟩
abbrev cX8_sharpen : ByteArray := prog_1_method_19_code
def yX8_sharpen : MethodName := ⟨RX8, "sharpen", "()I"⟩
abbrev cX8_swap : ByteArray := prog_1_method_20_code
def yX8_swap : MethodName := ⟨RX8, "swap", "(II)I"⟩
abbrev cX8_turnAt : ByteArray := prog_1_method_21_code
def yX8_turnAt : MethodName := ⟨RX8, "turnAt", "(I)I"⟩
abbrev cX8_dullAt : ByteArray := prog_1_method_22_code
def yX8_dullAt : MethodName := ⟨RX8, "dullAt", "(I)I"⟩
abbrev cX8_lose : ByteArray := prog_1_method_23_code
def yX8_lose : MethodName := ⟨RX8, "lose", "(I)I"⟩
abbrev cX8_say : ByteArray := prog_1_method_24_code
def yX8_say : MethodName := ⟨RX8, "say", "(III)I"⟩
abbrev cX8_find : ByteArray := prog_1_method_25_code
def yX8_find : MethodName := ⟨RX8, "find", "(I)I"⟩
abbrev cX8_panelAt : ByteArray := prog_1_method_26_code
def yX8_panelAt : MethodName := ⟨RX8, "panelAt", "(III)I"⟩
abbrev cX8_propose : ByteArray := prog_1_method_27_code
def yX8_propose : MethodName := ⟨RX8, "propose", "(III)I"⟩
abbrev cX8_vote : ByteArray := prog_1_method_28_code
def yX8_vote : MethodName := ⟨RX8, "vote", "(III)I"⟩
abbrev cX8_proposalOf : ByteArray := prog_1_method_29_code
def yX8_proposalOf : MethodName := ⟨RX8, "proposalOf", "(II)I"⟩
abbrev cX8_lendOut : ByteArray := prog_1_method_30_code
def yX8_lendOut : MethodName := ⟨RX8, "lendOut", "(IIII)I"⟩
abbrev cX8_comeBack : ByteArray := prog_1_method_31_code
def yX8_comeBack : MethodName := ⟨RX8, "comeBack", "(I)I"⟩
abbrev cX8_pass : ByteArray := prog_1_method_32_code
def yX8_pass : MethodName := ⟨RX8, "pass", "(I)I"⟩
abbrev cX8_count : ByteArray := prog_1_method_33_code
def yX8_count : MethodName := ⟨RX8, "count", "(I)I"⟩
abbrev cX8_undo : ByteArray := prog_1_method_34_code
def yX8_undo : MethodName := ⟨RX8, "undo", "()I"⟩
abbrev cX8_type : ByteArray := prog_1_method_35_code
def yX8_type : MethodName := ⟨RX8, "type", "(I)I"⟩
abbrev cX8_clearText : ByteArray := prog_1_method_36_code
def yX8_clearText : MethodName := ⟨RX8, "clearText", "()I"⟩
abbrev cX8_fault : ByteArray := prog_1_method_37_code
def yX8_fault : MethodName := ⟨RX8, "fault", "(I)I"⟩
abbrev cX8_play : ByteArray := prog_1_method_38_code
def yX8_play : MethodName := ⟨RX8, "play", "()I"⟩
abbrev cX8_changed : ByteArray := prog_1_method_39_code
def yX8_changed : MethodName := ⟨RX8, "changed", "(I)I"⟩
abbrev cX8_thousandths : ByteArray := prog_1_method_40_code
def yX8_thousandths : MethodName := ⟨RX8, "thousandths", "(F)I"⟩
abbrev cX8_floatBits : ByteArray := prog_1_method_41_code
def yX8_floatBits : MethodName := ⟨RX8, "floatBits", "(F)I"⟩
def RX9 : String := "ToolShedModel"
def TX9 : u_T := fun k => match k with
  | 0 => ("ToolShedModel", "p", "[I", true)
  | 1 => ("ToolShedModel", "aside", "[I", true)
  | 2 => ("ToolShedModel", "trial", "[I", true)
  | 3 => ("ToolShedModel", "saved", "[I", true)
  | 4 => ("ToolShedModel", "states", "I", false)
  | 5 => ("ToolShedModel", "text", "[I", true)
  | 6 => ("ToolShedModel", "length", "I", false)
  | 7 => ("ToolShedModel", "called", "[I", true)
  | 8 => ("ToolShedModel", "at", "I", false)
  | 9 => ("ToolShedModel", "first", "I", false)
  | 10 => ("ToolShedModel", "second", "I", false)
  | 11 => ("ToolShedModel", "letter", "I", false)
  | 12 => ("ToolShedModel", "orders", "I", false)
  | _ => ("ToolShedModel", "reason", "I", false)
def tyX9 : Nat → FieldType := fun k => match k with
  | 0 => .array .int
  | 1 => .array .int
  | 2 => .array .int
  | 3 => .array .int
  | 4 => .int
  | 5 => .array .int
  | 6 => .int
  | 7 => .array .int
  | 8 => .int
  | 9 => .int
  | 10 => .int
  | 11 => .int
  | 12 => .int
  | _ => .int
abbrev wsX90 : List Cond := u_ws RX9 TX9 14
theorem nmX9 : ∀ a, a < 14 → ∀ b, b < 14 → a ≠ b → (TX9 a).2.1 ≠ (TX9 b).2.1 := by decide +kernel
theorem tyX9_ok : ∀ k, k < 14 → parseFieldDescriptor (TX9 k).2.2.1 = some (tyX9 k) := by decide +kernel
abbrev cX9_init : ByteArray := prog_11_method_1_code
def yX9_init : MethodName := ⟨RX9, "<init>", "()V"⟩
abbrev cX9_in : ByteArray := prog_11_method_3_code
def yX9_in : MethodName := ⟨RX9, "in", "(III)Z"⟩
abbrev cX9_bring : ByteArray := prog_11_method_4_code
def yX9_bring : MethodName := ⟨RX9, "bring", "([II[II)V"⟩
abbrev cX9_hold : ByteArray := prog_11_method_5_code
def yX9_hold : MethodName := ⟨RX9, "hold", "()V"⟩
abbrev cX9_ends : ByteArray := prog_11_method_6_code
def yX9_ends : MethodName := ⟨RX9, "ends", "(I)I"⟩
abbrev cX9_isMember : ByteArray := prog_11_method_7_code
def yX9_isMember : MethodName := ⟨RX9, "isMember", "(I)Z"⟩
abbrev cX9_isTool : ByteArray := prog_11_method_8_code
def yX9_isTool : MethodName := ⟨RX9, "isTool", "(I)Z"⟩
abbrev cX9_of : ByteArray := prog_11_method_9_code
def yX9_of : MethodName := ⟨RX9, "of", "(II)I"⟩
abbrev cX9_more : ByteArray := prog_11_method_10_code
def yX9_more : MethodName := ⟨RX9, "more", "(III)V"⟩
abbrev cX9_its : ByteArray := prog_11_method_11_code
def yX9_its : MethodName := ⟨RX9, "its", "(II)I"⟩
abbrev cX9_lay : ByteArray := prog_11_method_12_code
def yX9_lay : MethodName := ⟨RX9, "lay", "(III)V"⟩
abbrev cX9_gains : ByteArray := prog_11_method_13_code
def yX9_gains : MethodName := ⟨RX9, "gains", "(III)V"⟩
abbrev cX9_charges : ByteArray := prog_11_method_14_code
def yX9_charges : MethodName := ⟨RX9, "charges", "(III)V"⟩
abbrev cX9_shares : ByteArray := prog_11_method_15_code
def yX9_shares : MethodName := ⟨RX9, "shares", "(II)Z"⟩
abbrev cX9_sharing : ByteArray := prog_11_method_16_code
def yX9_sharing : MethodName := ⟨RX9, "sharing", "(I)I"⟩
abbrev cX9_shared : ByteArray := prog_11_method_17_code
def yX9_shared : MethodName := ⟨RX9, "shared", "(III)V"⟩
abbrev cX9_openOf : ByteArray := prog_11_method_18_code
def yX9_openOf : MethodName := ⟨RX9, "openOf", "(I)I"⟩
abbrev cX9_highest : ByteArray := prog_11_method_19_code
def yX9_highest : MethodName := ⟨RX9, "highest", "(I)I"⟩
abbrev cX9_set : ByteArray := prog_11_method_20_code
def yX9_set : MethodName := ⟨RX9, "set", "(II)I"⟩
abbrev cX9_member : ByteArray := prog_11_method_21_code
def yX9_member : MethodName := ⟨RX9, "member", "()I"⟩
abbrev cX9_away : ByteArray := prog_11_method_22_code
def yX9_away : MethodName := ⟨RX9, "away", "(II)I"⟩
abbrev cX9_toolsOf : ByteArray := prog_11_method_23_code
def yX9_toolsOf : MethodName := ⟨RX9, "toolsOf", "(IZ)I"⟩
abbrev cX9_isInPanel : ByteArray := prog_11_method_24_code
def yX9_isInPanel : MethodName := ⟨RX9, "isInPanel", "(I)Z"⟩
abbrev cX9_placeIn : ByteArray := prog_11_method_25_code
def yX9_placeIn : MethodName := ⟨RX9, "placeIn", "(II)I"⟩
abbrev cX9_turnOf : ByteArray := prog_11_method_26_code
def yX9_turnOf : MethodName := ⟨RX9, "turnOf", "(I)I"⟩
abbrev cX9_outOfTurns : ByteArray := prog_11_method_27_code
def yX9_outOfTurns : MethodName := ⟨RX9, "outOfTurns", "(I)V"⟩
abbrev cX9_leave : ByteArray := prog_11_method_28_code
def yX9_leave : MethodName := ⟨RX9, "leave", "(I)I"⟩
abbrev cX9_noGift : ByteArray := prog_11_method_29_code
def yX9_noGift : MethodName := ⟨RX9, "noGift", "(II)I"⟩
abbrev cX9_give : ByteArray := prog_11_method_30_code
def yX9_give : MethodName := ⟨RX9, "give", "(II)I"⟩
abbrev cX9_memberOf : ByteArray := prog_11_method_31_code
def yX9_memberOf : MethodName := ⟨RX9, "memberOf", "(II)I"⟩
abbrev cX9_account : ByteArray := prog_11_method_32_code
def yX9_account : MethodName := ⟨RX9, "account", "(I)I"⟩
abbrev cX9_debtorAt : ByteArray := prog_11_method_33_code
def yX9_debtorAt : MethodName := ⟨RX9, "debtorAt", "(I)I"⟩
abbrev cX9_real : ByteArray := prog_11_method_34_code
def yX9_real : MethodName := ⟨RX9, "real", "(I)F"⟩
abbrev cX9_bitsOf : ByteArray := prog_11_method_35_code
def yX9_bitsOf : MethodName := ⟨RX9, "bitsOf", "(F)I"⟩
abbrev cX9_thousandths : ByteArray := prog_11_method_36_code
def yX9_thousandths : MethodName := ⟨RX9, "thousandths", "(F)I"⟩
abbrev cX9_duller : ByteArray := prog_11_method_37_code
def yX9_duller : MethodName := ⟨RX9, "duller", "(II)F"⟩
abbrev cX9_tool : ByteArray := prog_11_method_38_code
def yX9_tool : MethodName := ⟨RX9, "tool", "(III)I"⟩
abbrev cX9_onHook : ByteArray := prog_11_method_39_code
def yX9_onHook : MethodName := ⟨RX9, "onHook", "(I)I"⟩
abbrev cX9_onWall : ByteArray := prog_11_method_40_code
def yX9_onWall : MethodName := ⟨RX9, "onWall", "(I)I"⟩
abbrev cX9_hang : ByteArray := prog_11_method_41_code
def yX9_hang : MethodName := ⟨RX9, "hang", "(III)I"⟩
abbrev cX9_noLoan : ByteArray := prog_11_method_42_code
def yX9_noLoan : MethodName := ⟨RX9, "noLoan", "(II)I"⟩
abbrev cX9_goesOut : ByteArray := prog_11_method_43_code
def yX9_goesOut : MethodName := ⟨RX9, "goesOut", "(IIII)V"⟩
abbrev cX9_borrows : ByteArray := prog_11_method_44_code
def yX9_borrows : MethodName := ⟨RX9, "borrows", "(II)V"⟩
abbrev cX9_borrow : ByteArray := prog_11_method_45_code
def yX9_borrow : MethodName := ⟨RX9, "borrow", "(II)I"⟩
abbrev cX9_noReturn : ByteArray := prog_11_method_46_code
def yX9_noReturn : MethodName := ⟨RX9, "noReturn", "(I)I"⟩
abbrev cX9_daysOut : ByteArray := prog_11_method_47_code
def yX9_daysOut : MethodName := ⟨RX9, "daysOut", "(I)I"⟩
abbrev cX9_returned : ByteArray := prog_11_method_48_code
def yX9_returned : MethodName := ⟨RX9, "returned", "(I)I"⟩
abbrev cX9_giveBack : ByteArray := prog_11_method_49_code
def yX9_giveBack : MethodName := ⟨RX9, "giveBack", "(I)I"⟩
abbrev cX9_isOut : ByteArray := prog_11_method_50_code
def yX9_isOut : MethodName := ⟨RX9, "isOut", "(I)Z"⟩
abbrev cX9_toolOf : ByteArray := prog_11_method_51_code
def yX9_toolOf : MethodName := ⟨RX9, "toolOf", "(II)I"⟩
abbrev cX9_bits : ByteArray := prog_11_method_52_code
def yX9_bits : MethodName := ⟨RX9, "bits", "(I)I"⟩
abbrev cX9_dullBehind : ByteArray := prog_11_method_53_code
def yX9_dullBehind : MethodName := ⟨RX9, "dullBehind", "(II)I"⟩
abbrev cX9_mean : ByteArray := prog_11_method_54_code
def yX9_mean : MethodName := ⟨RX9, "mean", "(I)I"⟩
abbrev cX9_hookAt : ByteArray := prog_11_method_55_code
def yX9_hookAt : MethodName := ⟨RX9, "hookAt", "(II)I"⟩
abbrev cX9_isCutter : ByteArray := prog_11_method_56_code
def yX9_isCutter : MethodName := ⟨RX9, "isCutter", "(I)Z"⟩
abbrev cX9_isDuller : ByteArray := prog_11_method_57_code
def yX9_isDuller : MethodName := ⟨RX9, "isDuller", "(II)Z"⟩
abbrev cX9_dullest : ByteArray := prog_11_method_58_code
def yX9_dullest : MethodName := ⟨RX9, "dullest", "()I"⟩
abbrev cX9_whoSharpens : ByteArray := prog_11_method_59_code
def yX9_whoSharpens : MethodName := ⟨RX9, "whoSharpens", "()I"⟩
abbrev cX9_isDull : ByteArray := prog_11_method_60_code
def yX9_isDull : MethodName := ⟨RX9, "isDull", "(I)Z"⟩
abbrev cX9_sharpens : ByteArray := prog_11_method_61_code
def yX9_sharpens : MethodName := ⟨RX9, "sharpens", "(II)V"⟩
abbrev cX9_sharpen : ByteArray := prog_11_method_62_code
def yX9_sharpen : MethodName := ⟨RX9, "sharpen", "()I"⟩
abbrev cX9_swap : ByteArray := prog_11_method_63_code
def yX9_swap : MethodName := ⟨RX9, "swap", "(II)I"⟩
abbrev cX9_turnAt : ByteArray := prog_11_method_64_code
def yX9_turnAt : MethodName := ⟨RX9, "turnAt", "(I)I"⟩
abbrev cX9_dullAt : ByteArray := prog_11_method_65_code
def yX9_dullAt : MethodName := ⟨RX9, "dullAt", "(I)I"⟩
abbrev cX9_isCalled : ByteArray := prog_11_method_66_code
def yX9_isCalled : MethodName := ⟨RX9, "isCalled", "(II)Z"⟩
abbrev cX9_calls : ByteArray := prog_11_method_67_code
def yX9_calls : MethodName := ⟨RX9, "calls", "(I)Z"⟩
abbrev cX9_lose : ByteArray := prog_11_method_68_code
def yX9_lose : MethodName := ⟨RX9, "lose", "(I)I"⟩
abbrev cX9_decided : ByteArray := prog_11_method_69_code
def yX9_decided : MethodName := ⟨RX9, "decided", "(I)I"⟩
abbrev cX9_paysFor : ByteArray := prog_11_method_70_code
def yX9_paysFor : MethodName := ⟨RX9, "paysFor", "(II)V"⟩
abbrev cX9_say : ByteArray := prog_11_method_71_code
def yX9_say : MethodName := ⟨RX9, "say", "(III)I"⟩
abbrev cX9_find : ByteArray := prog_11_method_72_code
def yX9_find : MethodName := ⟨RX9, "find", "(I)I"⟩
abbrev cX9_panelAt : ByteArray := prog_11_method_73_code
def yX9_panelAt : MethodName := ⟨RX9, "panelAt", "(III)I"⟩
abbrev cX9_propose : ByteArray := prog_11_method_74_code
def yX9_propose : MethodName := ⟨RX9, "propose", "(III)I"⟩
abbrev cX9_bitsIn : ByteArray := prog_11_method_75_code
def yX9_bitsIn : MethodName := ⟨RX9, "bitsIn", "(I)I"⟩
abbrev cX9_counted : ByteArray := prog_11_method_76_code
def yX9_counted : MethodName := ⟨RX9, "counted", "(I)I"⟩
abbrev cX9_vote : ByteArray := prog_11_method_77_code
def yX9_vote : MethodName := ⟨RX9, "vote", "(III)I"⟩
abbrev cX9_proposalOf : ByteArray := prog_11_method_78_code
def yX9_proposalOf : MethodName := ⟨RX9, "proposalOf", "(II)I"⟩
abbrev cX9_lendOut : ByteArray := prog_11_method_79_code
def yX9_lendOut : MethodName := ⟨RX9, "lendOut", "(IIII)I"⟩
abbrev cX9_comeBack : ByteArray := prog_11_method_80_code
def yX9_comeBack : MethodName := ⟨RX9, "comeBack", "(I)I"⟩
abbrev cX9_dayBegins : ByteArray := prog_11_method_81_code
def yX9_dayBegins : MethodName := ⟨RX9, "dayBegins", "()V"⟩
abbrev cX9_pass : ByteArray := prog_11_method_82_code
def yX9_pass : MethodName := ⟨RX9, "pass", "(I)I"⟩
abbrev cX9_inStatus : ByteArray := prog_11_method_83_code
def yX9_inStatus : MethodName := ⟨RX9, "inStatus", "(I)I"⟩
abbrev cX9_inPlace : ByteArray := prog_11_method_84_code
def yX9_inPlace : MethodName := ⟨RX9, "inPlace", "(I)I"⟩
abbrev cX9_proposals : ByteArray := prog_11_method_85_code
def yX9_proposals : MethodName := ⟨RX9, "proposals", "()I"⟩
abbrev cX9_count : ByteArray := prog_11_method_86_code
def yX9_count : MethodName := ⟨RX9, "count", "(I)I"⟩
abbrev cX9_undo : ByteArray := prog_11_method_87_code
def yX9_undo : MethodName := ⟨RX9, "undo", "()I"⟩
abbrev cX9_type : ByteArray := prog_11_method_88_code
def yX9_type : MethodName := ⟨RX9, "type", "(I)I"⟩
abbrev cX9_clearText : ByteArray := prog_11_method_89_code
def yX9_clearText : MethodName := ⟨RX9, "clearText", "()I"⟩
abbrev cX9_here : ByteArray := prog_11_method_90_code
def yX9_here : MethodName := ⟨RX9, "here", "()I"⟩
abbrev cX9_number : ByteArray := prog_11_method_91_code
def yX9_number : MethodName := ⟨RX9, "number", "()I"⟩
abbrev cX9_passes : ByteArray := prog_11_method_92_code
def yX9_passes : MethodName := ⟨RX9, "passes", "(I)Z"⟩
abbrev cX9_readOrder : ByteArray := prog_11_method_93_code
def yX9_readOrder : MethodName := ⟨RX9, "readOrder", "()Z"⟩
abbrev cX9_does : ByteArray := prog_11_method_94_code
def yX9_does : MethodName := ⟨RX9, "does", "()I"⟩
abbrev cX9_runs : ByteArray := prog_11_method_95_code
def yX9_runs : MethodName := ⟨RX9, "runs", "()I"⟩
abbrev cX9_fault : ByteArray := prog_11_method_96_code
def yX9_fault : MethodName := ⟨RX9, "fault", "(I)I"⟩
abbrev cX9_play : ByteArray := prog_11_method_97_code
def yX9_play : MethodName := ⟨RX9, "play", "()I"⟩
def RJxf58ca : String := "java/lang/Float"
def TJxf58ca : u_T := fun k => match k with
  | _ => ("", "", "", false)
def tyJxf58ca : Nat → FieldType := fun k => match k with
  | _ => .int
abbrev wsJxf58ca0 : List Cond := u_ws RJxf58ca TJxf58ca 0
theorem nmJxf58ca : ∀ a, a < 0 → ∀ b, b < 0 → a ≠ b → (TJxf58ca a).2.1 ≠ (TJxf58ca b).2.1 := by decide +kernel
theorem tyJxf58ca_ok : ∀ k, k < 0 → parseFieldDescriptor (TJxf58ca k).2.2.1 = some (tyJxf58ca k) := by decide +kernel
abbrev cJxf58ca_isNaN_12338 : ByteArray := prog_12_method_6_code
def yJxf58ca_isNaN_12338 : MethodName := ⟨RJxf58ca, "isNaN", "(F)Z"⟩
abbrev cJxf58ca_floatToIntBits_5c35a : ByteArray := prog_12_method_24_code
def yJxf58ca_floatToIntBits_5c35a : MethodName := ⟨RJxf58ca, "floatToIntBits", "(F)I"⟩
def RJ9 : String := "java/lang/Math"
def TJ9 : u_T := fun k => match k with
  | _ => ("", "", "", false)
def tyJ9 : Nat → FieldType := fun k => match k with
  | _ => .int
abbrev wsJ90 : List Cond := u_ws RJ9 TJ9 0
theorem nmJ9 : ∀ a, a < 0 → ∀ b, b < 0 → a ≠ b → (TJ9 a).2.1 ≠ (TJ9 b).2.1 := by decide +kernel
theorem tyJ9_ok : ∀ k, k < 0 → parseFieldDescriptor (TJ9 k).2.2.1 = some (tyJ9 k) := by decide +kernel
abbrev cJ9_max_7cf53 : ByteArray := prog_13_method_65_code
def yJ9_max_7cf53 : MethodName := ⟨RJ9, "max", "(II)I"⟩
abbrev cJ9_min_7cf53 : ByteArray := prog_13_method_69_code
def yJ9_min_7cf53 : MethodName := ⟨RJ9, "min", "(II)I"⟩
def RJ10 : String := "java/lang/System"
def TJ10 : u_T := fun k => match k with
  | _ => ("", "", "", false)
def tyJ10 : Nat → FieldType := fun k => match k with
  | _ => .int
abbrev wsJ100 : List Cond := u_ws RJ10 TJ10 0
theorem nmJ10 : ∀ a, a < 0 → ∀ b, b < 0 → a ≠ b → (TJ10 a).2.1 ≠ (TJ10 b).2.1 := by decide +kernel
theorem tyJ10_ok : ∀ k, k < 0 → parseFieldDescriptor (TJ10 k).2.2.1 = some (tyJ10 k) := by decide +kernel
def RL : String := "ToolShedLaw"
abbrev cL_law : ByteArray := code
def yL_law : MethodName := ⟨RL, "law", "([I)Z"⟩
abbrev vwCl : List vw_C := [(RX0, TX0, 2), (RX1, TX1, 1), (RX2, TX2, 5), (RX3, TX3, 6), (RX4, TX4, 3), (RX5, TX5, 7), (RX6, TX6, 5), (RX7, TX7, 14), (RX8, TX8, 4), (RX9, TX9, 14)]
end
section
/-! An abstract machine of our own over the kit's rows: objects have names (kind, a, b), each holds a content; one judgement sh_V. -/
def shW : List Cond := lw_tbl.filter goodWord
theorem sh_in {w : Cond} (i : Nat) (h : lw_tbl[i]? = some w) (hg : goodWord w = true) : w ∈ shW := List.mem_filter.mpr ⟨List.mem_of_getElem? h, hg⟩
theorem sh_good : GoodIn shW shW := fun w h => ⟨h, good_of_word (List.mem_filter.mp h).2⟩
theorem sh_good1 {w : Cond} (h : w ∈ shW) : GoodIn shW (w :: shW) := fun x hx => by
  rcases List.mem_cons.mp hx with e | e
  · subst e; exact sh_good _ h
  · exact sh_good x e
/-- words of nest mates, and of rows of references: not carried by the words' list -/
def sh_N (s : State) : Prop := (∀ a i x h, Cond.methodLinkNest a i x h ∈ lw_tbl → va_Nw (.methodLinkNest a i x h) s) ∧ (∀ a i b n d h, Cond.fieldLinkNest a i b n d h ∈ lw_tbl → va_Nw (.fieldLinkNest a i b n d h) s) ∧ ∀ C, Cond.arrayOver (.object C) ∈ lw_tbl → va_AO C s
theorem sh_N.same {s U : State} (h : s.vm = U.vm) (k : sh_N s) : sh_N U := ⟨fun a i x z hw => (k.1 a i x z hw).same rfl h, fun a i b n d z hw => (k.2.1 a i b n d z hw).same rfl h, fun C hw => (k.2.2 C hw).moved (h ▸ Vm.Alike.refl _)⟩
abbrev sh_O : Type := Nat × Nat × Nat
abbrev sh_v : Type := Option (Int32 ⊕ (sh_O ⊕ (UInt32 ⊕ UInt64)))
abbrev sh_I (x : Int32) : sh_v := some (.inl x)
abbrev sh_R (o : sh_O) : sh_v := some (.inr (.inl o))
abbrev sh_F (x : UInt32) : sh_v := some (.inr (.inr (.inl x)))
abbrev sh_Dv (x : UInt64) : sh_v := some (.inr (.inr (.inr x)))
/-- contents: an object (its class' number, its fields); rows of ints; of chars; of references (which class of rows) -/
abbrev sh_c : Type := (Nat × List sh_v) ⊕ ((Nat × (Nat → Int32)) ⊕ ((Nat × (Nat → Int32)) ⊕ (Nat × Nat × (Nat → Option sh_O))))
abbrev sh_P : Type := sh_O → Option sh_c
abbrev sh_G : Type := Launch × va_G × (Nat → ClassId) × (Nat → Prop) × (sh_O → Nat) × (Nat × (Nat → Int32))
abbrev sh_l (g : sh_G) : Launch := g.1
abbrev sh_D (g : sh_G) : va_G := g.2.1
abbrev sh_cy (g : sh_G) : Nat → ClassId := g.2.2.1
abbrev sh_A (g : sh_G) : Nat → Prop := g.2.2.2.1
abbrev sh_ad (g : sh_G) : sh_O → Nat := g.2.2.2.2.1
abbrev sh_L (g : sh_G) : Nat := g.2.2.2.2.2.1
abbrev sh_xs (g : sh_G) : Nat → Int32 := g.2.2.2.2.2.2
def sh_tv (g : sh_G) (v : sh_v) : Value := match v with
  | none => .null
  | some (.inl x) => .int x
  | some (.inr (.inl o)) => .ref (sh_ad g o)
  | some (.inr (.inr (.inl x))) => .float x
  | some (.inr (.inr (.inr x))) => .double x
def sh_tq (g : sh_G) (q : Nat × sh_v) : Nat × Value := (q.1, sh_tv g q.2)
def sh_ce (g : sh_G) (c : sh_c) : va_E := match c with
  | .inl o => .inr (o.1, o.2.map (sh_tv g))
  | .inr (.inl a) => .inl (sh_cy g 0, a.1, .inl a.2)
  | .inr (.inr (.inl a)) => .inl (sh_cy g 1, a.1, .inl a.2)
  | .inr (.inr (.inr a)) => .inl (sh_cy g a.1, a.2.1, .inr (.inr (.inr (.inr (fun j => (a.2.2 j).map (sh_ad g))))))
def sh_up (φ : sh_P) (o : sh_O) (c : sh_c) : sh_P := fun q => if q = o then some c else φ q
def sh_W (g : sh_G) (φ : sh_P) (sz : Nat) (H : Heap) : Prop := H.size = sz ∧ (∀ o c, φ o = some c → va_at (sh_D g) vwCl (sh_ad g o, sh_ce g c) H ∧ sh_A g (sh_ad g o)) ∧ ∀ o o', φ o ≠ none → φ o' ≠ none → sh_ad g o = sh_ad g o' → o = o'
def sh_tys (g : sh_G) : List (ClassId × FieldType) := [(sh_cy g 0, .int), (sh_cy g 1, .char), (sh_cy g 2, .object RX1), (sh_cy g 3, .object RX6), (sh_cy g 4, .object RX7)]
def sh_K (g : sh_G) (s : State) : Prop := va_K (sh_D g) vwCl (sh_tys g) s
def sh_sn (i : Nat) : String := if i = 0 then "SETTING_LEAST" else if i = 1 then "SETTING_MOST" else "SETTING_FIRST"
def sh_sf (i j : Nat) : Int32 := ([[0, 1, 0, 0, 0, 0, 1], [400, 60, 20, 40, 1000, 100, 60], [20, 7, 1, 2, 600, 80, 10]].getD i []).getD j 0
def sh_ST (g : sh_G) (s : State) : Prop := (∀ i, i < 3 → va_Z RX8 (sh_sn i) "[I" (.ref (sh_ad g (98, i, 0))) (sh_A g) s s.heap ∧ va_T .int (sh_ad g (98, i, 0)) 7 (fun j => .int (sh_sf i j)) (sh_A g) s s.heap) ∧ va_X (sh_ad g (99, 0, 0)) (sh_L g) (sh_xs g) s s.heap ∧ sh_ad g (99, 0, 0) < s.heap.size ∧ ¬ sh_A g (sh_ad g (99, 0, 0))
/-- a method: its name, code, words of locals, answer's type, (frames, locals' words) and (cells, slots) of its room -/
abbrev sh_M : Type := MethodName × ByteArray × Nat × Option FieldType × (Nat × Nat) × (Nat × Nat)
abbrev sh_cc (M : sh_M) : ByteArray := M.2.1
abbrev sh_nL (M : sh_M) : Nat := M.2.2.1
abbrev sh_rt (M : sh_M) : Option FieldType := M.2.2.2.1
abbrev sh_mc (M : sh_M) : Nat := M.2.2.2.2.2.1
abbrev sh_ms (M : sh_M) : Nat := M.2.2.2.2.2.2
abbrev sh_rm (M : sh_M) : Room := { frames := M.2.2.2.2.1.1, cells := M.2.2.2.2.2.1, slots := M.2.2.2.2.2.2, locals := M.2.2.2.2.1.2 }
abbrev sh_ws (M : sh_M) : List Cond := Cond.code M.1 (sh_cc M) (sh_nL M) (sh_rt M) :: shW
abbrev sh_T : Type := Option sh_v → sh_P → Nat → Prop
def sh_Q (g : sh_G) (Q : sh_T) : Array Value → State → Outcome → State → Prop := fun _ st oc t => (∃ r φ sz, oc = .returned (r.map (sh_tv g)) ∧ Q r φ sz ∧ sh_W g φ sz t.heap) ∧ va_F (sh_A g) st t
def sh_X (g : sh_G) (M : sh_M) (p : Program) (s : State) (m : MethodId) (args : Array Value) (meth : Method) (c : Code) : Prop :=
  p.tables.exec = Jvm.exec ∧ c.code = sh_cc M ∧ c.maxLocals = sh_nL M ∧ s.vm.findClass M.1.cls = some m.cls ∧ (∀ w ∈ shW, w.before args s = true) ∧ sh_K g s ∧ (sh_ST g s ∧ sh_N s) ∧ (∀ q, s.heap.size ≤ q → sh_A g q) ∧ meth.sig.returnType = sh_rt M ∧ meth.locks = false ∧ meth.name = M.1.name
/-- the judgement: from this point of method M, with these locals, stack and contents, M returns, and Q holds of the answer and the contents then -/
def sh_V (g : sh_G) (M : sh_M) (cells slots pc : Nat) (ls : List (Nat × sh_v)) (st : List sh_v) (φ : sh_P) (sz : Nat) (Q : sh_T) : Prop :=
  ∀ (p : Program) (e : Env) (s : State) (m : MethodId) (args : Array Value) (below : List Frame) (meth : Method) (c : Code), sh_X g M p s m args meth c →
    ∀ (H : Heap) (locs : List Loc) (lsA : Array Slot), lv_has lsA (sh_nL M) (ls.map (sh_tq g)) → sh_W g φ sz H → va_S (sh_A g) s.heap H locs →
      W p (sh_l g) e (sh_rm M) s m args below meth c H locs cells slots (MQ below (sh_Q g Q) args s (sh_mc M) (sh_ms M) (sh_A g)) (F0 m pc lsA (st.map (sh_tv g)))
def sh_pre (g : sh_G) (φ : sh_P) (sz : Nat) (U : State) : Prop := sh_K g U ∧ (sh_ST g U ∧ sh_N U) ∧ (∀ q, U.heap.size ≤ q → sh_A g q) ∧ sh_W g φ sz U.heap
def sh_Call (g : sh_G) (M : sh_M) (as : List sh_v) (φ : sh_P) (sz : Nat) (Q : sh_T) : Prop :=
  Met (sh_l g) M.1 (sh_ws M) (sh_rm M) (va_Pc (as.map (sh_tv g)) (sh_pre g φ sz)) (sh_Q g Q) (sh_mc M) (sh_ms M) (sh_A g)
-- contents
theorem sh_W.set {g : sh_G} {φ : sh_P} {sz : Nat} {H H1 : Heap} {o : sh_O} {c0 c : sh_c} (h : sh_W g φ sz H) (ho : φ o = some c0) (z : H1.size = H.size) (hc : va_at (sh_D g) vwCl (sh_ad g o, sh_ce g c) H1) (oq : ∀ q : Nat, q ≠ sh_ad g o → H1[q]? = H[q]?) : sh_W g (sh_up φ o c) sz H1 := by
  have hn : ∀ q, sh_up φ o c q ≠ none → φ q ≠ none := by
    intro q hq
    by_cases e : q = o
    · subst e; rw [ho]; exact fun z => by cases z
    · simpa [sh_up, e] using hq
  refine ⟨z.trans h.1, fun q d hd => ?_, fun q q' h1 h2 => h.2.2 q q' (hn q h1) (hn q' h2)⟩
  by_cases e : q = o
  · subst e
    simp [sh_up] at hd
    subst hd
    exact ⟨hc, (h.2.1 q c0 ho).2⟩
  · simp [sh_up, e] at hd
    refine ⟨(h.2.1 q d hd).1.kept (oq _ fun z => e ?_), (h.2.1 q d hd).2⟩
    exact h.2.2 q o (by rw [hd]; exact fun z => by cases z) (by rw [ho]; exact fun z => by cases z) z
theorem sh_W.push {g : sh_G} {φ : sh_P} {sz : Nat} {H H1 : Heap} {o : sh_O} {c : sh_c} (h : sh_W g φ sz H) (ho : φ o = none) (ha : sh_ad g o = sz) (hA : sh_A g sz) (z : H1.size = sz + 1) (hc : va_at (sh_D g) vwCl (sh_ad g o, sh_ce g c) H1) (oq : ∀ q : Nat, q < sz → H1[q]? = H[q]?) : sh_W g (sh_up φ o c) (sz + 1) H1 := by
  have hlt : ∀ q, φ q ≠ none → sh_ad g q < sz := by
    intro q hq
    cases hd : φ q with
    | none => exact absurd hd hq
    | some d => rw [← h.1]; exact (h.2.1 q d hd).1.lt
  have hn : ∀ q, q ≠ o → sh_up φ o c q ≠ none → φ q ≠ none := by
    intro q e hq
    simpa [sh_up, e] using hq
  refine ⟨z, fun q d hd => ?_, fun q q' h1 h2 h3 => ?_⟩
  · by_cases e : q = o
    · subst e
      simp [sh_up] at hd
      subst hd
      exact ⟨hc, by rw [ha]; exact hA⟩
    · simp [sh_up, e] at hd
      have hl := hlt q (by rw [hd]; exact fun z => by cases z)
      exact ⟨(h.2.1 q d hd).1.kept (oq _ hl), (h.2.1 q d hd).2⟩
  · by_cases e : q = o <;> by_cases e' : q' = o
    · rw [e, e']
    · have := hlt q' (hn q' e' h2)
      rw [e] at h3
      omega
    · have := hlt q (hn q e h1)
      rw [e'] at h3
      omega
    · exact h.2.2 q q' (hn q e h1) (hn q' e' h2) h3
theorem sh_W.one {g : sh_G} {φ : sh_P} {sz : Nat} {H : Heap} {o : sh_O} {c : sh_c} (h : sh_W g φ sz H) (ho : φ o = some c) : va_P (sh_D g) vwCl [(sh_ad g o, sh_ce g c)] H := by
  intro k q hk
  have hz : k < 1 := (List.getElem?_eq_some_iff.mp hk).1
  rw [show k = 0 by omega] at hk
  cases hk
  exact (h.2.1 o c ho).1
theorem sh_W.two {g : sh_G} {φ : sh_P} {sz : Nat} {H : Heap} {o o' : sh_O} {c c' : sh_c} (h : sh_W g φ sz H) (ho : φ o = some c) (ho' : φ o' = some c') : va_P (sh_D g) vwCl [(sh_ad g o, sh_ce g c), (sh_ad g o', sh_ce g c')] H := (h.one ho).app (h.one ho')
theorem sh_ST.at {g : sh_G} {s U : State} {H : Heap} {locs : List Loc} (h : sh_ST g s) (hU : U.heap = H) (hvm : s.vm.Alike U.vm) (hS : va_S (sh_A g) s.heap H locs) : sh_ST g U := by
  have hq : ∀ a : Nat, a < s.heap.size → ¬ sh_A g a → U.heap[a]? = s.heap[a]? := fun a x y => by rw [hU]; exact hS.2.1 a x y
  refine ⟨fun i hi => ?_, (h.2.1.kept (hq _ h.2.2.1 h.2.2.2)).moved hvm, Nat.lt_of_lt_of_le h.2.2.1 (by rw [hU]; exact hS.1), h.2.2.2⟩
  obtain ⟨h1, h2⟩ := h.1 i hi
  exact ⟨(h1.kept hq).moved hvm, (h2.kept hq).moved hvm⟩
theorem sh_blind {g : sh_G} {φ : sh_P} {sz : Nat} {av : List Value} : FrameBlind (va_Pc av (sh_pre g φ sz)) := fun a U gg mk q =>
  ⟨q.1, va_K.moved (u := U) (U := U.calling gg mk a) (Vm.Alike.refl U.vm) q.2.1, ⟨⟨fun i hi => ⟨va_Z.moved (u := U) (U := U.calling gg mk a) (Vm.Alike.refl U.vm) (q.2.2.1.1.1 i hi).1, va_T.moved (u := U) (U := U.calling gg mk a) (Vm.Alike.refl U.vm) (q.2.2.1.1.1 i hi).2⟩, va_X.moved (u := U) (U := U.calling gg mk a) (Vm.Alike.refl U.vm) q.2.2.1.1.2.1, q.2.2.1.1.2.2⟩, q.2.2.1.2.same rfl⟩, q.2.2.2.1, q.2.2.2.2⟩
theorem sh_S.put {A : Nat → Prop} {H0 H H1 : Heap} {locs : List Loc} {a k : Nat} (h : va_S A H0 H locs) (z : H1.size = H.size) (oq : ∀ q : Nat, q ≠ a → H1[q]? = H[q]?) (ha : A a) : va_S A H0 H1 (locs ++ [⟨a, k⟩]) := h.put z oq ha
theorem sh_S.push {A : Nat → Prop} {H0 H H1 : Heap} {locs : List Loc} {n : Nat} (h : va_S A H0 H locs) (hn : H.size = n) (z : H1.size = n + 1) (oq : ∀ q : Nat, q < n → H1[q]? = H[q]?) : va_S A H0 H1 locs := ⟨by rw [z]; exact Nat.le_succ_of_le (hn ▸ h.1), fun q h1 h2 => (oq q (hn ▸ Nat.lt_of_lt_of_le h1 h.1)).trans (h.2.1 q h1 h2), h.2.2⟩
-- entry and end
theorem sh_enter {g : sh_G} {M : sh_M} {as : List sh_v} {φ : sh_P} {sz : Nat} {Q : sh_T} {ls : List (Nat × sh_v)} (hy : plainName M.1.cls = true) (hn : (lg_sl (as.map (sh_tv g))).length ≤ sh_nL M) (hl : lv_args 0 (as.map (sh_tv g)) = ls.map (sh_tq g)) (h : sh_V g M 0 0 0 ls [] φ sz Q) : sh_Call g M as φ sz Q := by
  refine Met.ofW (cc := sh_cc M) (maxL := sh_nL M) (ret := sh_rt M) hy rfl ?_
  intro p e s m args below meth c s₁ B hml hv
  obtain ⟨rfl, hK, hST, hA, hW⟩ := hv
  have hts : ∀ w ∈ shW, w.before (as.map (sh_tv g)).toArray s = true := fun w hw => atoms_spec (ws := sh_ws M) B.pre w (List.mem_cons_of_mem _ hw)
  have hX : sh_X g M p s m (as.map (sh_tv g)).toArray meth c := ⟨B.exec, B.bytes, hml, findClass_of_methodNamed B.named, hts, hK, hST, hA, B.returns, B.notSynchronized, (name_of_methodNamed B.named B.method).1⟩
  rw [lg_entry_eq]
  exact h p e s m _ below meth c hX s.heap [] _ (hl ▸ lv_entry (as.map (sh_tv g)) hn) hW va_S.rf
section ROWS
variable {g : sh_G} {M : sh_M} {cells slots pc : Nat} {ls ls' : List (Nat × sh_v)} {st : List sh_v} {φ : sh_P} {sz : Nat} {Q : sh_T}
theorem sh_ireturn {x : Int32} (d : decode (sh_cc M) pc = .ok (.ireturn, 1)) (hr : sh_rt M = some .int) (hc : cells = sh_mc M ∧ slots = sh_ms M) (h : Q (some (sh_I x)) φ sz) : sh_V g M cells slots pc ls [sh_I x] φ sz Q := by
  intro p e s m args below meth c X H locs lsA hl hW hS
  obtain ⟨hx, hb, hml, hown, hts, hK, hST, hA, hret, hlocks, hnm⟩ := X
  obtain ⟨rfl, rfl⟩ := hc
  exact W.iret hx hb (hret.trans hr) (fun t ht _ => ⟨⟨some (sh_I x), φ, sz, rfl, h, by rw [ht]; exact hW⟩, hS.F ht⟩) hS.2.2 d hlocks
theorem sh_zreturn {x : Int32} {ty : FieldType} (d : decode (sh_cc M) pc = .ok (.ireturn, 1)) (hr : sh_rt M = some ty) (hn : narrow ty (.int x) = .int x) (hc : cells = sh_mc M ∧ slots = sh_ms M) (h : Q (some (sh_I x)) φ sz) : sh_V g M cells slots pc ls [sh_I x] φ sz Q := by
  intro p e s m args below meth c X H locs lsA hl hW hS
  obtain ⟨hx, hb, hml, hown, hts, hK, hST, hA, hret, hlocks, hnm⟩ := X
  obtain ⟨rfl, rfl⟩ := hc
  exact W.zret hx hb (hret.trans hr) hn (fun t ht _ => ⟨⟨some (sh_I x), φ, sz, rfl, h, by rw [ht]; exact hW⟩, hS.F ht⟩) hS.2.2 d hlocks
theorem sh_return (d : decode (sh_cc M) pc = .ok (.return_, 1)) (hr : sh_rt M = none) (hc : cells = sh_mc M ∧ slots = sh_ms M) (h : Q none φ sz) : sh_V g M cells slots pc ls [] φ sz Q := by
  intro p e s m args below meth c X H locs lsA hl hW hS
  obtain ⟨hx, hb, hml, hown, hts, hK, hST, hA, hret, hlocks, hnm⟩ := X
  obtain ⟨rfl, rfl⟩ := hc
  exact W.vret hx hb (hret.trans hr) (fun t ht _ => ⟨⟨none, φ, sz, rfl, h, by rw [ht]; exact hW⟩, hS.F ht⟩) hS.2.2 d hlocks
theorem sh_freturn {x : UInt32} (d : decode (sh_cc M) pc = .ok (.freturn, 1)) (hr : sh_rt M = some .float) (hc : cells = sh_mc M ∧ slots = sh_ms M) (h : Q (some (sh_F x)) φ sz) : sh_V g M cells slots pc ls [sh_F x] φ sz Q := by
  intro p e s m args below meth c X H locs lsA hl hW hS
  obtain ⟨hx, hb, hml, hown, hts, hK, hST, hA, hret, hlocks, hnm⟩ := X
  obtain ⟨rfl, rfl⟩ := hc
  exact W.fret hx hb (hret.trans hr) (fun t ht _ => ⟨⟨some (sh_F x), φ, sz, rfl, h, by rw [ht]; exact hW⟩, hS.F ht⟩) hS.2.2 d hlocks
end ROWS
end
section
/-! rows of the judgement: instructions that touch locals and stack alone -/
def sh_lk (ls : List (Nat × sh_v)) (k : Nat) : Option sh_v := match ls with
  | [] => none
  | q :: r => if q.1 = k then some q.2 else sh_lk r k
theorem sh_lk_mem {ls : List (Nat × sh_v)} {k : Nat} {v : sh_v} (h : sh_lk ls k = some v) : (k, v) ∈ ls := by
  induction ls with
  | nil => simp [sh_lk] at h
  | cons q r ih =>
    unfold sh_lk at h
    by_cases e : q.1 = k
    · simp [e] at h
      rw [← e, ← h]
      exact List.mem_cons_self
    · simp [e] at h
      exact List.mem_cons_of_mem _ (ih h)
def sh_c2 (v : sh_v) : Bool := match v with
  | some (.inr (.inr (.inr _))) => true
  | _ => false
theorem sh_cat (g : sh_G) (v : sh_v) : ((sh_tv g v).category == 2) = sh_c2 v := by
  rcases v with _ | x | o | x | x <;> rfl
def sh_sto (k : Nat) (v : sh_v) (ls : List (Nat × sh_v)) : List (Nat × sh_v) := (k, v) :: ls.filter (fun q => !(q.1 == k) && !(q.1 + 1 == k && sh_c2 q.2))
def sh_sto2 (k : Nat) (v : sh_v) (ls : List (Nat × sh_v)) : List (Nat × sh_v) := (k, v) :: ls.filter (fun q => !(q.1 == k) && (!(q.1 == k + 1) && !(q.1 + 1 == k && sh_c2 q.2)))
theorem sh_stoE {g : sh_G} {k : Nat} {v : sh_v} {ls ls' : List (Nat × sh_v)} (h : sh_sto k v ls = ls') : (k, sh_tv g v) :: (ls.map (sh_tq g)).filter (fun q => !(q.1 == k) && !(q.1 + 1 == k && q.2.category == 2)) = ls'.map (sh_tq g) := by
  subst h
  rw [List.filter_map]
  show _ = (k, sh_tv g v) :: _
  congr 2
  apply List.filter_congr
  intro q _
  show (!(q.1 == k) && !(q.1 + 1 == k && (sh_tv g q.2).category == 2)) = _
  rw [sh_cat]
theorem sh_sto2E {g : sh_G} {k : Nat} {v : sh_v} {ls ls' : List (Nat × sh_v)} (h : sh_sto2 k v ls = ls') : (k, sh_tv g v) :: (ls.map (sh_tq g)).filter (fun q => !(q.1 == k) && (!(q.1 == k + 1) && !(q.1 + 1 == k && q.2.category == 2))) = ls'.map (sh_tq g) := by
  subst h
  rw [List.filter_map]
  show _ = (k, sh_tv g v) :: _
  congr 2
  apply List.filter_congr
  intro q _
  show (!(q.1 == k) && (!(q.1 == k + 1) && !(q.1 + 1 == k && (sh_tv g q.2).category == 2))) = _
  rw [sh_cat]
theorem sh_at {g : sh_G} {lsA : Array Slot} {n : Nat} {ls : List (Nat × sh_v)} (hl : lv_has lsA n (ls.map (sh_tq g))) {k : Nat} {v : sh_v} (h : sh_lk ls k = some v) : lsA[k]? = some (.val (sh_tv g v)) :=
  hl.2.2 (sh_tq g (k, v)) (List.mem_map_of_mem (sh_lk_mem h))
section ROWS2
variable {g : sh_G} {M : sh_M} {cells slots pc : Nat} {ls ls' : List (Nat × sh_v)} {st : List sh_v} {φ : sh_P} {sz : Nat} {Q : sh_T}
theorem sh_sub (h : ∀ q ∈ ls', q ∈ ls) (k : sh_V g M cells slots pc ls' st φ sz Q) : sh_V g M cells slots pc ls st φ sz Q := by
  intro p e s m args below meth c X H locs lsA hl hW hS
  refine k p e s m args below meth c X H locs lsA ⟨hl.1, hl.2.1, fun q hq => ?_⟩ hW hS
  obtain ⟨q0, h0, rfl⟩ := List.mem_map.mp hq
  exact hl.2.2 _ (List.mem_map_of_mem (h q0 h0))
theorem sh_wid {c2 s2 : Nat} (h : cells ≤ c2 ∧ slots ≤ s2) (k : sh_V g M c2 s2 pc ls st φ sz Q) : sh_V g M cells slots pc ls st φ sz Q := by
  intro p e s m args below meth c X H locs lsA hl hW hS
  exact W.widen h.1 h.2 (k p e s m args below meth c X H locs lsA hl hW hS)
theorem sh_iconst {n : Int} {v : Int32} (d : decode (sh_cc M) pc = .ok (.iconst n, 1)) (hv : Int32.ofInt n = v) (k : sh_V g M cells slots (pc + 1) ls (sh_I v :: st) φ sz Q) : sh_V g M cells slots pc ls st φ sz Q := by
  intro p e s m args below meth c X H locs lsA hl hW hS
  obtain ⟨hx, hb, hml, hown, hts, hK, hST, hA, hret, hlocks, hnm⟩ := id X
  exact lv_iconst hx hb d hv (k p e s m args below meth c X H locs lsA hl hW hS)
theorem sh_bipush {n : Int} {v : Int32} (d : decode (sh_cc M) pc = .ok (.bipush n, 2)) (hv : (Int8.ofInt n).toInt32 = v) (k : sh_V g M cells slots (pc + 2) ls (sh_I v :: st) φ sz Q) : sh_V g M cells slots pc ls st φ sz Q := by
  intro p e s m args below meth c X H locs lsA hl hW hS
  obtain ⟨hx, hb, hml, hown, hts, hK, hST, hA, hret, hlocks, hnm⟩ := id X
  exact lv_bipush hx hb d hv (k p e s m args below meth c X H locs lsA hl hW hS)
theorem sh_sipush {n : Int} {v : Int32} (d : decode (sh_cc M) pc = .ok (.sipush n, 3)) (hv : (Int16.ofInt n).toInt32 = v) (k : sh_V g M cells slots (pc + 3) ls (sh_I v :: st) φ sz Q) : sh_V g M cells slots pc ls st φ sz Q := by
  intro p e s m args below meth c X H locs lsA hl hW hS
  obtain ⟨hx, hb, hml, hown, hts, hK, hST, hA, hret, hlocks, hnm⟩ := id X
  exact lv_sipush hx hb d hv (k p e s m args below meth c X H locs lsA hl hW hS)
theorem sh_ldc {ix : Nat} {v : Int32} (d : decode (sh_cc M) pc = .ok (.ldc ix, 2)) (hw : Cond.constant M.1.cls ix v ∈ shW) (k : sh_V g M cells slots (pc + 2) ls (sh_I v :: st) φ sz Q) : sh_V g M cells slots pc ls st φ sz Q := by
  intro p e s m args below meth c X H locs lsA hl hW hS
  obtain ⟨hx, hb, hml, hown, hts, hK, hST, hA, hret, hlocks, hnm⟩ := id X
  exact lv_ldc hx hb hown (hts _ hw) d (k p e s m args below meth c X H locs lsA hl hW hS)
theorem sh_ldcf {ix : Nat} {v : UInt32} (d : decode (sh_cc M) pc = .ok (.ldc ix, 2)) (hw : Cond.constantFloat M.1.cls ix v ∈ shW) (k : sh_V g M cells slots (pc + 2) ls (sh_F v :: st) φ sz Q) : sh_V g M cells slots pc ls st φ sz Q := by
  intro p e s m args below meth c X H locs lsA hl hW hS
  obtain ⟨hx, hb, hml, hown, hts, hK, hST, hA, hret, hlocks, hnm⟩ := id X
  exact lv_ldcf hx hb hown (hts _ hw) d (k p e s m args below meth c X H locs lsA hl hW hS)
theorem sh_ldc2d {ix : Nat} {v : UInt64} (d : decode (sh_cc M) pc = .ok (.ldc2_w ix, 3)) (hw : Cond.constantDouble M.1.cls ix v ∈ shW) (k : sh_V g M cells slots (pc + 3) ls (sh_Dv v :: st) φ sz Q) : sh_V g M cells slots pc ls st φ sz Q := by
  intro p e s m args below meth c X H locs lsA hl hW hS
  obtain ⟨hx, hb, hml, hown, hts, hK, hST, hA, hret, hlocks, hnm⟩ := id X
  exact lv_ldc2d hx hb hown (hts _ hw) d (k p e s m args below meth c X H locs lsA hl hW hS)
theorem sh_fconst0  (d : decode (sh_cc M) pc = .ok (.fconst 0, 1)) (k : sh_V g M cells slots (pc + 1) ls (sh_F FP.fconst0 :: st) φ sz Q) : sh_V g M cells slots pc ls st φ sz Q := by
  intro p e s m args below meth c X H locs lsA hl hW hS
  obtain ⟨hx, hb, hml, hown, hts, hK, hST, hA, hret, hlocks, hnm⟩ := id X
  exact lv_fconst0 hx hb d (k p e s m args below meth c X H locs lsA hl hW hS)
theorem sh_fconst1  (d : decode (sh_cc M) pc = .ok (.fconst 1, 1)) (k : sh_V g M cells slots (pc + 1) ls (sh_F FP.fconst1 :: st) φ sz Q) : sh_V g M cells slots pc ls st φ sz Q := by
  intro p e s m args below meth c X H locs lsA hl hW hS
  obtain ⟨hx, hb, hml, hown, hts, hK, hST, hA, hret, hlocks, hnm⟩ := id X
  exact lv_fconst1 hx hb d (k p e s m args below meth c X H locs lsA hl hW hS)
theorem sh_dconst0  (d : decode (sh_cc M) pc = .ok (.dconst 0, 1)) (k : sh_V g M cells slots (pc + 1) ls (sh_Dv FP.dconst0 :: st) φ sz Q) : sh_V g M cells slots pc ls st φ sz Q := by
  intro p e s m args below meth c X H locs lsA hl hW hS
  obtain ⟨hx, hb, hml, hown, hts, hK, hST, hA, hret, hlocks, hnm⟩ := id X
  exact lv_dconst0 hx hb d (k p e s m args below meth c X H locs lsA hl hW hS)
theorem sh_iload_n {k4 : Fin 4} {x : Int32} (d : decode (sh_cc M) pc = .ok (.iload_n k4, 1)) (h : sh_lk ls k4 = some (sh_I x)) (k : sh_V g M cells slots (pc + 1) ls (sh_I x :: st) φ sz Q) : sh_V g M cells slots pc ls st φ sz Q := by
  intro p e s m args below meth c X H locs lsA hl hW hS
  obtain ⟨hx, hb, hml, hown, hts, hK, hST, hA, hret, hlocks, hnm⟩ := id X
  exact lv_iload_n hx hb d rfl (sh_at hl h) (k p e s m args below meth c X H locs lsA hl hW hS)
theorem sh_iload {i : Nat} {x : Int32} (d : decode (sh_cc M) pc = .ok (.iload i, 2)) (h : sh_lk ls i = some (sh_I x)) (k : sh_V g M cells slots (pc + 2) ls (sh_I x :: st) φ sz Q) : sh_V g M cells slots pc ls st φ sz Q := by
  intro p e s m args below meth c X H locs lsA hl hW hS
  obtain ⟨hx, hb, hml, hown, hts, hK, hST, hA, hret, hlocks, hnm⟩ := id X
  exact lv_iload hx hb d (sh_at hl h) (k p e s m args below meth c X H locs lsA hl hW hS)
theorem sh_istore_n {k4 : Fin 4} {x : Int32} (d : decode (sh_cc M) pc = .ok (.istore_n k4, 1)) (hn : (k4 : Nat) < sh_nL M) (h : sh_sto k4 (sh_I x) ls = ls') (k : sh_V g M cells slots (pc + 1) ls' st φ sz Q) : sh_V g M cells slots pc ls (sh_I x :: st) φ sz Q := by
  intro p e s m args below meth c X H locs lsA hl hW hS
  obtain ⟨hx, hb, hml, hown, hts, hK, hST, hA, hret, hlocks, hnm⟩ := id X
  exact lv_istore_n hx hb d rfl hl hn (sh_stoE h) (fun lsB hl2 => k p e s m args below meth c X H locs lsB hl2 hW hS)
theorem sh_istore {i : Nat} {x : Int32} (d : decode (sh_cc M) pc = .ok (.istore i, 2)) (hn : i < sh_nL M) (h : sh_sto i (sh_I x) ls = ls') (k : sh_V g M cells slots (pc + 2) ls' st φ sz Q) : sh_V g M cells slots pc ls (sh_I x :: st) φ sz Q := by
  intro p e s m args below meth c X H locs lsA hl hW hS
  obtain ⟨hx, hb, hml, hown, hts, hK, hST, hA, hret, hlocks, hnm⟩ := id X
  exact lv_istore hx hb d hl hn (sh_stoE h) (fun lsB hl2 => k p e s m args below meth c X H locs lsB hl2 hW hS)
theorem sh_aload_n {k4 : Fin 4} {x : sh_O} (d : decode (sh_cc M) pc = .ok (.aload_n k4, 1)) (h : sh_lk ls k4 = some (sh_R x)) (k : sh_V g M cells slots (pc + 1) ls (sh_R x :: st) φ sz Q) : sh_V g M cells slots pc ls st φ sz Q := by
  intro p e s m args below meth c X H locs lsA hl hW hS
  obtain ⟨hx, hb, hml, hown, hts, hK, hST, hA, hret, hlocks, hnm⟩ := id X
  exact lv_aload_n hx hb d rfl (sh_at hl h) (k p e s m args below meth c X H locs lsA hl hW hS)
theorem sh_aload {i : Nat} {x : sh_O} (d : decode (sh_cc M) pc = .ok (.aload i, 2)) (h : sh_lk ls i = some (sh_R x)) (k : sh_V g M cells slots (pc + 2) ls (sh_R x :: st) φ sz Q) : sh_V g M cells slots pc ls st φ sz Q := by
  intro p e s m args below meth c X H locs lsA hl hW hS
  obtain ⟨hx, hb, hml, hown, hts, hK, hST, hA, hret, hlocks, hnm⟩ := id X
  exact lv_aload hx hb d (sh_at hl h) (k p e s m args below meth c X H locs lsA hl hW hS)
theorem sh_astore_n {k4 : Fin 4} {x : sh_O} (d : decode (sh_cc M) pc = .ok (.astore_n k4, 1)) (hn : (k4 : Nat) < sh_nL M) (h : sh_sto k4 (sh_R x) ls = ls') (k : sh_V g M cells slots (pc + 1) ls' st φ sz Q) : sh_V g M cells slots pc ls (sh_R x :: st) φ sz Q := by
  intro p e s m args below meth c X H locs lsA hl hW hS
  obtain ⟨hx, hb, hml, hown, hts, hK, hST, hA, hret, hlocks, hnm⟩ := id X
  exact lv_astore_n hx hb d rfl hl hn (sh_stoE h) (fun lsB hl2 => k p e s m args below meth c X H locs lsB hl2 hW hS)
theorem sh_astore {i : Nat} {x : sh_O} (d : decode (sh_cc M) pc = .ok (.astore i, 2)) (hn : i < sh_nL M) (h : sh_sto i (sh_R x) ls = ls') (k : sh_V g M cells slots (pc + 2) ls' st φ sz Q) : sh_V g M cells slots pc ls (sh_R x :: st) φ sz Q := by
  intro p e s m args below meth c X H locs lsA hl hW hS
  obtain ⟨hx, hb, hml, hown, hts, hK, hST, hA, hret, hlocks, hnm⟩ := id X
  exact lv_astore hx hb d hl hn (sh_stoE h) (fun lsB hl2 => k p e s m args below meth c X H locs lsB hl2 hW hS)
theorem sh_fload_n {k4 : Fin 4} {x : UInt32} (d : decode (sh_cc M) pc = .ok (.fload_n k4, 1)) (h : sh_lk ls k4 = some (sh_F x)) (k : sh_V g M cells slots (pc + 1) ls (sh_F x :: st) φ sz Q) : sh_V g M cells slots pc ls st φ sz Q := by
  intro p e s m args below meth c X H locs lsA hl hW hS
  obtain ⟨hx, hb, hml, hown, hts, hK, hST, hA, hret, hlocks, hnm⟩ := id X
  exact lv_fload_n hx hb d rfl (sh_at hl h) (k p e s m args below meth c X H locs lsA hl hW hS)
theorem sh_fload {i : Nat} {x : UInt32} (d : decode (sh_cc M) pc = .ok (.fload i, 2)) (h : sh_lk ls i = some (sh_F x)) (k : sh_V g M cells slots (pc + 2) ls (sh_F x :: st) φ sz Q) : sh_V g M cells slots pc ls st φ sz Q := by
  intro p e s m args below meth c X H locs lsA hl hW hS
  obtain ⟨hx, hb, hml, hown, hts, hK, hST, hA, hret, hlocks, hnm⟩ := id X
  exact lv_fload hx hb d (sh_at hl h) (k p e s m args below meth c X H locs lsA hl hW hS)
theorem sh_fstore_n {k4 : Fin 4} {x : UInt32} (d : decode (sh_cc M) pc = .ok (.fstore_n k4, 1)) (hn : (k4 : Nat) < sh_nL M) (h : sh_sto k4 (sh_F x) ls = ls') (k : sh_V g M cells slots (pc + 1) ls' st φ sz Q) : sh_V g M cells slots pc ls (sh_F x :: st) φ sz Q := by
  intro p e s m args below meth c X H locs lsA hl hW hS
  obtain ⟨hx, hb, hml, hown, hts, hK, hST, hA, hret, hlocks, hnm⟩ := id X
  exact lv_fstore_n hx hb d rfl hl hn (sh_stoE h) (fun lsB hl2 => k p e s m args below meth c X H locs lsB hl2 hW hS)
theorem sh_fstore {i : Nat} {x : UInt32} (d : decode (sh_cc M) pc = .ok (.fstore i, 2)) (hn : i < sh_nL M) (h : sh_sto i (sh_F x) ls = ls') (k : sh_V g M cells slots (pc + 2) ls' st φ sz Q) : sh_V g M cells slots pc ls (sh_F x :: st) φ sz Q := by
  intro p e s m args below meth c X H locs lsA hl hW hS
  obtain ⟨hx, hb, hml, hown, hts, hK, hST, hA, hret, hlocks, hnm⟩ := id X
  exact lv_fstore hx hb d hl hn (sh_stoE h) (fun lsB hl2 => k p e s m args below meth c X H locs lsB hl2 hW hS)
theorem sh_dload_n {k4 : Fin 4} {x : UInt64} (d : decode (sh_cc M) pc = .ok (.dload_n k4, 1)) (h : sh_lk ls k4 = some (sh_Dv x)) (k : sh_V g M cells slots (pc + 1) ls (sh_Dv x :: st) φ sz Q) : sh_V g M cells slots pc ls st φ sz Q := by
  intro p e s m args below meth c X H locs lsA hl hW hS
  obtain ⟨hx, hb, hml, hown, hts, hK, hST, hA, hret, hlocks, hnm⟩ := id X
  exact lv_dload_n hx hb d rfl (sh_at hl h) (k p e s m args below meth c X H locs lsA hl hW hS)
theorem sh_dload {i : Nat} {x : UInt64} (d : decode (sh_cc M) pc = .ok (.dload i, 2)) (h : sh_lk ls i = some (sh_Dv x)) (k : sh_V g M cells slots (pc + 2) ls (sh_Dv x :: st) φ sz Q) : sh_V g M cells slots pc ls st φ sz Q := by
  intro p e s m args below meth c X H locs lsA hl hW hS
  obtain ⟨hx, hb, hml, hown, hts, hK, hST, hA, hret, hlocks, hnm⟩ := id X
  exact lv_dload hx hb d (sh_at hl h) (k p e s m args below meth c X H locs lsA hl hW hS)
theorem sh_dstore_n {k4 : Fin 4} {x : UInt64} (d : decode (sh_cc M) pc = .ok (.dstore_n k4, 1)) (hn : (k4 : Nat) + 1 < sh_nL M) (h : sh_sto2 k4 (sh_Dv x) ls = ls') (k : sh_V g M cells slots (pc + 1) ls' st φ sz Q) : sh_V g M cells slots pc ls (sh_Dv x :: st) φ sz Q := by
  intro p e s m args below meth c X H locs lsA hl hW hS
  obtain ⟨hx, hb, hml, hown, hts, hK, hST, hA, hret, hlocks, hnm⟩ := id X
  exact lv_dstore_n hx hb d rfl hl hn (sh_sto2E h) (fun lsB hl2 => k p e s m args below meth c X H locs lsB hl2 hW hS)
theorem sh_iinc {i : Nat} {n : Int} {x v : Int32} (d : decode (sh_cc M) pc = .ok (.iinc i n, 3)) (h : sh_lk ls i = some (sh_I x)) (hv : x + Int32.ofInt n = v) (hn : i < sh_nL M) (hs : sh_sto i (sh_I v) ls = ls') (k : sh_V g M cells slots (pc + 3) ls' st φ sz Q) : sh_V g M cells slots pc ls st φ sz Q := by
  intro p e s m args below meth c X H locs lsA hl hW hS
  obtain ⟨hx, hb, hml, hown, hts, hK, hST, hA, hret, hlocks, hnm⟩ := id X
  obtain ⟨j, hj⟩ := List.getElem?_of_mem (List.mem_map_of_mem (f := sh_tq g) (sh_lk_mem h))
  exact lv_iinc hx hb d hl hj hv hn (sh_stoE hs) (fun lsB hl2 => k p e s m args below meth c X H locs lsB hl2 hW hS)
theorem sh_dup {v : sh_v} (d : decode (sh_cc M) pc = .ok (.dup, 1)) (h : sh_c2 v = false) (k : sh_V g M cells slots (pc + 1) ls (v :: v :: st) φ sz Q) : sh_V g M cells slots pc ls (v :: st) φ sz Q := by
  intro p e s m args below meth c X H locs lsA hl hW hS
  obtain ⟨hx, hb, hml, hown, hts, hK, hST, hA, hret, hlocks, hnm⟩ := id X
  refine lv_dup hx hb d ?_ (k p e s m args below meth c X H locs lsA hl hW hS)
  rcases v with _ | x | o | x | x <;> first | rfl | (simp [sh_c2] at h)
theorem sh_iadd {x y : Int32} (d : decode (sh_cc M) pc = .ok (.iadd, 1)) (k : sh_V g M cells slots (pc + 1) ls (sh_I (x + y) :: st) φ sz Q) : sh_V g M cells slots pc ls (sh_I y :: sh_I x :: st) φ sz Q := by
  intro p e s m args below meth c X H locs lsA hl hW hS
  obtain ⟨hx, hb, hml, hown, hts, hK, hST, hA, hret, hlocks, hnm⟩ := id X
  exact lv_iadd hx hb d (k p e s m args below meth c X H locs lsA hl hW hS)
theorem sh_isub {x y : Int32} (d : decode (sh_cc M) pc = .ok (.isub, 1)) (k : sh_V g M cells slots (pc + 1) ls (sh_I (x - y) :: st) φ sz Q) : sh_V g M cells slots pc ls (sh_I y :: sh_I x :: st) φ sz Q := by
  intro p e s m args below meth c X H locs lsA hl hW hS
  obtain ⟨hx, hb, hml, hown, hts, hK, hST, hA, hret, hlocks, hnm⟩ := id X
  exact lv_isub hx hb d (k p e s m args below meth c X H locs lsA hl hW hS)
theorem sh_imul {x y : Int32} (d : decode (sh_cc M) pc = .ok (.imul, 1)) (k : sh_V g M cells slots (pc + 1) ls (sh_I (x * y) :: st) φ sz Q) : sh_V g M cells slots pc ls (sh_I y :: sh_I x :: st) φ sz Q := by
  intro p e s m args below meth c X H locs lsA hl hW hS
  obtain ⟨hx, hb, hml, hown, hts, hK, hST, hA, hret, hlocks, hnm⟩ := id X
  exact lv_imul hx hb d (k p e s m args below meth c X H locs lsA hl hW hS)
theorem sh_iand {x y : Int32} (d : decode (sh_cc M) pc = .ok (.iand, 1)) (k : sh_V g M cells slots (pc + 1) ls (sh_I (x &&& y) :: st) φ sz Q) : sh_V g M cells slots pc ls (sh_I y :: sh_I x :: st) φ sz Q := by
  intro p e s m args below meth c X H locs lsA hl hW hS
  obtain ⟨hx, hb, hml, hown, hts, hK, hST, hA, hret, hlocks, hnm⟩ := id X
  exact lv_iand hx hb d (k p e s m args below meth c X H locs lsA hl hW hS)
theorem sh_ior {x y : Int32} (d : decode (sh_cc M) pc = .ok (.ior, 1)) (k : sh_V g M cells slots (pc + 1) ls (sh_I (x ||| y) :: st) φ sz Q) : sh_V g M cells slots pc ls (sh_I y :: sh_I x :: st) φ sz Q := by
  intro p e s m args below meth c X H locs lsA hl hW hS
  obtain ⟨hx, hb, hml, hown, hts, hK, hST, hA, hret, hlocks, hnm⟩ := id X
  exact lv_ior hx hb d (k p e s m args below meth c X H locs lsA hl hW hS)
theorem sh_ishl {x y : Int32} (d : decode (sh_cc M) pc = .ok (.ishl, 1)) (k : sh_V g M cells slots (pc + 1) ls (sh_I (x <<< (y &&& 31)) :: st) φ sz Q) : sh_V g M cells slots pc ls (sh_I y :: sh_I x :: st) φ sz Q := by
  intro p e s m args below meth c X H locs lsA hl hW hS
  obtain ⟨hx, hb, hml, hown, hts, hK, hST, hA, hret, hlocks, hnm⟩ := id X
  exact lv_ishl hx hb d (k p e s m args below meth c X H locs lsA hl hW hS)
theorem sh_ishr {x y : Int32} (d : decode (sh_cc M) pc = .ok (.ishr, 1)) (k : sh_V g M cells slots (pc + 1) ls (sh_I (x >>> (y &&& 31)) :: st) φ sz Q) : sh_V g M cells slots pc ls (sh_I y :: sh_I x :: st) φ sz Q := by
  intro p e s m args below meth c X H locs lsA hl hW hS
  obtain ⟨hx, hb, hml, hown, hts, hK, hST, hA, hret, hlocks, hnm⟩ := id X
  exact lv_ishr hx hb d (k p e s m args below meth c X H locs lsA hl hW hS)
theorem sh_idiv {x y : Int32} (d : decode (sh_cc M) pc = .ok (.idiv, 1)) (hn : ¬ y = 0) (k : sh_V g M cells slots (pc + 1) ls (sh_I (x / y) :: st) φ sz Q) : sh_V g M cells slots pc ls (sh_I y :: sh_I x :: st) φ sz Q := by
  intro p e s m args below meth c X H locs lsA hl hW hS
  obtain ⟨hx, hb, hml, hown, hts, hK, hST, hA, hret, hlocks, hnm⟩ := id X
  exact lv_idiv hx hb d hn (k p e s m args below meth c X H locs lsA hl hW hS)
theorem sh_irem {x y : Int32} (d : decode (sh_cc M) pc = .ok (.irem, 1)) (hn : ¬ y = 0) (k : sh_V g M cells slots (pc + 1) ls (sh_I (x - (x / y) * y) :: st) φ sz Q) : sh_V g M cells slots pc ls (sh_I y :: sh_I x :: st) φ sz Q := by
  intro p e s m args below meth c X H locs lsA hl hW hS
  obtain ⟨hx, hb, hml, hown, hts, hK, hST, hA, hret, hlocks, hnm⟩ := id X
  exact lv_irem hx hb d hn (k p e s m args below meth c X H locs lsA hl hW hS)
theorem sh_ineg {x : Int32} (d : decode (sh_cc M) pc = .ok (.ineg, 1)) (k : sh_V g M cells slots (pc + 1) ls (sh_I (-x) :: st) φ sz Q) : sh_V g M cells slots pc ls (sh_I x :: st) φ sz Q := by
  intro p e s m args below meth c X H locs lsA hl hW hS
  obtain ⟨hx, hb, hml, hown, hts, hK, hST, hA, hret, hlocks, hnm⟩ := id X
  exact lv_ineg hx hb d (k p e s m args below meth c X H locs lsA hl hW hS)
theorem sh_i2c {x : Int32} (d : decode (sh_cc M) pc = .ok (.i2c, 1)) (k : sh_V g M cells slots (pc + 1) ls (sh_I ((x.toUInt32 % 65536).toInt32) :: st) φ sz Q) : sh_V g M cells slots pc ls (sh_I x :: st) φ sz Q := by
  intro p e s m args below meth c X H locs lsA hl hW hS
  obtain ⟨hx, hb, hml, hown, hts, hK, hST, hA, hret, hlocks, hnm⟩ := id X
  exact lv_i2c hx hb d rfl (k p e s m args below meth c X H locs lsA hl hW hS)
theorem sh_fadd {x y : UInt32} (d : decode (sh_cc M) pc = .ok (.fadd, 1)) (hn : vf_n32 (FP.fadd x y)) (k : sh_V g M cells slots (pc + 1) ls (sh_F (FP.fadd x y) :: st) φ sz Q) : sh_V g M cells slots pc ls (sh_F y :: sh_F x :: st) φ sz Q := by
  intro p e s m args below meth c X H locs lsA hl hW hS
  obtain ⟨hx, hb, hml, hown, hts, hK, hST, hA, hret, hlocks, hnm⟩ := id X
  exact lv_fadd hx hb d hn (k p e s m args below meth c X H locs lsA hl hW hS)
theorem sh_fsub {x y : UInt32} (d : decode (sh_cc M) pc = .ok (.fsub, 1)) (hn : vf_n32 (FP.fsub x y)) (k : sh_V g M cells slots (pc + 1) ls (sh_F (FP.fsub x y) :: st) φ sz Q) : sh_V g M cells slots pc ls (sh_F y :: sh_F x :: st) φ sz Q := by
  intro p e s m args below meth c X H locs lsA hl hW hS
  obtain ⟨hx, hb, hml, hown, hts, hK, hST, hA, hret, hlocks, hnm⟩ := id X
  exact lv_fsub hx hb d hn (k p e s m args below meth c X H locs lsA hl hW hS)
theorem sh_fmul {x y : UInt32} (d : decode (sh_cc M) pc = .ok (.fmul, 1)) (hn : vf_n32 (FP.fmul x y)) (k : sh_V g M cells slots (pc + 1) ls (sh_F (FP.fmul x y) :: st) φ sz Q) : sh_V g M cells slots pc ls (sh_F y :: sh_F x :: st) φ sz Q := by
  intro p e s m args below meth c X H locs lsA hl hW hS
  obtain ⟨hx, hb, hml, hown, hts, hK, hST, hA, hret, hlocks, hnm⟩ := id X
  exact lv_fmul hx hb d hn (k p e s m args below meth c X H locs lsA hl hW hS)
theorem sh_fdiv {x y : UInt32} (d : decode (sh_cc M) pc = .ok (.fdiv, 1)) (hn : vf_n32 (FP.fdiv x y)) (k : sh_V g M cells slots (pc + 1) ls (sh_F (FP.fdiv x y) :: st) φ sz Q) : sh_V g M cells slots pc ls (sh_F y :: sh_F x :: st) φ sz Q := by
  intro p e s m args below meth c X H locs lsA hl hW hS
  obtain ⟨hx, hb, hml, hown, hts, hK, hST, hA, hret, hlocks, hnm⟩ := id X
  exact lv_fdiv hx hb d hn (k p e s m args below meth c X H locs lsA hl hW hS)
theorem sh_dadd {x y : UInt64} (d : decode (sh_cc M) pc = .ok (.dadd, 1)) (hn : vf_n64 (FP.dadd x y)) (k : sh_V g M cells slots (pc + 1) ls (sh_Dv (FP.dadd x y) :: st) φ sz Q) : sh_V g M cells slots pc ls (sh_Dv y :: sh_Dv x :: st) φ sz Q := by
  intro p e s m args below meth c X H locs lsA hl hW hS
  obtain ⟨hx, hb, hml, hown, hts, hK, hST, hA, hret, hlocks, hnm⟩ := id X
  exact lv_dadd hx hb d hn (k p e s m args below meth c X H locs lsA hl hW hS)
theorem sh_ddiv {x y : UInt64} (d : decode (sh_cc M) pc = .ok (.ddiv, 1)) (hn : vf_n64 (FP.ddiv x y)) (k : sh_V g M cells slots (pc + 1) ls (sh_Dv (FP.ddiv x y) :: st) φ sz Q) : sh_V g M cells slots pc ls (sh_Dv y :: sh_Dv x :: st) φ sz Q := by
  intro p e s m args below meth c X H locs lsA hl hW hS
  obtain ⟨hx, hb, hml, hown, hts, hK, hST, hA, hret, hlocks, hnm⟩ := id X
  exact lv_ddiv hx hb d hn (k p e s m args below meth c X H locs lsA hl hW hS)
theorem sh_dmul {x y : UInt64} (d : decode (sh_cc M) pc = .ok (.dmul, 1)) (hn : vf_n64 (FP.dmul x y)) (k : sh_V g M cells slots (pc + 1) ls (sh_Dv (FP.dmul x y) :: st) φ sz Q) : sh_V g M cells slots pc ls (sh_Dv y :: sh_Dv x :: st) φ sz Q := by
  intro p e s m args below meth c X H locs lsA hl hW hS
  obtain ⟨hx, hb, hml, hown, hts, hK, hST, hA, hret, hlocks, hnm⟩ := id X
  exact lv_dmul hx hb d hn (k p e s m args below meth c X H locs lsA hl hW hS)
theorem sh_fcmp {op : CmpOp} {x y : UInt32} (d : decode (sh_cc M) pc = .ok (.fcmp op, 1)) (k : sh_V g M cells slots (pc + 1) ls (sh_I (Op.cmpValue (FP.fcmp x y) op) :: st) φ sz Q) : sh_V g M cells slots pc ls (sh_F y :: sh_F x :: st) φ sz Q := by
  intro p e s m args below meth c X H locs lsA hl hW hS
  obtain ⟨hx, hb, hml, hown, hts, hK, hST, hA, hret, hlocks, hnm⟩ := id X
  exact lv_fcmp hx hb d (k p e s m args below meth c X H locs lsA hl hW hS)
theorem sh_i2f {x : Int32} (d : decode (sh_cc M) pc = .ok (.i2f, 1)) (k : sh_V g M cells slots (pc + 1) ls (sh_F (FP.i2f x) :: st) φ sz Q) : sh_V g M cells slots pc ls (sh_I x :: st) φ sz Q := by
  intro p e s m args below meth c X H locs lsA hl hW hS
  obtain ⟨hx, hb, hml, hown, hts, hK, hST, hA, hret, hlocks, hnm⟩ := id X
  exact lv_i2f hx hb d (k p e s m args below meth c X H locs lsA hl hW hS)
theorem sh_f2i {x : UInt32} (d : decode (sh_cc M) pc = .ok (.f2i, 1)) (k : sh_V g M cells slots (pc + 1) ls (sh_I (FP.f2i x) :: st) φ sz Q) : sh_V g M cells slots pc ls (sh_F x :: st) φ sz Q := by
  intro p e s m args below meth c X H locs lsA hl hW hS
  obtain ⟨hx, hb, hml, hown, hts, hK, hST, hA, hret, hlocks, hnm⟩ := id X
  exact lv_f2i hx hb d (k p e s m args below meth c X H locs lsA hl hW hS)
theorem sh_i2d {x : Int32} (d : decode (sh_cc M) pc = .ok (.i2d, 1)) (k : sh_V g M cells slots (pc + 1) ls (sh_Dv (FP.i2d x) :: st) φ sz Q) : sh_V g M cells slots pc ls (sh_I x :: st) φ sz Q := by
  intro p e s m args below meth c X H locs lsA hl hW hS
  obtain ⟨hx, hb, hml, hown, hts, hK, hST, hA, hret, hlocks, hnm⟩ := id X
  exact lv_i2d hx hb d (k p e s m args below meth c X H locs lsA hl hW hS)
theorem sh_d2i {x : UInt64} (d : decode (sh_cc M) pc = .ok (.d2i, 1)) (k : sh_V g M cells slots (pc + 1) ls (sh_I (FP.d2i x) :: st) φ sz Q) : sh_V g M cells slots pc ls (sh_Dv x :: st) φ sz Q := by
  intro p e s m args below meth c X H locs lsA hl hW hS
  obtain ⟨hx, hb, hml, hown, hts, hK, hST, hA, hret, hlocks, hnm⟩ := id X
  exact lv_d2i hx hb d (k p e s m args below meth c X H locs lsA hl hW hS)
theorem sh_f2d {x : UInt32} (d : decode (sh_cc M) pc = .ok (.f2d, 1)) (hn : vf_n64 (FP.f2d x)) (k : sh_V g M cells slots (pc + 1) ls (sh_Dv (FP.f2d x) :: st) φ sz Q) : sh_V g M cells slots pc ls (sh_F x :: st) φ sz Q := by
  intro p e s m args below meth c X H locs lsA hl hW hS
  obtain ⟨hx, hb, hml, hown, hts, hK, hST, hA, hret, hlocks, hnm⟩ := id X
  exact lv_f2d hx hb d hn (k p e s m args below meth c X H locs lsA hl hW hS)
theorem sh_if_eq {x : Int32} {off : Int} {tgt : Nat} (d : decode (sh_cc M) pc = .ok (.ifCond .eq off, 3)) (ht : (pc : Int) + off = (tgt : Int)) (kt : x = 0 → sh_V g M cells slots tgt ls st φ sz Q) (kf : ¬ x = 0 → sh_V g M cells slots (pc + 3) ls st φ sz Q) : sh_V g M cells slots pc ls (sh_I x :: st) φ sz Q := by
  intro p e s m args below meth c X H locs lsA hl hW hS
  obtain ⟨hx, hb, hml, hown, hts, hK, hST, hA, hret, hlocks, hnm⟩ := id X
  exact lv_if_eq hx hb d ht (fun z => kt z p e s m args below meth c X H locs lsA hl hW hS) (fun z => kf z p e s m args below meth c X H locs lsA hl hW hS)
theorem sh_icmp_eq {x y : Int32} {off : Int} {tgt : Nat} (d : decode (sh_cc M) pc = .ok (.if_icmp .eq off, 3)) (ht : (pc : Int) + off = (tgt : Int)) (kt : x = y → sh_V g M cells slots tgt ls st φ sz Q) (kf : ¬ x = y → sh_V g M cells slots (pc + 3) ls st φ sz Q) : sh_V g M cells slots pc ls (sh_I y :: sh_I x :: st) φ sz Q := by
  intro p e s m args below meth c X H locs lsA hl hW hS
  obtain ⟨hx, hb, hml, hown, hts, hK, hST, hA, hret, hlocks, hnm⟩ := id X
  exact lv_icmp_eq hx hb d ht (fun z => kt z p e s m args below meth c X H locs lsA hl hW hS) (fun z => kf z p e s m args below meth c X H locs lsA hl hW hS)
theorem sh_if_ne {x : Int32} {off : Int} {tgt : Nat} (d : decode (sh_cc M) pc = .ok (.ifCond .ne off, 3)) (ht : (pc : Int) + off = (tgt : Int)) (kt : ¬ x = 0 → sh_V g M cells slots tgt ls st φ sz Q) (kf : x = 0 → sh_V g M cells slots (pc + 3) ls st φ sz Q) : sh_V g M cells slots pc ls (sh_I x :: st) φ sz Q := by
  intro p e s m args below meth c X H locs lsA hl hW hS
  obtain ⟨hx, hb, hml, hown, hts, hK, hST, hA, hret, hlocks, hnm⟩ := id X
  exact lv_if_ne hx hb d ht (fun z => kt z p e s m args below meth c X H locs lsA hl hW hS) (fun z => kf z p e s m args below meth c X H locs lsA hl hW hS)
theorem sh_icmp_ne {x y : Int32} {off : Int} {tgt : Nat} (d : decode (sh_cc M) pc = .ok (.if_icmp .ne off, 3)) (ht : (pc : Int) + off = (tgt : Int)) (kt : ¬ x = y → sh_V g M cells slots tgt ls st φ sz Q) (kf : x = y → sh_V g M cells slots (pc + 3) ls st φ sz Q) : sh_V g M cells slots pc ls (sh_I y :: sh_I x :: st) φ sz Q := by
  intro p e s m args below meth c X H locs lsA hl hW hS
  obtain ⟨hx, hb, hml, hown, hts, hK, hST, hA, hret, hlocks, hnm⟩ := id X
  exact lv_icmp_ne hx hb d ht (fun z => kt z p e s m args below meth c X H locs lsA hl hW hS) (fun z => kf z p e s m args below meth c X H locs lsA hl hW hS)
theorem sh_if_lt {x : Int32} {off : Int} {tgt : Nat} (d : decode (sh_cc M) pc = .ok (.ifCond .lt off, 3)) (ht : (pc : Int) + off = (tgt : Int)) (kt : x < 0 → sh_V g M cells slots tgt ls st φ sz Q) (kf : ¬ x < 0 → sh_V g M cells slots (pc + 3) ls st φ sz Q) : sh_V g M cells slots pc ls (sh_I x :: st) φ sz Q := by
  intro p e s m args below meth c X H locs lsA hl hW hS
  obtain ⟨hx, hb, hml, hown, hts, hK, hST, hA, hret, hlocks, hnm⟩ := id X
  exact lv_if_lt hx hb d ht (fun z => kt z p e s m args below meth c X H locs lsA hl hW hS) (fun z => kf z p e s m args below meth c X H locs lsA hl hW hS)
theorem sh_icmp_lt {x y : Int32} {off : Int} {tgt : Nat} (d : decode (sh_cc M) pc = .ok (.if_icmp .lt off, 3)) (ht : (pc : Int) + off = (tgt : Int)) (kt : x < y → sh_V g M cells slots tgt ls st φ sz Q) (kf : ¬ x < y → sh_V g M cells slots (pc + 3) ls st φ sz Q) : sh_V g M cells slots pc ls (sh_I y :: sh_I x :: st) φ sz Q := by
  intro p e s m args below meth c X H locs lsA hl hW hS
  obtain ⟨hx, hb, hml, hown, hts, hK, hST, hA, hret, hlocks, hnm⟩ := id X
  exact lv_icmp_lt hx hb d ht (fun z => kt z p e s m args below meth c X H locs lsA hl hW hS) (fun z => kf z p e s m args below meth c X H locs lsA hl hW hS)
theorem sh_if_ge {x : Int32} {off : Int} {tgt : Nat} (d : decode (sh_cc M) pc = .ok (.ifCond .ge off, 3)) (ht : (pc : Int) + off = (tgt : Int)) (kt : 0 ≤ x → sh_V g M cells slots tgt ls st φ sz Q) (kf : ¬ 0 ≤ x → sh_V g M cells slots (pc + 3) ls st φ sz Q) : sh_V g M cells slots pc ls (sh_I x :: st) φ sz Q := by
  intro p e s m args below meth c X H locs lsA hl hW hS
  obtain ⟨hx, hb, hml, hown, hts, hK, hST, hA, hret, hlocks, hnm⟩ := id X
  exact lv_if_ge hx hb d ht (fun z => kt z p e s m args below meth c X H locs lsA hl hW hS) (fun z => kf z p e s m args below meth c X H locs lsA hl hW hS)
theorem sh_icmp_ge {x y : Int32} {off : Int} {tgt : Nat} (d : decode (sh_cc M) pc = .ok (.if_icmp .ge off, 3)) (ht : (pc : Int) + off = (tgt : Int)) (kt : y ≤ x → sh_V g M cells slots tgt ls st φ sz Q) (kf : ¬ y ≤ x → sh_V g M cells slots (pc + 3) ls st φ sz Q) : sh_V g M cells slots pc ls (sh_I y :: sh_I x :: st) φ sz Q := by
  intro p e s m args below meth c X H locs lsA hl hW hS
  obtain ⟨hx, hb, hml, hown, hts, hK, hST, hA, hret, hlocks, hnm⟩ := id X
  exact lv_icmp_ge hx hb d ht (fun z => kt z p e s m args below meth c X H locs lsA hl hW hS) (fun z => kf z p e s m args below meth c X H locs lsA hl hW hS)
theorem sh_if_gt {x : Int32} {off : Int} {tgt : Nat} (d : decode (sh_cc M) pc = .ok (.ifCond .gt off, 3)) (ht : (pc : Int) + off = (tgt : Int)) (kt : 0 < x → sh_V g M cells slots tgt ls st φ sz Q) (kf : ¬ 0 < x → sh_V g M cells slots (pc + 3) ls st φ sz Q) : sh_V g M cells slots pc ls (sh_I x :: st) φ sz Q := by
  intro p e s m args below meth c X H locs lsA hl hW hS
  obtain ⟨hx, hb, hml, hown, hts, hK, hST, hA, hret, hlocks, hnm⟩ := id X
  exact lv_if_gt hx hb d ht (fun z => kt z p e s m args below meth c X H locs lsA hl hW hS) (fun z => kf z p e s m args below meth c X H locs lsA hl hW hS)
theorem sh_icmp_gt {x y : Int32} {off : Int} {tgt : Nat} (d : decode (sh_cc M) pc = .ok (.if_icmp .gt off, 3)) (ht : (pc : Int) + off = (tgt : Int)) (kt : y < x → sh_V g M cells slots tgt ls st φ sz Q) (kf : ¬ y < x → sh_V g M cells slots (pc + 3) ls st φ sz Q) : sh_V g M cells slots pc ls (sh_I y :: sh_I x :: st) φ sz Q := by
  intro p e s m args below meth c X H locs lsA hl hW hS
  obtain ⟨hx, hb, hml, hown, hts, hK, hST, hA, hret, hlocks, hnm⟩ := id X
  exact lv_icmp_gt hx hb d ht (fun z => kt z p e s m args below meth c X H locs lsA hl hW hS) (fun z => kf z p e s m args below meth c X H locs lsA hl hW hS)
theorem sh_if_le {x : Int32} {off : Int} {tgt : Nat} (d : decode (sh_cc M) pc = .ok (.ifCond .le off, 3)) (ht : (pc : Int) + off = (tgt : Int)) (kt : x ≤ 0 → sh_V g M cells slots tgt ls st φ sz Q) (kf : ¬ x ≤ 0 → sh_V g M cells slots (pc + 3) ls st φ sz Q) : sh_V g M cells slots pc ls (sh_I x :: st) φ sz Q := by
  intro p e s m args below meth c X H locs lsA hl hW hS
  obtain ⟨hx, hb, hml, hown, hts, hK, hST, hA, hret, hlocks, hnm⟩ := id X
  exact lv_if_le hx hb d ht (fun z => kt z p e s m args below meth c X H locs lsA hl hW hS) (fun z => kf z p e s m args below meth c X H locs lsA hl hW hS)
theorem sh_icmp_le {x y : Int32} {off : Int} {tgt : Nat} (d : decode (sh_cc M) pc = .ok (.if_icmp .le off, 3)) (ht : (pc : Int) + off = (tgt : Int)) (kt : x ≤ y → sh_V g M cells slots tgt ls st φ sz Q) (kf : ¬ x ≤ y → sh_V g M cells slots (pc + 3) ls st φ sz Q) : sh_V g M cells slots pc ls (sh_I y :: sh_I x :: st) φ sz Q := by
  intro p e s m args below meth c X H locs lsA hl hW hS
  obtain ⟨hx, hb, hml, hown, hts, hK, hST, hA, hret, hlocks, hnm⟩ := id X
  exact lv_icmp_le hx hb d ht (fun z => kt z p e s m args below meth c X H locs lsA hl hW hS) (fun z => kf z p e s m args below meth c X H locs lsA hl hW hS)
theorem sh_goto {off : Int} {tgt : Nat} (d : decode (sh_cc M) pc = .ok (.goto off, 3)) (ht : (pc : Int) + off = (tgt : Int)) (k : sh_V g M cells slots tgt ls st φ sz Q) : sh_V g M cells slots pc ls st φ sz Q := by
  intro p e s m args below meth c X H locs lsA hl hW hS
  obtain ⟨hx, hb, hml, hown, hts, hK, hST, hA, hret, hlocks, hnm⟩ := id X
  exact lv_goto hx hb d ht (k p e s m args below meth c X H locs lsA hl hW hS)
theorem sh_tin {dflt lo hi : Int} {offs : Array Int} {len : Nat} {x : Int32} {off : Int} {tgt : Nat} (v : Int32) (d : decode (sh_cc M) pc = .ok (.tableswitch dflt lo hi offs, len)) (hv : x = v) (h1 : ¬ v.toInt < lo) (h2 : ¬ hi < v.toInt) (ho : offs[(v.toInt - lo).toNat]? = some off) (ht : (pc : Int) + off = (tgt : Int)) (k : sh_V g M cells slots tgt ls st φ sz Q) : sh_V g M cells slots pc ls (sh_I x :: st) φ sz Q := by
  intro p e s m args below meth c X H locs lsA hl hW hS
  obtain ⟨hx, hb, hml, hown, hts, hK, hST, hA, hret, hlocks, hnm⟩ := id X
  subst hv
  exact lv_tableIn hx hb d h1 h2 ho ht (k p e s m args below meth c X H locs lsA hl hW hS)
theorem sh_tout {dflt hi : Int} {offs : Array Int} {len : Nat} {x : Int32} {tgt : Nat} (n : Nat) (d : decode (sh_cc M) pc = .ok (.tableswitch dflt 0 hi offs, len)) (hn : hi + 1 = n) (h : ∀ j, j < n → ¬ x = nI j) (ht : (pc : Int) + dflt = (tgt : Int)) (k : sh_V g M cells slots tgt ls st φ sz Q) : sh_V g M cells slots pc ls (sh_I x :: st) φ sz Q := by
  intro p e s m args below meth c X H locs lsA hl hW hS
  obtain ⟨hx, hb, hml, hown, hts, hK, hST, hA, hret, hlocks, hnm⟩ := id X
  refine lv_tableOut hx hb d ?_ ht (k p e s m args below meth c X H locs lsA hl hW hS)
  by_cases z : x.toInt < 0
  · exact Or.inl z
  · refine Or.inr ?_
    have hb1 := x.toInt_lt
    by_cases z2 : hi < x.toInt
    · exact z2
    · exfalso
      refine h x.toInt.toNat (by omega) (Int32.toInt_inj.mp ?_)
      rw [nI_toInt (by omega)]
      omega
theorem sh_lsw {dflt : Int} {ps : Array (Int × Int)} {len : Nat} {x : Int32} {off : Int} {tgt : Nat} (d : decode (sh_cc M) pc = .ok (.lookupswitch dflt ps, len)) (hp : (ps.toList.zip (ps.toList.drop 1)).all (fun (a, next) => a.1 < next.1) = true) (ho : Op.lookupswitch.offset ps.toList dflt x.toInt = off) (ht : (pc : Int) + off = (tgt : Int)) (k : sh_V g M cells slots tgt ls st φ sz Q) : sh_V g M cells slots pc ls (sh_I x :: st) φ sz Q := by
  intro p e s m args below meth c X H locs lsA hl hW hS
  obtain ⟨hx, hb, hml, hown, hts, hK, hST, hA, hret, hlocks, hnm⟩ := id X
  exact lv_lookup hx hb d hp ho ht (k p e s m args below meth c X H locs lsA hl hW hS)
end ROWS2
end
section
/-! rows of the judgement: fields, rows of cells, calls -/
def sh_FL (own : String) (ix ci k : Nat) : Prop := ∃ q : vw_C, vwCl[ci]? = some q ∧ k < q.2.2 ∧ Cond.fieldLink own ix (q.2.1 k).1 (q.2.1 k).2.1 (q.2.1 k).2.2.1 ∈ shW
/-- a field's type, and whether it is final -/
def sh_FT (ci k : Nat) (ty : FieldType) (fin : Bool) : Prop := ∃ q : vw_C, vwCl[ci]? = some q ∧ k < q.2.2 ∧ parseFieldDescriptor (q.2.1 k).2.2.1 = some ty ∧ (q.2.1 k).2.2.2 = fin
def sh_CF (q : vw_C) : Prop := (∀ w ∈ u_ws q.1 q.2.1 q.2.2, w ∈ shW) ∧ (∃ ty : Nat → FieldType, ∀ k, k < q.2.2 → parseFieldDescriptor (q.2.1 k).2.2.1 = some (ty k)) ∧ ∀ a, a < q.2.2 → ∀ b, b < q.2.2 → a ≠ b → (q.2.1 a).2.1 ≠ (q.2.1 b).2.1
/-- a call's link, and what the words say of the method -/
def sh_LC (M : sh_M) (n : Nat) : Prop := (Cond.initialized M.1.cls ∈ shW ∧ Cond.code M.1 (sh_cc M) (sh_nL M) (sh_rt M) ∈ shW) ∧ (M.1.cls ≠ "java/lang/invoke/MethodHandle" ∧ M.1.cls ≠ "java/lang/invoke/VarHandle" ∧ (parseMethodDescriptor M.1.desc).map (fun d => d.parameters.length) = some n)
def sh_IV (M : sh_M) : Prop := Cond.instanceMethod M.1 ∈ shW ∧ Cond.selects M.1.cls M.1 M.1 ∈ shW
def sh_fitsIn (N M : sh_M) : Prop := (sh_rm N).frames + 1 ≤ (sh_rm M).frames ∧ 8 + (sh_nL N + 11) + (sh_rm N).locals ≤ (sh_rm M).locals
theorem sh_callB {g : sh_G} {M N : sh_M} {p : Program} {s : State} {m : MethodId} {args : Array Value} {meth : Method} {c : Code} {ix n : Nat} (X : sh_X g M p s m args meth c) (hl : Cond.methodLink M.1.cls ix N.1 ∈ shW) (hC : sh_LC N n) (hf : sh_fitsIn N M) : CallB (sh_rm M) s args M.1.cls ix N.1 (sh_cc N) (sh_nL N) (sh_rt N) (sh_ws N) (sh_rm N) (sh_mc N) (sh_ms N) n := by
  obtain ⟨hx, hb, hml, hown, hts, hK, hST, hA, hret, hlocks, hnm⟩ := X
  exact callB_of n hts (sh_good1 hC.1.2) rfl rfl rfl (hts _ hC.1.1) (hts _ hl) hC.2 hf
theorem sh_preOf {g : sh_G} {M : sh_M} {p : Program} {s U : State} {m : MethodId} {args : Array Value} {meth : Method} {c : Code} {φ : sh_P} {sz : Nat} {H : Heap} {locs : List Loc} (X : sh_X g M p s m args meth c) (hW : sh_W g φ sz H) (hS : va_S (sh_A g) s.heap H locs) (hU : U.heap = H) (hM : s.WarmedH U.vm) : sh_pre g φ sz U := by
  obtain ⟨hx, hb, hml, hown, hts, hK, hST, hA, hret, hlocks, hnm⟩ := X
  exact ⟨va_K.moved hM.alike hK, ⟨hST.1.at hU hM.alike hS, fun a i x h hw => (hST.2.1 a i x h hw).warmM hM, fun a i b n d h hw => (hST.2.2.1 a i b n d h hw).warmF hM, fun C hw => (hST.2.2.2 C hw).moved hM.alike⟩, fun q hq => hA q (Nat.le_trans hS.1 (by rw [← hU]; exact hq)), by rw [hU]; exact hW⟩
section ROWS4
variable {g : sh_G} {M N : sh_M} {cells slots pc : Nat} {ls ls' : List (Nat × sh_v)} {st : List sh_v} {φ φ' : sh_P} {sz : Nat} {Q R : sh_T}
theorem sh_getf {ix ci k : Nat} {o : sh_O} {fs : List sh_v} {v : sh_v} (d : decode (sh_cc M) pc = .ok (.getfield ix, 3)) (hF : sh_FL M.1.cls ix ci k) (hC : ∀ q, vwCl[ci]? = some q → sh_CF q) (ho : φ o = some (.inl (ci, fs))) (hv : fs[k]? = some v) (kk : sh_V g M cells slots (pc + 3) ls (v :: st) φ sz Q) : sh_V g M cells slots pc ls (sh_R o :: st) φ sz Q := by
  intro p e s m args below meth c X H locs lsA hl hW hS
  obtain ⟨hx, hb, hml, hown, hts, hK, hST, hA, hret, hlocks, hnm⟩ := id X
  obtain ⟨⟨C, T, n⟩, hq, hk, hw⟩ := hF
  exact va_get (C := C) (T := T) (N := n) (ci := ci) (fs := fs.map (sh_tv g)) hx hb hts (hC _ hq).1 hown hK (hW.one ho) 0 rfl hq k hk (hts _ hw) (fun _ h => h) (by rw [List.getElem?_map, hv]; rfl) d (kk p e s m args below meth c X H locs lsA hl hW hS)
theorem sh_putf {ix ci k : Nat} {ty : FieldType} {o : sh_O} {fs : List sh_v} {v : sh_v} (d : decode (sh_cc M) pc = .ok (.putfield ix, 3)) (hF : sh_FL M.1.cls ix ci k) (hC : ∀ q, vwCl[ci]? = some q → sh_CF q) (hT : sh_FT ci k ty false) (hn : narrow ty (sh_tv g v) = sh_tv g v) (hfit : fits ty (sh_tv g v) = true) (ho : φ o = some (.inl (ci, fs))) (hlen : k < fs.length) (hφ : sh_up φ o (.inl (ci, fs.set k v)) = φ') (kk : sh_V g M cells slots (pc + 3) ls st φ' sz Q) : sh_V g M cells slots pc ls (v :: sh_R o :: st) φ sz Q := by
  intro p e s m args below meth c X H locs lsA hl hW hS
  obtain ⟨hx, hb, hml, hown, hts, hK, hST, hA, hret, hlocks, hnm⟩ := id X
  obtain ⟨⟨C, T, n⟩, hq, hk, hw⟩ := hF
  obtain ⟨q2, hq2, -, hd, hfin⟩ := hT
  obtain rfl : q2 = (C, T, n) := Option.some.inj (hq2.symm.trans hq)
  obtain ⟨hin, ⟨ty0, hty⟩, hnmd⟩ := hC _ hq
  have hap := va_apart (own := M.1.cls) hts hin ty0 hty hnmd hK hq
  obtain ⟨r, h1, cell, q1, q2', q3, q4⟩ := (hW.2.1 o _ ho).1
  obtain rfl : r = (C, T, n) := Option.some.inj (h1.symm.trans hq)
  obtain ⟨hSl, hfc, kC, hkC, hkind⟩ := hK.1 ci _ hq
  obtain ⟨cf, kf, fi, f, hi, hsl⟩ := hSl k hk
  have hlay := hts _ (hin _ (u_in_lay hk))
  unfold u_lay at hlay
  rw [if_neg (by rw [hfin]; decide)] at hlay
  have hst := (u_facts hfc hkC (u_lays hts hin hk) hi).1
  have h6 := u_store hfc hkC hkind hlay hi hd hn hfit
  refine W.putK hx hb (f := f) ⟨hown, hts _ hw, ⟨_, _, _, hi⟩, hst⟩ (by rw [q2']; exact h6) q1 q3 (by rw [hsl]; exact k2_hasslot (q4 k hk)) rfl rfl d fun H' e1 e2 e3 => ?_
  rw [hsl] at e1 ⊢
  refine kk p e s m args below meth c X H' _ lsA hl ?_ (sh_S.put hS e2 e3 (hW.2.1 o _ ho).2)
  rw [← hφ]
  refine hW.set ho e2 ⟨_, hq, ?_⟩ e3
  exact t_OB.to (V := updV (vp_V (fs.map (sh_tv g))) k (sh_tv g v)) ⟨_, e1, q2', q3, t_set q4 hap hk (sh_tv g v)⟩ (fun j _ => by
    show _ = vp_V ((fs.set k v).map (sh_tv g)) j
    rw [List.map_set]
    exact vp_updV_set (by rw [List.length_map]; exact hlen) (sh_tv g v) j)
theorem sh_putF {ix ci k : Nat} {ty : FieldType} {o : sh_O} {fs : List sh_v} {v : sh_v} (d : decode (sh_cc M) pc = .ok (.putfield ix, 3)) (hF : sh_FL M.1.cls ix ci k) (hC : ∀ q, vwCl[ci]? = some q → sh_CF q) (hT : sh_FT ci k ty true) (hin2 : M.1.name = "<init>") (hdecl : ∀ q, vwCl[ci]? = some q → (q.2.1 k).1 = M.1.cls) (hn : narrow ty (sh_tv g v) = sh_tv g v) (hfit : fits ty (sh_tv g v) = true) (ho : φ o = some (.inl (ci, fs))) (hlen : k < fs.length) (hφ : sh_up φ o (.inl (ci, fs.set k v)) = φ') (kk : sh_V g M cells slots (pc + 3) ls st φ' sz Q) : sh_V g M cells slots pc ls (v :: sh_R o :: st) φ sz Q := by
  intro p e s m args below meth c X H locs lsA hl hW hS
  obtain ⟨hx, hb, hml, hown, hts, hK, hST, hA, hret, hlocks, hnm⟩ := id X
  obtain ⟨⟨C, T, n⟩, hq, hk, hw⟩ := hF
  obtain ⟨q2, hq2, -, hd, hfin⟩ := hT
  obtain rfl : q2 = (C, T, n) := Option.some.inj (hq2.symm.trans hq)
  obtain ⟨hin, ⟨ty0, hty⟩, hnmd⟩ := hC _ hq
  have hdecl := hdecl _ hq
  have hap := va_apart (own := M.1.cls) hts hin ty0 hty hnmd hK hq
  obtain ⟨r, h1, cell, q1, q2', q3, q4⟩ := (hW.2.1 o _ ho).1
  obtain rfl : r = (C, T, n) := Option.some.inj (h1.symm.trans hq)
  obtain ⟨hSl, hfc, kC, hkC, hkind⟩ := hK.1 ci _ hq
  obtain ⟨cf, kf, fi, f, hi, hsl⟩ := hSl k hk
  have hlay := hts _ (hin _ (u_in_lay hk))
  unfold u_lay at hlay
  rw [if_pos hfin] at hlay
  have hst := (u_facts hfc hkC (u_lays hts hin hk) hi).1
  have hcf : m.cls = cf := by
    obtain ⟨_, _, c', _, _, _, -, -, hf', -, -, -, hown2, -⟩ := Cond.laysFinal_spec hlay
    have e1 : c' = cf := by have := hi.symm.trans hf'; simp at this; exact this.1.symm
    rw [hdecl] at hown2
    rw [← e1]; exact Option.some.inj (hown.symm.trans hown2)
  have h6 := u_fits hfc hkC hkind (Or.inr hlay) hi hd hn hfit
  refine W.putFinK hx hb hown (hts _ hw) hi hst hcf (hnm.trans hin2) (by rw [q2']; exact h6) q1 q3 (by rw [hsl]; exact k2_hasslot (q4 k hk)) rfl rfl d fun H' e1 e2 e3 => ?_
  rw [hsl] at e1 ⊢
  refine kk p e s m args below meth c X H' _ lsA hl ?_ (sh_S.put hS e2 e3 (hW.2.1 o _ ho).2)
  rw [← hφ]
  refine hW.set ho e2 ⟨_, hq, ?_⟩ e3
  exact t_OB.to (V := updV (vp_V (fs.map (sh_tv g))) k (sh_tv g v)) ⟨_, e1, q2', q3, t_set q4 hap hk (sh_tv g v)⟩ (fun j _ => by
    show _ = vp_V ((fs.set k v).map (sh_tv g)) j
    rw [List.map_set]
    exact vp_updV_set (by rw [List.length_map]; exact hlen) (sh_tv g v) j)
theorem sh_iald {o : sh_O} {n : Nat} {f : Nat → Int32} {i : Int32} (d : decode (sh_cc M) pc = .ok (.iaload, 1)) (ho : φ o = some (.inr (.inl (n, f)))) (hi : vp_in i n) (kk : sh_V g M cells slots (pc + 1) ls (sh_I (f i.toNatClampNeg) :: st) φ sz Q) : sh_V g M cells slots pc ls (sh_I i :: sh_R o :: st) φ sz Q := by
  intro p e s m args below meth c X H locs lsA hl hW hS
  obtain ⟨hx, hb, hml, hown, hts, hK, hST, hA, hret, hlocks, hnm⟩ := id X
  exact va_iald hx hb hK (hW.one ho) 0 0 rfl rfl hi d (kk p e s m args below meth c X H locs lsA hl hW hS)
theorem sh_cald {o : sh_O} {n : Nat} {f : Nat → Int32} {i : Int32} (d : decode (sh_cc M) pc = .ok (.caload, 1)) (ho : φ o = some (.inr (.inr (.inl (n, f))))) (hi : vp_in i n) (kk : sh_V g M cells slots (pc + 1) ls (sh_I (f i.toNatClampNeg) :: st) φ sz Q) : sh_V g M cells slots pc ls (sh_I i :: sh_R o :: st) φ sz Q := by
  intro p e s m args below meth c X H locs lsA hl hW hS
  obtain ⟨hx, hb, hml, hown, hts, hK, hST, hA, hret, hlocks, hnm⟩ := id X
  exact va_cald hx hb hK (hW.one ho) 0 1 rfl rfl hi d (kk p e s m args below meth c X H locs lsA hl hW hS)
theorem sh_aald {o o' : sh_O} {t n : Nat} {f : Nat → Option sh_O} {i : Int32} (d : decode (sh_cc M) pc = .ok (.aaload, 1)) (ht : t = 2 ∨ t = 3 ∨ t = 4) (ho : φ o = some (.inr (.inr (.inr (t, n, f))))) (hi : vp_in i n) (hf : f i.toNatClampNeg = some o') (kk : sh_V g M cells slots (pc + 1) ls (sh_R o' :: st) φ sz Q) : sh_V g M cells slots pc ls (sh_I i :: sh_R o :: st) φ sz Q := by
  intro p e s m args below meth c X H locs lsA hl hW hS
  obtain ⟨hx, hb, hml, hown, hts, hK, hST, hA, hret, hlocks, hnm⟩ := id X
  have k2 := kk p e s m args below meth c X H locs lsA hl hW hS
  have e1 : va_rf ((f i.toNatClampNeg).map (sh_ad g)) = .ref (sh_ad g o') := by rw [hf]; rfl
  rcases ht with rfl | rfl | rfl
  · exact va_aldq hx hb hK (hW.one ho) 0 2 rfl rfl hi d (by rw [e1]; exact k2)
  · exact va_aldq hx hb hK (hW.one ho) 0 3 rfl rfl hi d (by rw [e1]; exact k2)
  · exact va_aldq hx hb hK (hW.one ho) 0 4 rfl rfl hi d (by rw [e1]; exact k2)
theorem sh_iast {o : sh_O} {n : Nat} {f : Nat → Int32} {i x : Int32} (d : decode (sh_cc M) pc = .ok (.iastore, 1)) (ho : φ o = some (.inr (.inl (n, f)))) (hi : vp_in i n) (hφ : sh_up φ o (.inr (.inl (n, upd f i.toNatClampNeg x))) = φ') (kk : sh_V g M cells slots (pc + 1) ls st φ' sz Q) : sh_V g M cells slots pc ls (sh_I x :: sh_I i :: sh_R o :: st) φ sz Q := by
  intro p e s m args below meth c X H locs lsA hl hW hS
  obtain ⟨hx, hb, hml, hown, hts, hK, hST, hA, hret, hlocks, hnm⟩ := id X
  have ha : H[sh_ad g o]? = some (vp_cell (sh_cy g 0) (n, .inl f)) := (hW.2.1 o _ ho).1
  refine W.iast hx hb ha ((hK.2 0 _ rfl).1 n (fun j => .int (f j))) (fun q => by cases q) (by show ¬ (i < 0 ∨ (arrV _ _ _).slots.size ≤ _); rw [arrV_size]; exact hi) rfl rfl d fun H1 e1 z oq => ?_
  refine kk p e s m args below meth c X H1 _ lsA hl ?_ (sh_S.put hS z oq (hW.2.1 o _ ho).2)
  rw [← hφ]
  refine hW.set ho z ?_ oq
  show H1[_]? = some (vp_cell _ _)
  rw [e1, vp_cell_i, vp_cell_i, arrV_store]
  congr 2
  funext q
  by_cases hq : q = i.toNatClampNeg
  · subst hq
    simp [updV, upd]
  · simp [updV, upd, hq]
theorem sh_cast {o : sh_O} {n : Nat} {f : Nat → Int32} {i x : Int32} (d : decode (sh_cc M) pc = .ok (.castore, 1)) (ho : φ o = some (.inr (.inr (.inl (n, f))))) (hi : vp_in i n) (hx2 : vp_nar .char x = x) (hφ : sh_up φ o (.inr (.inr (.inl (n, upd f i.toNatClampNeg x)))) = φ') (kk : sh_V g M cells slots (pc + 1) ls st φ' sz Q) : sh_V g M cells slots pc ls (sh_I x :: sh_I i :: sh_R o :: st) φ sz Q := by
  intro p e s m args below meth c X H locs lsA hl hW hS
  obtain ⟨hx, hb, hml, hown, hts, hK, hST, hA, hret, hlocks, hnm⟩ := id X
  have ha : H[sh_ad g o]? = some (vp_cell (sh_cy g 1) (n, .inl f)) := (hW.2.1 o _ ho).1
  refine W.cast hx hb ha ((hK.2 1 _ rfl).1 n (fun j => .int (f j))) (fun q => by cases q) (by show ¬ (i < 0 ∨ (arrV _ _ _).slots.size ≤ _); rw [arrV_size]; exact hi) rfl rfl d fun H1 e1 z oq => ?_
  refine kk p e s m args below meth c X H1 _ lsA hl ?_ (sh_S.put hS z oq (hW.2.1 o _ ho).2)
  rw [← hφ]
  refine hW.set ho z ?_ oq
  show H1[_]? = some (vp_cell _ _)
  rw [show narrow .char (.int x) = .int (vp_nar .char x) from rfl, hx2] at e1
  rw [e1, vp_cell_i, vp_cell_i, arrV_store]
  congr 2
  funext q
  by_cases hq : q = i.toNatClampNeg
  · subst hq
    simp [updV, upd]
  · simp [updV, upd, hq]
theorem sh_aast {o o' : sh_O} {t n ci : Nat} {fs : List sh_v} {r : vw_C} {f : Nat → Option sh_O} {i : Int32} (d : decode (sh_cc M) pc = .ok (.aastore, 1)) (ht : (sh_tys g)[t]? = some (sh_cy g t, .object r.1)) (ho : φ o = some (.inr (.inr (.inr (t, n, f))))) (hv : φ o' = some (.inl (ci, fs))) (hc : vwCl[ci]? = some r) (hi : vp_in i n) (hφ : sh_up φ o (.inr (.inr (.inr (t, n, va_up f i.toNatClampNeg (some o'))))) = φ') (kk : sh_V g M cells slots (pc + 1) ls st φ' sz Q) : sh_V g M cells slots pc ls (sh_R o' :: sh_I i :: sh_R o :: st) φ sz Q := by
  intro p e s m args below meth c X H locs lsA hl hW hS
  obtain ⟨hx, hb, hml, hown, hts, hK, hST, hA, hret, hlocks, hnm⟩ := id X
  have hlt : i.toNatClampNeg < n := Nat.not_le.mp fun q => hi (Or.inr q)
  have h0 : ¬ i < 0 := fun q => hi (Or.inl q)
  have ha : H[sh_ad g o]? = some (vp_cell (sh_cy g t) (n, .inr (.inr (.inr (.inr (fun j => (f j).map (sh_ad g))))))) := (hW.2.1 o _ ho).1
  obtain ⟨r', hr', cellV, g1, g2, g3, -⟩ := (hW.2.1 o' _ hv).1
  have hcls := (hK.1 ci r hc).2
  obtain ⟨kA, comp, k1, k2, k3, -⟩ := (hK.2 t _ ht).2
  have hcomp : comp = (sh_D g).1 ci := Option.some.inj (k3.symm.trans hcls.1)
  subst hcomp
  obtain ⟨kC, hkC, -⟩ := hcls.2
  refine W.aast hx hb ha (fun q h => by cases h) (fun h => by cases h) k1 k2 rfl hkC ⟨h0, by show _ < (arrV _ _ _).slots.size; rw [arrV_size]; exact hlt⟩ g1 (fun q h => by rw [g3] at h; cases h) (by rw [g2]; exact hkC) (by rw [g2]; exact va_assign hcls) rfl rfl d fun H1 e1 z oq => ?_
  refine kk p e s m args below meth c X H1 _ lsA hl ?_ (sh_S.put hS z oq (hW.2.1 o _ ho).2)
  rw [← hφ]
  refine hW.set ho z ?_ oq
  show H1[_]? = some (vp_cell _ _)
  rw [e1, vp_cell_q, vp_cell_q, arrV_store]
  congr 2
  funext q
  by_cases hq : q = i.toNatClampNeg
  · subst hq
    simp [updV, va_up, va_rf]
  · simp [updV, va_up, hq]
/-- behind a call -/
theorem sh_back {p : Program} {e : Env} {s : State} {m : MethodId} {args : Array Value} {below : List Frame} {meth : Method} {c : Code} {H : Heap} {locs : List Loc} {lsA : Array Slot} {a : Array Value} {st0 : List Value} {Z : State → Prop} (hr : va_Run p (sh_l g) e (sh_rm M) s m args below meth c H locs cells slots (sh_mc N) (sh_ms N) (F0 m pc lsA st0) (st.map (sh_tv g)) (sh_Q g R a) (sh_A g)) (hS : va_S (sh_A g) s.heap H locs)
    (kk : ∀ (r : Option sh_v) (φ1 : sh_P) (sz1 : Nat) (H1 : Heap) (locs1 : List Loc), R r φ1 sz1 → sh_W g φ1 sz1 H1 → va_S (sh_A g) s.heap H1 locs1 → W p (sh_l g) e (sh_rm M) s m args below meth c H1 locs1 (cells + sh_mc N) (slots + sh_ms N) Z (F0 m (pc + 3) lsA ((r.toList ++ st).map (sh_tv g)))) : W p (sh_l g) e (sh_rm M) s m args below meth c H locs cells slots Z (F0 m pc lsA st0) := by
  intro T hT X
  obtain ⟨v, st₀, t, T', L, h0, X', hL, e1, e2, ⟨⟨r, φ1, sz1, hv, hR, hW1⟩, hz, hk⟩, step⟩ := hr T hT X
  cases hv
  rw [h0] at hz hk
  obtain ⟨t2, a1, b1⟩ := kk r φ1 sz1 T'.heap (locs ++ L) hR (by rw [e1]; exact hW1)
    ⟨Nat.le_trans hS.1 (by rw [e1]; exact hz), fun q h1 h2 => by rw [e1, hk q (Nat.lt_of_lt_of_le h1 hS.1) h2]; exact hS.2.1 q h1 h2, fun q hq => by
      rcases List.mem_append.mp hq with h | h
      · exact hS.2.2 q h
      · exact hL q h⟩ T' rfl X'
  refine ⟨t2, step t2 ?_, b1⟩
  cases r <;> exact a1
theorem sh_st8 (h : (st.map (fun v => if sh_c2 v then 2 else 1)).sum ≤ 8) : ((st.map (sh_tv g)).map fun v => v.category).sum ≤ 8 := by
  have e1 : ∀ v : sh_v, (sh_tv g v).category = if sh_c2 v then 2 else 1 := by
    intro v
    rcases v with _ | x | o | x | x <;> rfl
  rw [List.map_map]
  rw [show (st.map ((fun v => v.category) ∘ sh_tv g)) = st.map (fun v => if sh_c2 v then 2 else 1) from List.map_congr_left fun v _ => e1 v]
  exact h
theorem sh_vcall {ix n ci : Nat} {b : sh_O} {As st0 : List sh_v} {fs : List sh_v} {q : vw_C} (d : decode (sh_cc M) pc = .ok (.invokevirtual ix, 3)) (hl0 : Cond.methodLink M.1.cls ix N.1 ∈ shW) (hC : sh_LC N n) (hI : sh_IV N) (hf : sh_fitsIn N M) (hst : st0 = As.reverse ++ sh_R b :: st) (hn : As.length = n) (h8 : (st.map (fun v => if sh_c2 v then 2 else 1)).sum ≤ 8) (hb0 : φ b = some (.inl (ci, fs))) (hq : vwCl[ci]? = some q) (hqc : q.1 = N.1.cls) (hr : cells + sh_mc N ≤ sh_mc M ∧ slots + sh_ms N ≤ sh_ms M)
    (hM : sh_Call g N (sh_R b :: As) φ sz R) (kk : ∀ r φ1 sz1, R r φ1 sz1 → sh_V g M (cells + sh_mc N) (slots + sh_ms N) (pc + 3) ls (r.toList ++ st) φ1 sz1 Q) : sh_V g M cells slots pc ls st0 φ sz Q := by
  subst hst
  intro p e s m args below meth c X H locs lsA hl hW hS
  obtain ⟨hx, hb, hml, hown, hts, hK, hST, hA, hret, hlocks, hnm⟩ := id X
  have hrecv := va_recv hK (hW.one hb0) (ci := ci) (q0 := 0) hq rfl
  rw [hqc] at hrecv
  refine sh_back (va_runV (As := As.map (sh_tv g)) ⟨hx, hb, hml, hown, hts⟩ hM ⟨sh_callB X hl0 hC hf, hts _ hI.1, hts _ hI.2⟩ ⟨sh_blind, hrecv, fun U hU hWm => ⟨rfl, sh_preOf X hW hS hU hWm⟩⟩ rfl (by rw [List.length_map]; exact hn) hl.1 (by show (List.map _ _) = _; simp [sh_tv]) (lv_room (sh_st8 h8)) d hr) hS (fun r φ1 sz1 H1 locs1 hR hW1 hS1 => kk r φ1 sz1 hR p e s m args below meth c X H1 locs1 lsA hl hW1 hS1)
theorem sh_scall {ix n : Nat} {As st0 : List sh_v} (d : decode (sh_cc M) pc = .ok (.invokestatic ix, 3)) (hl0 : Cond.methodLink M.1.cls ix N.1 ∈ shW) (hC : sh_LC N n) (hI : Cond.static N.1 ∈ shW) (hf : sh_fitsIn N M) (hst : st0 = As.reverse ++ st) (hn : As.length = n) (h8 : (st.map (fun v => if sh_c2 v then 2 else 1)).sum ≤ 8) (hr : cells + sh_mc N ≤ sh_mc M ∧ slots + sh_ms N ≤ sh_ms M)
    (hM : sh_Call g N As φ sz R) (kk : ∀ r φ1 sz1, R r φ1 sz1 → sh_V g M (cells + sh_mc N) (slots + sh_ms N) (pc + 3) ls (r.toList ++ st) φ1 sz1 Q) : sh_V g M cells slots pc ls st0 φ sz Q := by
  subst hst
  intro p e s m args below meth c X H locs lsA hl hW hS
  obtain ⟨hx, hb, hml, hown, hts, hK, hST, hA, hret, hlocks, hnm⟩ := id X
  refine sh_back (va_runS (As := As.map (sh_tv g)) ⟨hx, hb, hml, hown, hts⟩ hM ⟨sh_callB X hl0 hC hf, hts _ hI⟩ ⟨sh_blind, fun U hU hWm => ⟨rfl, sh_preOf X hW hS hU hWm⟩⟩ rfl (by rw [List.length_map]; exact hn) hl.1 (by show (List.map _ _) = _; simp) (lv_room (sh_st8 h8)) d hr) hS (fun r φ1 sz1 H1 locs1 hR hW1 hS1 => kk r φ1 sz1 hR p e s m args below meth c X H1 locs1 lsA hl hW1 hS1)
theorem sh_icall {ix n : Nat} {b : sh_O} {As st0 : List sh_v} (d : decode (sh_cc M) pc = .ok (.invokespecial ix, 3)) (hl0 : Cond.methodLink M.1.cls ix N.1 ∈ shW) (hC : sh_LC N n) (hI : Cond.instanceMethod N.1 ∈ shW) (hnm2 : N.1.name = "<init>") (hrt : sh_rt N = none) (hf : sh_fitsIn N M) (hst : st0 = As.reverse ++ sh_R b :: st) (hn : As.length = n) (h8 : (st.map (fun v => if sh_c2 v then 2 else 1)).sum ≤ 8) (hr : cells + sh_mc N ≤ sh_mc M ∧ slots + sh_ms N ≤ sh_ms M)
    (hM : sh_Call g N (sh_R b :: As) φ sz R) (kk : ∀ r φ1 sz1, R r φ1 sz1 → sh_V g M (cells + sh_mc N) (slots + sh_ms N) (pc + 3) ls (r.toList ++ st) φ1 sz1 Q) : sh_V g M cells slots pc ls st0 φ sz Q := by
  subst hst
  intro p e s m args below meth c X H locs lsA hl hW hS
  obtain ⟨hx, hb, hml, hown, hts, hK, hST, hA, hret, hlocks, hnm⟩ := id X
  have hB := sh_callB X hl0 hC hf
  rw [hrt] at hB
  refine sh_back (va_runI (As := As.map (sh_tv g)) ⟨hx, hb, hml, hown, hts⟩ hM ⟨hB, hnm2, hts _ hI⟩ ⟨sh_blind, fun U hU hWm => ⟨rfl, sh_preOf X hW hS hU hWm⟩⟩ rfl (by rw [List.length_map]; exact hn) hl.1 (by show (List.map _ _) = _; simp [sh_tv]) (lv_room (sh_st8 h8)) d hr) hS (fun r φ1 sz1 H1 locs1 hR hW1 hS1 => kk r φ1 sz1 hR p e s m args below meth c X H1 locs1 lsA hl hW1 hS1)
theorem sh_scallN {ix n : Nat} {host : String} {As st0 : List sh_v} (d : decode (sh_cc M) pc = .ok (.invokestatic ix, 3)) (hl0 : Cond.methodLinkNest M.1.cls ix N.1 host ∈ lw_tbl) (hC : sh_LC N n) (hI : Cond.static N.1 ∈ shW) (hf : sh_fitsIn N M) (hst : st0 = As.reverse ++ st) (hn : As.length = n) (h8 : (st.map (fun v => if sh_c2 v then 2 else 1)).sum ≤ 8) (hr : cells + sh_mc N ≤ sh_mc M ∧ slots + sh_ms N ≤ sh_ms M)
    (hM : sh_Call g N As φ sz R) (kk : ∀ r φ1 sz1, R r φ1 sz1 → sh_V g M (cells + sh_mc N) (slots + sh_ms N) (pc + 3) ls (r.toList ++ st) φ1 sz1 Q) : sh_V g M cells slots pc ls st0 φ sz Q := by
  subst hst
  intro p e s m args below meth c X H locs lsA hl hW hS
  obtain ⟨hx, hb, hml, hown, hts, hK, hST, hA, hret, hlocks, hnm⟩ := id X
  refine sh_back (va_runSN (As := As.map (sh_tv g)) (host := host) ⟨hx, hb, hml, hown, hts⟩ hM ⟨va_cnB n hts (sh_good1 hC.1.2) rfl rfl rfl (hST.2.1 _ _ _ _ hl0) (hts _ hC.1.1) hC.2 hf, hts _ hI, trivial⟩ ⟨sh_blind, fun U hU hWm => ⟨rfl, sh_preOf X hW hS hU hWm⟩⟩ rfl (by rw [List.length_map]; exact hn) hl.1 (by show (List.map _ _) = _; simp) (lv_room (sh_st8 h8)) d hr) hS (fun r φ1 sz1 H1 locs1 hR hW1 hS1 => kk r φ1 sz1 hR p e s m args below meth c X H1 locs1 lsA hl hW1 hS1)
theorem sh_icallN {ix n : Nat} {host : String} {b : sh_O} {As st0 : List sh_v} (d : decode (sh_cc M) pc = .ok (.invokespecial ix, 3)) (hl0 : Cond.methodLinkNest M.1.cls ix N.1 host ∈ lw_tbl) (hC : sh_LC N n) (hI : Cond.instanceMethod N.1 ∈ shW) (hnm2 : N.1.name = "<init>") (hrt : sh_rt N = none) (hf : sh_fitsIn N M) (hst : st0 = As.reverse ++ sh_R b :: st) (hn : As.length = n) (h8 : (st.map (fun v => if sh_c2 v then 2 else 1)).sum ≤ 8) (hr : cells + sh_mc N ≤ sh_mc M ∧ slots + sh_ms N ≤ sh_ms M)
    (hM : sh_Call g N (sh_R b :: As) φ sz R) (kk : ∀ r φ1 sz1, R r φ1 sz1 → sh_V g M (cells + sh_mc N) (slots + sh_ms N) (pc + 3) ls (r.toList ++ st) φ1 sz1 Q) : sh_V g M cells slots pc ls st0 φ sz Q := by
  subst hst
  intro p e s m args below meth c X H locs lsA hl hW hS
  obtain ⟨hx, hb, hml, hown, hts, hK, hST, hA, hret, hlocks, hnm⟩ := id X
  have hB : va_CN (sh_rm M) s args M.1.cls ix N.1 host (sh_cc N) (sh_nL N) (sh_rt N) (sh_ws N) (sh_rm N) (sh_mc N) (sh_ms N) n := va_cnB n hts (sh_good1 hC.1.2) rfl rfl rfl (hST.2.1 _ _ _ _ hl0) (hts _ hC.1.1) hC.2 hf
  rw [hrt] at hB
  refine sh_back (va_runIN (As := As.map (sh_tv g)) (host := host) ⟨hx, hb, hml, hown, hts⟩ hM ⟨hB, hnm2, hts _ hI⟩ ⟨sh_blind, fun U hU hWm => ⟨rfl, sh_preOf X hW hS hU hWm⟩⟩ rfl (by rw [List.length_map]; exact hn) hl.1 (by show (List.map _ _) = _; simp [sh_tv]) (lv_room (sh_st8 h8)) d hr) hS (fun r φ1 sz1 H1 locs1 hR hW1 hS1 => kk r φ1 sz1 hR p e s m args below meth c X H1 locs1 lsA hl hW1 hS1)
end ROWS4
section ROWS5
variable {g : sh_G} {M N : sh_M} {cells slots pc : Nat} {ls ls' : List (Nat × sh_v)} {st : List sh_v} {φ φ' : sh_P} {sz : Nat} {Q R : sh_T}
theorem sh_cats (st : List sh_v) : ((st.map (sh_tv g)).map fun v => v.category).sum = (st.map (fun v => if sh_c2 v then 2 else 1)).sum := by
  have e1 : ∀ v : sh_v, (sh_tv g v).category = if sh_c2 v then 2 else 1 := by
    intro v
    rcases v with _ | x | o | x | x <;> rfl
  rw [List.map_map]
  rw [show (st.map ((fun v => v.category) ∘ sh_tv g)) = st.map (fun v => if sh_c2 v then 2 else 1) from List.map_congr_left fun v _ => e1 v]
theorem sh_min {ix : Nat} {x y : Int32} (d : decode (sh_cc M) pc = .ok (.invokestatic ix, 3)) (hl0 : Cond.methodLink M.1.cls ix Lib.Math.min.name ∈ shW) (hs : Cond.static Lib.Math.min.name ∈ shW) (hi : Cond.initialized "java/lang/Math" ∈ shW) (hc : Cond.code Lib.Math.min.name Lib.Math.min.code 2 (some .int) ∈ shW) (hf : 1 ≤ (sh_rm M).frames) (hlo : (st.map (fun v => if sh_c2 v then 2 else 1)).sum + 13 ≤ (sh_rm M).locals) (hr : cells ≤ sh_mc M ∧ slots ≤ sh_ms M) (kk : sh_V g M cells slots (pc + 3) ls (sh_I (if y < x then y else x) :: st) φ sz Q) : sh_V g M cells slots pc ls (sh_I y :: sh_I x :: st) φ sz Q := by
  intro p e s m args below meth c X H locs lsA hl hW hS
  obtain ⟨hx, hb, hml, hown, hts, hK, hST, hA, hret, hlocks, hnm⟩ := id X
  exact va_mmin hx hb (hml.trans hl.1.symm) hown (hts _ hl0) (hts _ hs) (hts _ hi) (hts _ hc) hf (by rw [sh_cats]; exact hlo) hr.1 hr.2 d (kk p e s m args below meth c X H locs lsA hl hW hS)
theorem sh_max {ix : Nat} {x y : Int32} (d : decode (sh_cc M) pc = .ok (.invokestatic ix, 3)) (hl0 : Cond.methodLink M.1.cls ix Lib.Math.max.name ∈ shW) (hs : Cond.static Lib.Math.max.name ∈ shW) (hi : Cond.initialized "java/lang/Math" ∈ shW) (hc : Cond.code Lib.Math.max.name Lib.Math.max.code 2 (some .int) ∈ shW) (hf : 1 ≤ (sh_rm M).frames) (hlo : (st.map (fun v => if sh_c2 v then 2 else 1)).sum + 13 ≤ (sh_rm M).locals) (hr : cells ≤ sh_mc M ∧ slots ≤ sh_ms M) (kk : sh_V g M cells slots (pc + 3) ls (sh_I (if x < y then y else x) :: st) φ sz Q) : sh_V g M cells slots pc ls (sh_I y :: sh_I x :: st) φ sz Q := by
  intro p e s m args below meth c X H locs lsA hl hW hS
  obtain ⟨hx, hb, hml, hown, hts, hK, hST, hA, hret, hlocks, hnm⟩ := id X
  exact va_mmax hx hb (hml.trans hl.1.symm) hown (hts _ hl0) (hts _ hs) (hts _ hi) (hts _ hc) hf (by rw [sh_cats]; exact hlo) hr.1 hr.2 d (kk p e s m args below meth c X H locs lsA hl hW hS)
theorem sh_f2raw {ix : Nat} {b : UInt32} (d : decode (sh_cc M) pc = .ok (.invokestatic ix, 3)) (hl0 : Cond.methodLink M.1.cls ix ⟨"java/lang/Float", "floatToRawIntBits", "(F)I"⟩ ∈ shW) (hn : Cond.native ⟨"java/lang/Float", "floatToRawIntBits", "(F)I"⟩ ∈ shW) (hs : Cond.static ⟨"java/lang/Float", "floatToRawIntBits", "(F)I"⟩ ∈ shW) (hi : Cond.initialized "java/lang/Float" ∈ shW) (hf : 1 ≤ (sh_rm M).frames) (hlo : (st.map (fun v => if sh_c2 v then 2 else 1)).sum + 15 ≤ (sh_rm M).locals) (kk : sh_V g M cells slots (pc + 3) ls (sh_I b.toInt32 :: st) φ sz Q) : sh_V g M cells slots pc ls (sh_F b :: st) φ sz Q := by
  intro p e s m args below meth c X H locs lsA hl hW hS
  obtain ⟨hx, hb, hml, hown, hts, hK, hST, hA, hret, hlocks, hnm⟩ := id X
  exact vn_f2i hx hb (hml.trans hl.1.symm) hown (hts _ hl0) (hts _ hn) (hts _ hs) (hts _ hi) hf (by rw [sh_cats]; exact hlo) d (kk p e s m args below meth c X H locs lsA hl hW hS)
theorem sh_i2fb {ix : Nat} {b : Int32} (d : decode (sh_cc M) pc = .ok (.invokestatic ix, 3)) (hl0 : Cond.methodLink M.1.cls ix ⟨"java/lang/Float", "intBitsToFloat", "(I)F"⟩ ∈ shW) (hn : Cond.native ⟨"java/lang/Float", "intBitsToFloat", "(I)F"⟩ ∈ shW) (hs : Cond.static ⟨"java/lang/Float", "intBitsToFloat", "(I)F"⟩ ∈ shW) (hi : Cond.initialized "java/lang/Float" ∈ shW) (hv : vn_sni2f b = false) (hf : 1 ≤ (sh_rm M).frames) (hlo : (st.map (fun v => if sh_c2 v then 2 else 1)).sum + 15 ≤ (sh_rm M).locals) (kk : sh_V g M cells slots (pc + 3) ls (sh_F b.toUInt32 :: st) φ sz Q) : sh_V g M cells slots pc ls (sh_I b :: st) φ sz Q := by
  intro p e s m args below meth c X H locs lsA hl hW hS
  obtain ⟨hx, hb, hml, hown, hts, hK, hST, hA, hret, hlocks, hnm⟩ := id X
  exact vn_i2f hx hb (hml.trans hl.1.symm) hown (hts _ hl0) (hts _ hn) (hts _ hs) (hts _ hi) hv hf (by rw [sh_cats]; exact hlo) d (kk p e s m args below meth c X H locs lsA hl hW hS)
theorem sh_objinit {ix : Nat} {o : sh_O} (d : decode (sh_cc M) pc = .ok (.invokespecial ix, 3)) (hl0 : Cond.methodLink M.1.cls ix Lib.objectInit ∈ shW) (hi : Cond.instanceMethod Lib.objectInit ∈ shW) (hc : Cond.code Lib.objectInit ⟨#[0xb1]⟩ 1 none ∈ shW) (hf : 1 ≤ (sh_rm M).frames) (hlo : (st.map (fun v => if sh_c2 v then 2 else 1)).sum + 12 ≤ (sh_rm M).locals) (kk : sh_V g M cells slots (pc + 3) ls st φ sz Q) : sh_V g M cells slots pc ls (sh_R o :: st) φ sz Q := by
  intro p e s m args below meth c X H locs lsA hl hW hS
  obtain ⟨hx, hb, hml, hown, hts, hK, hST, hA, hret, hlocks, hnm⟩ := id X
  exact W.objInit hx hb hown (hts _ hl0) (hts _ hi) (hts _ hc) rfl (by rw [hml]; exact hl.1) rfl d hf (by show 2 * 0 + ((st.map (sh_tv g)).map fun v => v.category).sum + 12 ≤ _; rw [sh_cats]; omega) (kk p e s m args below meth c X H locs lsA hl hW hS)
theorem sh_sgetN {ix i : Nat} {host : String} (d : decode (sh_cc M) pc = .ok (.getstatic ix, 3)) (hl0 : Cond.fieldLinkNest M.1.cls ix RX8 (sh_sn i) "[I" host ∈ lw_tbl) (hi : i < 3) (kk : sh_V g M cells slots (pc + 3) ls (sh_R (98, i, 0) :: st) φ sz Q) : sh_V g M cells slots pc ls st φ sz Q := by
  intro p e s m args below meth c X H locs lsA hl hW hS
  obtain ⟨hx, hb, hml, hown, hts, hK, hST, hA, hret, hlocks, hnm⟩ := id X
  exact va_getsN hx hb (hST.1.1 i hi).1 hS hown (va_Nw.use rfl (hST.2.2.1 _ _ _ _ _ _ hl0)) (fun _ h => h) d (kk p e s m args below meth c X H locs lsA hl hW hS)
theorem sh_tald {i : Nat} {j : Int32} (d : decode (sh_cc M) pc = .ok (.iaload, 1)) (hi : i < 3) (hj : vp_in j 7) (kk : sh_V g M cells slots (pc + 1) ls (sh_I (sh_sf i j.toNatClampNeg) :: st) φ sz Q) : sh_V g M cells slots pc ls (sh_I j :: sh_R (98, i, 0) :: st) φ sz Q := by
  intro p e s m args below meth c X H locs lsA hl hW hS
  obtain ⟨hx, hb, hml, hown, hts, hK, hST, hA, hret, hlocks, hnm⟩ := id X
  obtain ⟨cell, h1, h2, h3, h4, h5, h6, h7⟩ := ((hST.1.1 i hi).2).kept hS.2.1
  have hlt : j.toNatClampNeg < 7 := Nat.not_le.mp fun q => hj (Or.inr q)
  exact W.iald (v := .int (sh_sf i j.toNatClampNeg)) hx hb h1 h2 h3 (fun z => by rcases z with z | z; exact hj (Or.inl z); omega) (h6 _ hlt) rfl rfl d (kk p e s m args below meth c X H locs lsA hl hW hS)
theorem sh_sald {j : Int32} (d : decode (sh_cc M) pc = .ok (.iaload, 1)) (hj : vp_in j (sh_L g)) (kk : sh_V g M cells slots (pc + 1) ls (sh_I (sh_xs g j.toNatClampNeg) :: st) φ sz Q) : sh_V g M cells slots pc ls (sh_I j :: sh_R (99, 0, 0) :: st) φ sz Q := by
  intro p e s m args below meth c X H locs lsA hl hW hS
  obtain ⟨hx, hb, hml, hown, hts, hK, hST, hA, hret, hlocks, hnm⟩ := id X
  exact va_sld hx hb hST.1.2.1 hST.1.2.2.1 hST.1.2.2.2 hS hj d (kk p e s m args below meth c X H locs lsA hl hW hS)
theorem sh_slen (d : decode (sh_cc M) pc = .ok (.arraylength, 1)) (kk : sh_V g M cells slots (pc + 1) ls (sh_I (nI (sh_L g)) :: st) φ sz Q) : sh_V g M cells slots pc ls (sh_R (99, 0, 0) :: st) φ sz Q := by
  intro p e s m args below meth c X H locs lsA hl hW hS
  obtain ⟨hx, hb, hml, hown, hts, hK, hST, hA, hret, hlocks, hnm⟩ := id X
  obtain ⟨scr, h1, h2, h3, h4, -⟩ := hST.1.2.1
  have h1' : H[sh_ad g (99, 0, 0)]? = some scr := by rw [hS.2.1 _ hST.1.2.2.1 hST.1.2.2.2]; exact h1
  exact W.alen hx hb h1' h2 (by rw [h4]; rfl) rfl rfl d (kk p e s m args below meth c X H locs lsA hl hW hS)
theorem sh_new {ix ci : Nat} {o : sh_O} {q : vw_C} {fs : List sh_v} (d : decode (sh_cc M) pc = .ok (.new ix, 3)) (hq : vwCl[ci]? = some q) (hC : sh_CF q) (hcl : Cond.classLink M.1.cls ix q.1 ∈ shW) (hinst : Cond.instantiable q.1 q.2.2 ∈ shW) (hini : Cond.initialized q.1 ∈ shW) (hfs : ∀ j, j < q.2.2 → ∀ ty, parseFieldDescriptor (q.2.1 j).2.2.1 = some ty → defaultValue ty = sh_tv g (fs.getD j none)) (ho : φ o = none) (ha : sh_ad g o = sz) (hr : cells + 1 ≤ sh_mc M ∧ slots + q.2.2 ≤ sh_ms M) (hφ : sh_up φ o (.inl (ci, fs)) = φ') (kk : sh_V g M (cells + 1) (slots + q.2.2) (pc + 3) ls (sh_R o :: st) φ' (sz + 1) Q) : sh_V g M cells slots pc ls st φ sz Q := by
  intro p e s m args below meth c X H locs lsA hl hW hS
  obtain ⟨hx, hb, hml, hown, hts, hK, hST, hA, hret, hlocks, hnm⟩ := id X
  obtain ⟨C, T, n⟩ := q
  obtain ⟨hin, ⟨ty0, hty⟩, hnmd⟩ := hC
  have hKn := hK.1 ci _ hq
  refine W.newcK hx hb hown (hts _ hcl) (hts _ hinst) (hts _ hini) rfl d hr.1 hr.2 hKn.2.1 hW.1 fun H1 kC hkC e1 z1 o1 => ?_
  have k2 := kk p e s m args below meth c X H1 locs lsA hl ?_ (sh_S.push hS hW.1 z1 o1)
  · rw [← ha]
    exact k2
  · rw [← hφ]
    refine hW.push ho ha (hA _ (hW.1 ▸ hS.1)) z1 ?_ o1
    rw [ha]
    refine ⟨_, hq, (u_born ty0 hts hin hKn hkC e1 hty).to (fun j hj => ?_)⟩
    rw [hfs j hj _ (hty j hj)]
    show _ = (fs.map (sh_tv g)).getD j .null
    rw [List.getD_eq_getElem?_getD, List.getD_eq_getElem?_getD, List.getElem?_map]
    cases fs[j]? <;> rfl
theorem sh_newi {atype : ArrayType} {ty : FieldType} {t : Nat} {o : sh_O} {n : Int32} {N' : Nat} {c0 : sh_c} (d : decode (sh_cc M) pc = .ok (.newarray atype, 2)) (hty : newarray.typeOf atype = ty) (hw : Cond.arrayClass (newarray.typeOf atype) ∈ shW) (ht : (sh_tys g)[t]? = some (sh_cy g t, ty)) (hc0 : sh_ce g c0 = .inl (sh_cy g t, N', .inl (fun _ => 0))) (hpr : ty = .int ∨ ty = .char) (hn : ¬ n < 0) (hN : n.toNatClampNeg = N') (hbytes : N' ≤ 10000) (ho : φ o = none) (ha : sh_ad g o = sz) (hr : cells + 1 ≤ sh_mc M ∧ slots + N' ≤ sh_ms M) (hφ : sh_up φ o c0 = φ') (kk : sh_V g M (cells + 1) (slots + N') (pc + 2) ls (sh_R o :: st) φ' (sz + 1) Q) : sh_V g M cells slots pc ls (sh_I n :: st) φ sz Q := by
  intro p e s m args below meth c X H locs lsA hl hW hS
  obtain ⟨hx, hb, hml, hown, hts, hK, hST, hA, hret, hlocks, hnm⟩ := id X
  subst hty
  have hb4 : N' * componentBytes (newarray.typeOf atype) ≤ 536870912 := by
    rcases hpr with e4 | e4 <;> rw [e4] <;> (show N' * _ ≤ _) <;> simp only [componentBytes] <;> omega
  refine va_newaK hx hb (hts _ hw) rfl d rfl hn hN hb4 hr.1 hr.2 hW.1 fun H1 cA e1 z1 o1 hAr hNm => ?_
  have hcA : cA = sh_cy g t := by
    have h5 := (hK.2 t _ ht).2
    rcases hpr with e4 | e4 <;> rw [e4] at h5 hNm <;> exact Option.some.inj (hNm.symm.trans h5)
  have k2 := kk p e s m args below meth c X H1 locs lsA hl ?_ (sh_S.push hS hW.1 z1 o1)
  · rw [← ha]
    exact k2
  · rw [← hφ]
    refine hW.push ho ha (hA _ (hW.1 ▸ hS.1)) z1 ?_ o1
    rw [ha, hc0]
    show H1[sz]? = some (vp_cell _ _)
    rw [e1, hcA, vp_cell_i]
    rcases hpr with e4 | e4 <;> rw [e4] <;> rfl
theorem sh_newq {ix t : Nat} {C : String} {o : sh_O} {n : Int32} {N' : Nat} (d : decode (sh_cc M) pc = .ok (.anewarray ix, 3)) (hcl : Cond.classLink M.1.cls ix C ∈ shW) (hov : Cond.arrayOver (.object C) ∈ lw_tbl) (ht : (sh_tys g)[t]? = some (sh_cy g t, .object C)) (hn : ¬ n < 0) (hN : n.toNatClampNeg = N') (hbytes : N' ≤ 10000) (ho : φ o = none) (ha : sh_ad g o = sz) (hr : cells + 1 ≤ sh_mc M ∧ slots + N' ≤ sh_ms M) (hφ : sh_up φ o (.inr (.inr (.inr (t, N', fun _ => none)))) = φ') (kk : sh_V g M (cells + 1) (slots + N') (pc + 3) ls (sh_R o :: st) φ' (sz + 1) Q) : sh_V g M cells slots pc ls (sh_I n :: st) φ sz Q := by
  intro p e s m args below meth c X H locs lsA hl hW hS
  obtain ⟨hx, hb, hml, hown, hts, hK, hST, hA, hret, hlocks, hnm⟩ := id X
  subst hN
  refine W.anew hx hb hown (hts _ hcl) (va_AO.use (hST.2.2.2 C hov)) rfl d rfl hn (by omega) hr.1 hr.2 fun cA kA comp f1 f2 f3 f4 => ?_
  generalize hH1 : H.push ({ cls := cA, slots := Array.replicate n.toNatClampNeg .null, vm := .none } : Cell) = H1
  have z1 : H1.size = sz + 1 := by rw [← hH1, Array.size_push, hW.1]
  have e1 : H1[sz]? = some (arrV cA n.toNatClampNeg (fun _ => .null)) := by rw [← hH1, ← hW.1, Array.getElem?_push_size, ← arrV_new]
  have o1 : ∀ q : Nat, q < sz → H1[q]? = H[q]? := fun q hq => by rw [← hH1, Array.getElem?_push, if_neg (by rw [hW.1]; exact Nat.ne_of_lt hq)]
  have hcA : cA = sh_cy g t := by
    obtain ⟨-, kA2, comp2, -, -, -, h5⟩ := hK.2 t _ ht
    exact Option.some.inj (f1.symm.trans h5)
  have k2 := kk p e s m args below meth c X H1 locs lsA hl ?_ (sh_S.push hS hW.1 z1 o1)
  · rw [hW.1, ← ha]
    exact k2
  · rw [← hφ]
    refine hW.push ho ha (hA _ (hW.1 ▸ hS.1)) z1 ?_ o1
    rw [ha]
    show H1[sz]? = some (vp_cell _ _)
    rw [e1, hcA, vp_cell_q]
    rfl
end ROWS5
end
